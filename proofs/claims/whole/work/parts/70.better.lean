/-! better() -/
abbrev S4 : Type := Nat × Nat × Nat × Nat
def gnP (r : Nat → Nat) (g k t : Nat) (s : S4) : Prop := s.1 + worthN r (who r g k) g (thr r g k) < worthN r t g (thr r g k) ∧ ¬ isIn r t g ∧ alP r t g (thr r g k)
noncomputable def gnS (r : Nat → Nat) (g k t : Nat) (s : S4) : S4 := bif dec (gnP r g k t s) then (worthN r t g (thr r g k) - worthN r (who r g k) g (thr r g k), g, k, t) else s
theorem gnS_t {r : Nat → Nat} {g k t : Nat} {s : S4} (h : gnP r g k t s) : gnS r g k t s = (worthN r t g (thr r g k) - worthN r (who r g k) g (thr r g k), g, k, t) := by unfold gnS; rw [dec_t h]; rfl
theorem gnS_f {r : Nat → Nat} {g k t : Nat} {s : S4} (h : ¬ gnP r g k t s) : gnS r g k t s = s := by unfold gnS; rw [dec_f h]; rfl
noncomputable def gnT (r : Nat → Nat) (g k : Nat) : Nat → S4 → S4
  | 0, s => s
  | n + 1, s => gnS r g k n (gnT r g k n s)
noncomputable def gnK (r : Nat → Nat) (g : Nat) : Nat → S4 → S4
  | 0, s => s
  | n + 1, s => gnT r g n (r 0) (gnK r g n s)
noncomputable def gnG (r : Nat → Nat) : Nat → S4
  | 0 => (0, 0, 0, 0)
  | n + 1 => gnK r n (r (106 + n)) (gnG r n)
def okG (r : Nat → Nat) (s : S4) : Prop := s.1 ≤ 36000 ∧ (0 < s.1 → s.2.1 < r 1 ∧ s.2.2.1 < r (106 + s.2.1) ∧ s.2.2.2 < r 0 ∧ ¬ isIn r s.2.2.2 s.2.1)
section BET
variable {r : Nat → Nat}
theorem gnT_ok (hW : WFr r) {g k : Nat} (hg : g < r 1) (hk : k < r (106 + g)) {s : S4} (hs : okG r s) : ∀ n, n ≤ r 0 → okG r (gnT r g k n s) := by
  have h0 := hW.2.1
  have h1 := hW.2.2.1
  have a3 := (hW.2.2.2.2.2.2.2.1 g (by omega)).2.2.2
  have th : thr r g k ≤ 120 := (hW.2.2.2.2.2.2.2.2.1 (3 * g + k) (by omega)).2
  intro n
  induction n with
  | zero => intro _; exact hs
  | succ n ih =>
    intro hn
    have i := ih (by omega)
    show okG r (gnS r g k n (gnT r g k n s))
    by_cases q : gnP r g k n (gnT r g k n s)
    · rw [gnS_t q]
      have := worth_le hW (t := n) (g := g) (x := thr r g k) (by omega) (by omega) (by omega)
      exact ⟨by show worthN r n g (thr r g k) - _ ≤ 36000; omega, fun _ => ⟨hg, hk, by show n < r 0; omega, q.2.1⟩⟩
    · rw [gnS_f q]; exact i
theorem gnK_ok (hW : WFr r) {g : Nat} (hg : g < r 1) {s : S4} (hs : okG r s) : ∀ n, n ≤ r (106 + g) → okG r (gnK r g n s) := by
  intro n
  induction n with
  | zero => intro _; exact hs
  | succ n ih =>
    intro hn
    exact gnT_ok hW hg (by omega) (ih (by omega)) (r 0) (Nat.le_refl _)
theorem gnG_ok (hW : WFr r) : ∀ n, n ≤ r 1 → okG r (gnG r n) := by
  intro n
  induction n with
  | zero => intro _; exact ⟨Nat.zero_le _, fun h => absurd h (Nat.lt_irrefl 0)⟩
  | succ n ih =>
    intro hn
    exact gnK_ok hW (by omega) (ih (by omega)) _ (Nat.le_refl _)
def bxR (r : Nat → Nat) (s : S4) : Nat → Nat := chgR r s.2.1 s.2.2.1 s.2.2.2 (thr r s.2.1 s.2.2.1)
theorem bx_ok (hW : WFr r) (hV : VP r) {s : S4} (hs : okG r s) (hp : 0 < s.1) : WFr (bxR r s) ∧ VP (bxR r s) ∧ (∀ j, j < 126 ∨ 246 ≤ j → bxR r s j = r j) ∧ bxR r s = upR r (126 + (3 * s.2.1 + s.2.2.1)) s.2.2.2 := by
  obtain ⟨a, b, c, d⟩ := hs.2 hp
  have h0 := hW.2.1
  have h1 := hW.2.2.1
  have a3 := (hW.2.2.2.2.2.2.2.1 s.2.1 (by omega)).2.2.2
  have th : thr r s.2.1 s.2.2.1 ≤ 120 := (hW.2.2.2.2.2.2.2.2.1 (3 * s.2.1 + s.2.2.1) (by omega)).2
  have wg := hV.2.2.1 s.2.1 s.2.2.1 (by omega) b
  have hna : ∀ i, i < r (106 + s.2.1) → i ≠ s.2.2.1 → who r s.2.1 i ≠ s.2.2.2 := fun i hi _ z => d ⟨i, hi, z⟩
  unfold bxR
  refine ⟨WFr_chg hW (by omega) (by omega) (by omega) th, VP_chg hW hV a b c wg.2 hna ?_, fun j hj => chgR_o (by omega) (by omega) hj, ?_⟩
  · rw [sumN_congr (g := thr r s.2.1) _ (fun i hi => by
      rw [(chgR_w (r := r) (t := s.2.2.2) (x := thr r s.2.1 s.2.2.1) (show s.2.1 < 20 by omega) (show s.2.2.1 < 3 by omega) s.2.1 i (by omega) (by omega)).2]
      by_cases c : i = s.2.2.1
      · rw [if_pos ⟨rfl, c⟩, c]
      · rw [if_neg (fun z => c z.2)])]
    exact hV.2.2.2.2.1 _ (by omega)
  · unfold chgR
    funext i
    by_cases q : i = 186 + (3 * s.2.1 + s.2.2.1)
    · rw [q, upR_e, upR_n (by omega)]; rfl
    · rw [upR_n q]
noncomputable def btR : Nat → (Nat → Nat) → Nat × (Nat → Nat)
  | 0, r => (0, r)
  | n + 1, r => bif (gnG r (r 1)).1 == 0 then (0, r) else ((btR n (bxR r (gnG r (r 1)))).1 + 1, (btR n (bxR r (gnG r (r 1)))).2)
theorem btR_0 {n : Nat} (h : (gnG r (r 1)).1 = 0) : btR n r = (0, r) := by
  cases n with
  | zero => rfl
  | succ n =>
    unfold btR
    rw [h]; rfl
theorem btR_s {n : Nat} (h : (gnG r (r 1)).1 ≠ 0) : btR (n + 1) r = ((btR n (bxR r (gnG r (r 1)))).1 + 1, (btR n (bxR r (gnG r (r 1)))).2) := by
  conv => lhs; unfold btR
  rw [beq_false_of_ne h]; rfl
theorem bt_ok : ∀ n (r : Nat → Nat), WFr r → VP r → WFr (btR n r).2 ∧ VP (btR n r).2 ∧ (∀ j, j < 126 ∨ 246 ≤ j → (btR n r).2 j = r j) ∧ (btR n r).1 ≤ n := by
  intro n
  induction n with
  | zero => intro r hW hV; exact ⟨hW, hV, fun _ _ => rfl, Nat.le_refl _⟩
  | succ n ih =>
    intro r hW hV
    by_cases q : (gnG r (r 1)).1 = 0
    · rw [btR_0 q]; exact ⟨hW, hV, fun _ _ => rfl, Nat.zero_le _⟩
    · obtain ⟨hW1, hV1, o, -⟩ := bx_ok hW hV (gnG_ok hW (r 1) (Nat.le_refl _)) (by omega)
      rw [btR_s q]
      obtain ⟨a, b, c, d⟩ := ih _ hW1 hV1
      exact ⟨a, b, fun j hj => (c j hj).trans (o j hj), by show _ + 1 ≤ n + 1; omega⟩
end BET
def PS4 (w : Wd) (s : S4) : Prop := w.1 36 5 = nI s.1 ∧ (0 < s.1 → w.1 36 6 = nI s.2.1 ∧ w.1 36 7 = nI s.2.2.1 ∧ w.1 36 8 = nI s.2.2.2)
theorem PS4.off {S : Nat → Prop} {w w1 : Wd} {s : S4} (h : PS4 w s) (ho : Off S w w1) (hs : ¬ S 36) : PS4 w1 s := by
  unfold PS4 at h ⊢
  rw [(ho 36 hs).1]
  exact h
def SB (c : Nat) : Prop := c = 27 ∨ c = 28 ∨ c = 36
theorem sb_ct : ∀ c, 13 ≤ c → c ≤ 20 → ¬ SB c := fun c h1 h2 h => by unfold SB at h; omega
theorem sb_cp : ∀ c, 21 ≤ c → c ≤ 25 → ¬ SB c := fun c h1 h2 h => by unfold SB at h; omega
theorem sb_27 {w w1 : Wd} (h : Off S27 w w1) : Off SB w w1 := h.mono (fun c q => by unfold S27 at q; unfold SB; omega)
section BET2
variable {w : Wd} {r : Nat → Nat} {K : Kt}
theorem c_weigh (hC : CT w r) (hP : CP w r) (hW : WFr r) (hV : VP r) {g k : Nat} (hg : g < r 1) (hk : k < r (106 + g)) {s : S4} (hs : okG r s) (hS : PS4 w s) (h : ∀ w1, Off SB w w1 → PS4 w1 (gnT r g k (r 0) s) → K none w1) : fX2_weighChanges [.ref 36, .int (nI g), .int (nI k)] w K := by
  have h0 := hW.2.1
  have h1 := hW.2.2.1
  have a3 := (hW.2.2.2.2.2.2.2.1 g (by omega)).2.2.2
  have th : thr r g k ≤ 120 := (hW.2.2.2.2.2.2.2.2.1 (3 * g + k) (by omega)).2
  have wg := hV.2.2.1 g k (by omega) hk
  have e1 : nI g * nI 3 + nI k = nI (g * 3 + k) := by rw [pk_mul, nI_add]
  have f1 : rd w 23 (nI (g * 3 + k)) = nI (who r g k) := by rw [rd_N (by omega)]; exact (hP.2.1 g k (by omega) hk).1
  have f2 : rd w 24 (nI (g * 3 + k)) = nI (thr r g k) := by rw [rd_N (by omega)]; exact (hP.2.1 g k (by omega) hk).2
  have bh := worth_le hW (t := who r g k) (g := g) (x := thr r g k) (by omega) (by omega) (by omega)
  have L : ∀ (n t : Nat) (u6 : Value) (w1 : Wd), t + n = r 0 → Off SB w w1 → PS4 w1 (gnT r g k t s) → RR (tl K lX2_weighChanges) 27 [.ref 36, .int (nI g), .int (nI k), .int (nI (thr r g k)), .int (nI (worthN r (who r g k) g (thr r g k))), .int (nI t), u6] [] w1 := by
    intro n
    induction n with
    | zero =>
      intro t u6 w1 ht ho hS1
      have et : t = r 0 := by omega
      subst et
      have hC1 := hC.off ho sb_ct
      exact tX2_weighChanges_27 ⟨fun _ => h w1 ho hS1, fun q => absurd (by rw [hC1.1]; exact Int32.le_refl _) q⟩
    | succ n ih =>
      intro t u6 w1 ht ho hS1
      have hC1 := hC.off ho sb_ct
      have hP1 := hP.off ho sb_cp
      have ok := gnT_ok hW hg hk hs t (by omega)
      have bt := worth_le hW (t := t) (g := g) (x := thr r g k) (by omega) (by omega) (by omega)
      have bl := load_le hW (t := t) (g := g) (by omega)
      have F : ¬ gnP r g k t (gnT r g k t s) → ∀ (w2 : Wd) (u6 : Value), Off SB w w2 → PS4 w2 (gnT r g k t s) → RR (tl K lX2_weighChanges) 27 [.ref 36, .int (nI g), .int (nI k), .int (nI (thr r g k)), .int (nI (worthN r (who r g k) g (thr r g k))), .int (nI t + nI 1), u6] [] w2 := fun nP w2 u6 o2 s2 => by
        rw [nI_add t 1]
        refine ih (t + 1) u6 w2 (by omega) o2 ?_
        show PS4 w2 (gnS r g k t (gnT r g k t s))
        rw [gnS_f nP]; exact s2
      refine tX2_weighChanges_27 ⟨fun q => absurd q (by rw [hC1.1, le_N (by omega) (by omega)]; omega), fun _ => ?_⟩
      refine c_valueOf hC1 hW (by omega) hg (by omega) (tX2_weighChanges_53 ?_)
      have e2 : nI t * nI 20 + nI g = nI (t * 20 + g) := by rw [pk_mul, nI_add]
      have f3 : rd w1 25 (nI (t * 20 + g)) = nI (load r t g) := by rw [rd_N (by omega)]; exact hP1.2.2 t g (by omega) (by omega)
      rw [hS1.1, subLe_N (by omega) (by omega) (by have := ok.1; omega), e2, f3, le0_N (by omega)]
      refine ⟨fun q => F (fun z => by have := z.1; omega) w1 _ ho hS1, fun q => ⟨vp_in_nI (by omega) (by decide), fun q2 => ?_, fun q2 => ?_⟩⟩
      · have nin : ¬ isIn r t g := fun z => by
          have := (load_pos hV (t := t) (g := g) (by omega)).mpr z
          omega
        refine c_allowsIn hC1 hP1 hW hV (by omega) hg (by omega) (fun w2 v o2 hb => tX2_weighChanges_94 ⟨fun y => ?_, fun y => ?_⟩)
        · exact F (fun z => hb.f y z.2.2) w2 _ (ho.tr (sb_27 o2)) (hS1.off o2 (by unfold S27; omega))
        · have P : gnP r g k t (gnT r g k t s) := ⟨by omega, nin, hb.t y⟩
          have s36 : SB 36 := by unfold SB; omega
          have p1 : Off SB w2 (upI w2 36 5 (nI (worthN r t g (thr r g k)) - nI (worthN r (who r g k) g (thr r g k)))) := Off.up s36
          have p2 := (p1.tr (Off.up (j := 6) (v := nI g) s36)).tr ((Off.up (j := 7) (v := nI k) s36).tr (Off.up (j := 8) (v := nI t) s36))
          rw [nI_add t 1]
          refine ih (t + 1) _ _ (by omega) ((ho.tr (sb_27 o2)).tr p2) ?_
          show PS4 _ (gnS r g k t (gnT r g k t s))
          rw [gnS_t P]
          refine ⟨?_, fun _ => ⟨?_, ?_, ?_⟩⟩
          · rw [upI1, if_neg (by decide), upI1, if_neg (by decide), upI1, if_neg (by decide), upI1, if_pos ⟨rfl, rfl⟩]
            exact sub_N (by omega)
          · rw [upI1, if_neg (by decide), upI1, if_neg (by decide), upI1, if_pos ⟨rfl, rfl⟩]
          · rw [upI1, if_neg (by decide), upI1, if_pos ⟨rfl, rfl⟩]
          · rw [upI1, if_pos ⟨rfl, rfl⟩]
      · exact F (fun z => z.2.1 ((load_pos hV (t := t) (g := g) (by omega)).mp (by omega))) w1 _ ho hS1
  refine tX2_weighChanges_0 ?_
  rw [e1, f2]
  refine ⟨vp_in_nI (by omega) (by decide), tX1_valueAt_0 ?_⟩
  rw [e1, f1, f2]
  exact ⟨vp_in_nI (by omega) (by decide), c_valueOf hC hW wg.1 hg (by omega) (tX1_valueAt_23 (tX2_weighChanges_22 (L (r 0) 0 _ w (by omega) Off.rf hS)))⟩
def SC (c : Nat) : Prop := (22 ≤ c ∧ c ≤ 25) ∨ c = 27 ∨ c = 28 ∨ c = 36
theorem sc_sb {w w1 : Wd} (h : Off SB w w1) : Off SC w w1 := h.mono (fun c q => by unfold SB at q; unfold SC; omega)
theorem sc_sp {w w1 : Wd} (h : Off SP w w1) : Off SC w w1 := h.mono (fun c q => by unfold SP at q; unfold SC; omega)
theorem c_changeBest (hC : CT w r) (hP : CP w r) (hW : WFr r) (hV : VP r) (k0 : (gnG r (r 1)).1 = 0 → ∀ w1, Off SC w w1 → CT w1 r → CP w1 r → K (some (.int (nI 0))) w1) (k1 : (gnG r (r 1)).1 ≠ 0 → ∀ w1, Off SC w w1 → CT w1 (bxR r (gnG r (r 1))) → CP w1 (bxR r (gnG r (r 1))) → K (some (.int (nI 1))) w1) : fX2_changeBest [.ref 36] w K := by
  have h0 := hW.2.1
  have h1 := hW.2.2.1
  have L : ∀ (n g : Nat) (u2 : Value) (w1 : Wd), g + n = r 1 → Off SB w w1 → PS4 w1 (gnG r g) → RR (tl K lX2_changeBest) 7 [.ref 36, .int (nI g), u2] [] w1 := by
    intro n
    induction n with
    | zero =>
      intro g u2 w1 hg ho hS1
      have eg : g = r 1 := by omega
      subst eg
      have hC1 := hC.off ho sb_ct
      have hP1 := hP.off ho sb_cp
      have ok := gnG_ok hW (r 1) (Nat.le_refl _)
      refine tX2_changeBest_7 ⟨fun _ => ⟨fun q => ?_, fun q => ?_⟩, fun q => absurd (by rw [hC1.2.1]; exact Int32.le_refl _) q⟩
      · rw [hS1.1, eq0_N (by have := ok.1; omega)] at q
        obtain ⟨a, b, c, d⟩ := ok.2 (by omega)
        obtain ⟨e6, e7, e8⟩ := hS1.2 (by omega)
        have a3 := (hW.2.2.2.2.2.2.2.1 (gnG r (r 1)).2.1 (by omega)).2.2.2
        have e1 : nI (gnG r (r 1)).2.1 * nI 3 + nI (gnG r (r 1)).2.2.1 = nI ((gnG r (r 1)).2.1 * 3 + (gnG r (r 1)).2.2.1) := by rw [pk_mul, nI_add]
        have f2 : rd w1 24 (nI ((gnG r (r 1)).2.1 * 3 + (gnG r (r 1)).2.2.1)) = nI (thr r (gnG r (r 1)).2.1 (gnG r (r 1)).2.2.1) := by rw [rd_N (by omega)]; exact (hP1.2.1 _ _ (by omega) b).2
        rw [e6, e7, e8, e1, f2]
        exact ⟨vp_in_nI (by omega) (by decide), c_change hC1 hP1 hW hV (by omega) b (by omega) (fun i hi _ z => d ⟨i, hi, z⟩) (fun w2 o2 hC2 hP2 => tX2_changeBest_108 (k1 q w2 ((sc_sb ho).tr (sc_sp o2)) hC2 hP2))⟩
      · rw [hS1.1, eq0_N (by have := ok.1; omega)] at q
        exact k0 q w1 (sc_sb ho) hC1 hP1
    | succ n ih =>
      intro g u2 w1 hg ho hS1
      have hC1 := hC.off ho sb_ct
      have a3 := (hW.2.2.2.2.2.2.2.1 g (by omega)).2.2.2
      refine tX2_changeBest_7 ⟨fun q => absurd q (by rw [hC1.2.1, le_N (by omega) (by omega)]; omega), fun _ => ?_⟩
      have M : ∀ (m k : Nat) (w2 : Wd), k + m = r (106 + g) → Off SB w w2 → PS4 w2 (gnK r g k (gnG r g)) → RR (tl K lX2_changeBest) 23 [.ref 36, .int (nI g), .int (nI k)] [] w2 := by
        intro m
        induction m with
        | zero =>
          intro k w2 hk o2 s2
          have ek : k = r (106 + g) := by omega
          subst ek
          have hP2 := hP.off o2 sb_cp
          refine tX2_changeBest_23 ⟨vp_in_nI (by omega) (by decide), fun _ => ?_, fun q => absurd (by rw [rd_N (by omega), hP2.1 g (by omega)]; exact Int32.le_refl _) q⟩
          rw [nI_add g 1]
          exact ih (g + 1) _ w2 (by omega) o2 s2
        | succ m ih2 =>
          intro k w2 hk o2 s2
          have hC2 := hC.off o2 sb_ct
          have hP2 := hP.off o2 sb_cp
          refine tX2_changeBest_23 ⟨vp_in_nI (by omega) (by decide), fun q => absurd q (by rw [rd_N (by omega), hP2.1 g (by omega), le_N (by omega) (by omega)]; omega), fun _ => ?_⟩
          refine c_weigh hC2 hP2 hW hV (by omega) (by omega) (gnK_ok hW (by omega) (gnG_ok hW g (by omega)) k (by omega)) s2 (fun w3 o3 s3 => tX2_changeBest_45 ?_)
          rw [nI_add k 1]
          exact ih2 (k + 1) w3 (by omega) (o2.tr o3) s3
      exact M (r (106 + g)) 0 w1 (by omega) ho hS1
  refine tX2_changeBest_0 (L (r 1) 0 _ _ (by omega) (Off.up (by unfold SB; omega)) ⟨?_, fun z => absurd z (Nat.lt_irrefl 0)⟩)
  rw [upI1, if_pos ⟨rfl, rfl⟩]; rfl
/-- the reference's side -/
def GB (w w1 : Wd) : Prop := Off (fun c => c = 41 ∨ c = 47) w w1 ∧ ∀ j, j < 26 → w1.1 41 j = w.1 41 j
theorem GB.rf : GB w w := ⟨Off.rf, fun _ _ => rfl⟩
theorem GB.tr {w1 w2 : Wd} (a : GB w w1) (b : GB w1 w2) : GB w w2 := ⟨a.1.tr b.1, fun j hj => (b.2 j hj).trans (a.2 j hj)⟩
theorem GB.o47 {w1 : Wd} (h : Off (· = 47) w w1) : GB w w1 := ⟨h.mono (fun c q => Or.inr q), fun j _ => by rw [(h 41 (by decide)).1]⟩
def PGb (w : Wd) (s : S4) : Prop := 0 < s.1 → w.1 41 26 = nI (3 * s.2.1 + s.2.2.1) ∧ w.1 41 27 = nI s.2.2.2
theorem PGb.off {w1 : Wd} {s : S4} (h : PGb w s) (ho : Off (· = 47) w w1) : PGb w1 s := by
  unfold PGb at h ⊢
  rw [(ho 41 (by decide)).1]
  exact h
theorem g_laysGain (hM : RM w r) (hW : WFr r) (hV : VP r) (k : ∀ w1 v, GB w w1 → PGb w1 (gnG r (r 1)) → isB v ((gnG r (r 1)).1 ≠ 0) → K (some (.int v)) w1) : fX11_laysGain [.ref 41] w K := by
  have h0 := hW.2.1
  have h1 := hW.2.2.1
  have L : ∀ (n g : Nat) (u3 u4 u5 u6 : Value) (w1 : Wd), g + n = r 1 → GB w w1 → PGb w1 (gnG r g) → RR (tl K lX11_laysGain) 4 [.ref 41, .int (nI (gnG r g).1), .int (nI g), u3, u4, u5, u6] [] w1 := by
    intro n
    induction n with
    | zero =>
      intro g u3 u4 u5 u6 w1 hg ho hS1
      have eg : g = r 1 := by omega
      subst eg
      have hM1 := hM.off ho.1 (by decide)
      have ok := gnG_ok hW (r 1) (Nat.le_refl _)
      refine tX11_laysGain_4 ⟨fun _ => ⟨fun q => ?_, fun q => ?_⟩, fun q => absurd (by rw [rdM hM1 (by omega)]; exact Int32.le_refl _) q⟩
      · rw [le0_N (by have := ok.1; omega)] at q
        exact k w1 _ ho hS1 (Or.inr ⟨rfl, fun z => z q⟩)
      · rw [le0_N (by have := ok.1; omega)] at q
        exact k w1 _ ho hS1 (Or.inl ⟨rfl, q⟩)
    | succ n ih =>
      intro g u3 u4 u5 u6 w1 hg ho hS1
      have hM1 := hM.off ho.1 (by decide)
      have a3 := (hW.2.2.2.2.2.2.2.1 g (by omega)).2.2.2
      refine tX11_laysGain_4 ⟨fun q => absurd q (by rw [rdM hM1 (by omega), le_N (by omega) (by omega)]; omega), fun _ => ?_⟩
      have M : ∀ (m kk : Nat) (u4 u5 u6 : Value) (w2 : Wd), kk + m = r (106 + g) → GB w w2 → PGb w2 (gnK r g kk (gnG r g)) → RR (tl K lX11_laysGain) 16 [.ref 41, .int (nI (gnK r g kk (gnG r g)).1), .int (nI g), .int (nI kk), u4, u5, u6] [] w2 := by
        intro m
        induction m with
        | zero =>
          intro kk u4 u5 u6 w2 hk o2 s2
          have ek : kk = r (106 + g) := by omega
          subst ek
          have hM2 := hM.off o2.1 (by decide)
          refine tX11_laysGain_16 ⟨by rw [nI_add]; exact vp_in_nI (by omega) (by decide), fun _ => ?_, fun q => absurd (by rw [nI_add, rdM hM2 (by omega)]; exact Int32.le_refl _) q⟩
          rw [nI_add g 1]
          exact ih (g + 1) _ _ _ _ w2 (by omega) o2 s2
        | succ m ih2 =>
          intro kk u4 u5 u6 w2 hk o2 s2
          have hM2 := hM.off o2.1 (by decide)
          have th : thr r g kk ≤ 120 := (hW.2.2.2.2.2.2.2.2.1 (3 * g + kk) (by omega)).2
          have wg := hV.2.2.1 g kk (by omega) (by omega)
          have e2 : nI 3 * nI g + nI kk = nI (3 * g + kk) := by rw [pk_mul, nI_add]
          have et : ∀ w3, RM w3 r → rd w3 43 (nI (186 + (3 * g + kk))) = nI (thr r g kk) := fun w3 h => by rw [rdM h (by omega)]; rfl
          have ew : ∀ w3, RM w3 r → rd w3 43 (nI (126 + (3 * g + kk))) = nI (who r g kk) := fun w3 h => by rw [rdM h (by omega)]; rfl
          have bh := worth_le hW (t := who r g kk) (g := g) (x := thr r g kk) (by omega) (by omega) (by omega)
          have okk := gnK_ok hW (show g < r 1 by omega) (gnG_ok hW g (by omega)) kk (by omega)
          refine tX11_laysGain_16 ⟨by rw [nI_add]; exact vp_in_nI (by omega) (by decide), fun q => absurd q (by rw [nI_add, rdM hM2 (by omega), le_N (by omega) (by omega)]; omega), fun _ => ?_⟩
          rw [e2, nI_add, et w2 hM2]
          refine ⟨vp_in_nI (by omega) (by decide), ?_⟩
          have T : ∀ (p t : Nat) (u6 : Value) (w3 : Wd), t + p = r 0 → GB w w3 → PGb w3 (gnT r g kk t (gnK r g kk (gnG r g))) → RR (tl K lX11_laysGain) 40 [.ref 41, .int (nI (gnT r g kk t (gnK r g kk (gnG r g))).1), .int (nI g), .int (nI kk), .int (nI (thr r g kk)), .int (nI t), u6] [] w3 := by
            intro p
            induction p with
            | zero =>
              intro t u6 w3 ht o3 s3
              have et : t = r 0 := by omega
              subst et
              have hM3 := hM.off o3.1 (by decide)
              refine tX11_laysGain_40 ⟨fun _ => ?_, fun q => absurd (by rw [rdM hM3 (by omega)]; exact Int32.le_refl _) q⟩
              rw [nI_add kk 1]
              exact ih2 (kk + 1) _ _ _ w3 (by omega) o3 s3
            | succ p ih3 =>
              intro t u6 w3 ht o3 s3
              have hM3 := hM.off o3.1 (by decide)
              have ok := gnT_ok hW (show g < r 1 by omega) (show kk < r (106 + g) by omega) okk t (by omega)
              have bt := worth_le hW (t := t) (g := g) (x := thr r g kk) (by omega) (by omega) (by omega)
              have F : ¬ gnP r g kk t (gnT r g kk t (gnK r g kk (gnG r g))) → ∀ (w4 : Wd) (u6 : Value), GB w w4 → PGb w4 (gnT r g kk t (gnK r g kk (gnG r g))) → RR (tl K lX11_laysGain) 40 [.ref 41, .int (nI (gnT r g kk t (gnK r g kk (gnG r g))).1), .int (nI g), .int (nI kk), .int (nI (thr r g kk)), .int (nI t + nI 1), u6] [] w4 := fun nP w4 u6 o4 s4 => by
                rw [nI_add t 1]
                have es : gnT r g kk (t + 1) (gnK r g kk (gnG r g)) = gnT r g kk t (gnK r g kk (gnG r g)) := gnS_f nP
                have := ih3 (t + 1) u6 w4 (by omega) o4 (by rw [es]; exact s4)
                rw [es] at this
                exact this
              refine tX11_laysGain_40 ⟨fun q => absurd q (by rw [rdM hM3 (by omega), le_N (by omega) (by omega)]; omega), fun _ => ?_⟩
              refine g_worthOf hM3 hW (by omega) (by omega) (by omega) (tX11_laysGain_60 ?_)
              rw [e2, nI_add, ew w3 hM3]
              refine ⟨vp_in_nI (by omega) (by decide), g_worthOf hM3 hW (by omega) (by omega) (by omega) (tX11_laysGain_73 ?_)⟩
              rw [subLe_N (by omega) (by omega) (by have := ok.1; omega)]
              refine ⟨fun q => F (fun z => by have := z.1; omega) w3 _ o3 s3, fun q => ?_⟩
              refine g_isIn hM3 hW (by omega) (by omega) (fun v hb => ?_)
              have hb : isB v (isIn r t g) := hb
              refine tX11_laysGain_89 ⟨fun y => F (fun z => z.2.1 (hb.t y)) w3 _ o3 s3, fun y => ?_⟩
              refine g_isAloneAllowed hM3 hW hV.1 (by omega) (by omega) (by omega) (fun w4 v2 o4 hb2 => ?_)
              rw [allow_iff hW hV.1 (by omega) (TD_day hV.1 _ g)] at hb2
              refine tX11_laysGain_101 ⟨fun y2 => F (fun z => hb2.f y2 z.2.2) w4 _ (o3.tr (GB.o47 o4)) (s3.off o4), fun y2 => ?_⟩
              have P : gnP r g kk t (gnT r g kk t (gnK r g kk (gnG r g))) := ⟨by omega, hb.f y, hb2.t y2⟩
              have es : gnT r g kk (t + 1) (gnK r g kk (gnG r g)) = (worthN r t g (thr r g kk) - worthN r (who r g kk) g (thr r g kk), g, kk, t) := gnS_t P
              rw [nI_add t 1, sub_N (by omega), e2]
              have q1 : Off (fun c => c = 41 ∨ c = 47) w4 (upI w4 41 26 (nI (3 * g + kk))) := Off.up (Or.inl rfl)
              have gs : GB w4 (upI (upI w4 41 26 (nI (3 * g + kk))) 41 27 (nI t)) := ⟨q1.tr (Off.up (Or.inl rfl)), fun j hj => by rw [upI1, if_neg (by omega), upI1, if_neg (by omega)]⟩
              have := ih3 (t + 1) (.int (nI (worthN r t g (thr r g kk) - worthN r (who r g kk) g (thr r g kk)))) (upI (upI w4 41 26 (nI (3 * g + kk))) 41 27 (nI t)) (by omega) ((o3.tr (GB.o47 o4)).tr gs) (by
                rw [es]
                intro _
                exact ⟨by rw [upI1, if_neg (by decide), upI1, if_pos ⟨rfl, rfl⟩], by rw [upI1, if_pos ⟨rfl, rfl⟩]⟩)
              rw [es] at this
              exact this
          exact T (r 0) 0 _ w2 (by omega) o2 s2
      exact M (r (106 + g)) 0 _ _ _ w1 (by omega) ho hS1
  exact tX11_laysGain_0 (L (r 1) 0 _ _ _ _ w (by omega) GB.rf (fun z => absurd z (Nat.lt_irrefl 0)))
theorem GA_mk2 {w1 w2 : Wd} {r1 : Nat → Nat} (o1 : Off (fun c => c = 52 ∨ c = 41) (rfs w (nI 0)) w1) (k : ∀ j, j ≠ 24 → w1.1 41 j = (rfs w (nI 0)).1 41 j) {A : Nat} {H : Nat → Nat → Nat} (hH : HW w1 (min (A + 1) 10) (remH r A H)) (o2 : Off (fun c => c = 41 ∨ c = 43 ∨ S51 c) w1 w2) (k2 : ∀ j, j ≤ 6 ∨ j = 24 → w2.1 41 j = w1.1 41 j) (hM : RM w2 r1) : GA w w2 r r1 A H := by
  have p0 : Off (fun c => c = 41 ∨ c = 43 ∨ S51 c ∨ c = 52) w (rfs w (nI 0)) := ((Off.up (Or.inl rfl)).tr (Off.up (Or.inl rfl))).tr (Off.up (Or.inl rfl))
  have p1 : Off (fun c => c = 41 ∨ c = 43 ∨ S51 c ∨ c = 52) (rfs w (nI 0)) w1 := o1.mono (fun c q => by omega)
  have p2 : Off (fun c => c = 41 ∨ c = 43 ∨ S51 c ∨ c = 52) w1 w2 := o2.mono (fun c q => by unfold S51 at q ⊢; omega)
  have e52 : w2.1 52 = w1.1 52 := (o2 52 (by unfold S51; omega)).1
  obtain ⟨-, g1, g2, g3, g5, g6, g24⟩ := GF_r (w := w) (T := nI 0)
  refine ⟨(p0.tr p1).tr p2, hM, ?_, ?_, ?_, ?_, ?_, ?_⟩
  · rw [k2 1 (by omega), k 1 (by decide)]; exact g1
  · rw [k2 2 (by omega), k 2 (by decide)]; exact g2
  · rw [k2 3 (by omega), k 3 (by decide)]; exact g3
  · rw [k2 5 (by omega), k 5 (by decide)]; exact g5
  · rw [k2 6 (by omega), k 6 (by decide)]; exact g6
  · obtain ⟨a, b, c⟩ := hH
    exact ⟨by rw [k2 24 (by omega)]; exact a, b, fun i j hi hj => by rw [e52]; exact c i j hi hj⟩
end BET2
section BET3
variable {w : Wd} {r : Nat → Nat}
theorem p_better (hR : RH w r) : AP w r fX10_better fX11_better [.ref 0] [.ref 41] := by
  have hRR := hR
  obtain ⟨hRA, N, A, H, h3, h4, hw, hm, hv⟩ := hR
  have hRA0 := hRA
  obtain ⟨hM, hC, hP, hW, hV, h6, h7, h8⟩ := hRA
  have h1 := hW.2.2.1
  unfold AP
  refine tX10_better_0 ⟨fun z => ?_, fun z => ?_⟩
  · rw [g0_N hC hW] at z
    refine c_keep hC hP hW hm.1 hm.2.1 h3 h4 (fun w1 o1 k3 k4 ks km => tX10_better_20 ?_)
    have hC1 := hC.off o1 (fun c a b q => by omega)
    have hP1 := hP.off o1 (fun c a b q => by omega)
    have E : ∀ w2, Off SC w1 w2 → CT w2 (btR 99 r).2 → CP w2 (btR 99 r).2 → fX11_better [.ref 41] (upI (upI w2 0 10 (nI 0)) 0 12 (-1)) (fun u w3 => AK w r (some (.int (nI (btR 99 r).1))) u w3) := by
      intro w2 o2 hC2 hP2
      obtain ⟨hW2, hV2, o, -⟩ := bt_ok 99 r hW hV
      have hca := CA_mk hW hm.1 hm.2.1 h3 h4 o1 k3 k4 ks km (o2.mono (fun c q => by unfold SC at q; omega)) hC2 hP2
      have hMc := RM_ca hca hM
      have hwc := HW_ca hca hw
      have h6c : (upI (upI w2 0 10 (nI 0)) 0 12 (-1)).1 41 6 = bI (0 < r 1) := by rw [(hca.1 41 (by omega)).1]; exact h6
      generalize upI (upI w2 0 10 (nI 0)) 0 12 (-1) = wc at hca hMc hwc h6c ⊢
      have e : unI (wc.1 41 6) = nI 0 := by rw [h6c, bI_t z, un_1]
      refine tX11_better_0 ⟨fun _ => ?_, fun q => absurd e q⟩
      rw [e]
      refine g_remembers (RM_rfs hMc) (HW_rfs hwc) (fun w4 og kg hgm => tX11_better_20 ?_)
      have hM4 : RM w4 r := (RM_rfs hMc).off og (by decide)
      have D : ∀ w5, Off (fun c => c = 41 ∨ c = 43 ∨ S51 c) w4 w5 → (∀ j, j < 26 → w5.1 41 j = w4.1 41 j) → RM w5 (btR 99 r).2 → AK w r (some (.int (nI (btR 99 r).1))) (some (.int (nI (btR 99 r).1))) w5 := fun w5 o5 k5 hM5 => act_fin hRA0 h3 h4 hw hm hv hca (GA_mk2 og kg hgm o5 (fun j hj => k5 j (by omega)) hM5) hW2 hV2 (fun j hj => o j (by unfold FX at hj; omega))
      have L : ∀ (n m : Nat) (q : Nat → Nat) (w5 : Wd), m + n = 99 → Off (fun c => c = 41 ∨ c = 43 ∨ S51 c) w4 w5 → (∀ j, j < 26 → w5.1 41 j = w4.1 41 j) → RM w5 q → WFr q → VP q → (btR 99 r).1 = m + (btR n q).1 → (btR 99 r).2 = (btR n q).2 → RR (tl (fun u w3 => AK w r (some (.int (nI (btR 99 r).1))) u w3) lX11_better) 22 [.ref 41, .int (nI m)] [] w5 := by
        intro n
        induction n with
        | zero =>
          intro m q w5 hm5 o5 k5 hM5 hW5 hV5 e1 e2
          have em : m = 99 := by omega
          subst em
          refine tX11_better_22 ⟨fun _ => ?_, fun z => absurd (Int32.le_refl _) z⟩
          have := D w5 o5 k5 (by rw [e2]; exact hM5)
          rw [e1] at this ⊢
          exact this
        | succ n ih =>
          intro m q w5 hm5 o5 k5 hM5 hW5 hV5 e1 e2
          refine tX11_better_22 ⟨fun z => absurd z (by rw [le_N (by omega) (by omega)]; omega), fun _ => ?_⟩
          refine g_laysGain hM5 hW5 hV5 (fun w6 v gs pg hb => ?_)
          have o6 : Off (fun c => c = 41 ∨ c = 43 ∨ S51 c) w4 w6 := o5.tr (gs.1.mono (fun c q => by unfold S51; omega))
          have k6 : ∀ j, j < 26 → w6.1 41 j = w4.1 41 j := fun j hj => (gs.2 j hj).trans (k5 j hj)
          have hM6 := hM5.off gs.1 (by decide)
          refine tX11_better_32 ⟨fun y => ?_, fun y => ?_⟩
          · have z0 : (gnG q (q 1)).1 = 0 := Classical.not_not.mp (hb.f y)
            rw [btR_0 z0] at e1 e2
            have := D w6 o6 k6 (by rw [e2]; exact hM6)
            rw [e1] at this ⊢
            exact this
          · have z0 := hb.t y
            have ok := gnG_ok hW5 (q 1) (Nat.le_refl _)
            obtain ⟨e26, e27⟩ := pg (by omega)
            obtain ⟨hWb, hVb, ob, eb⟩ := bx_ok hW5 hV5 ok (by omega)
            obtain ⟨ba, bb, bc, -⟩ := ok.2 (by omega)
            have q1 := hW5.2.2.1
            have a3 := (hW5.2.2.2.2.2.2.2.1 (gnG q (q 1)).2.1 (by omega)).2.2.2
            rw [e26, e27, nI_add 126, wr_N (by omega), nI_add m 1]
            refine ⟨vp_in_nI (by omega) (by decide), ?_⟩
            rw [btR_s z0] at e1 e2
            have oo : Off (fun c => c = 41 ∨ c = 43 ∨ S51 c) w6 (upI w6 43 (126 + (3 * (gnG q (q 1)).2.1 + (gnG q (q 1)).2.2.1)) (nI (gnG q (q 1)).2.2.2)) := Off.up (Or.inr (Or.inl rfl))
            exact ih (m + 1) (bxR q (gnG q (q 1))) _ (by omega) (o6.tr oo) (fun j hj => by rw [upI1, if_neg (fun z => absurd z.1 (by decide))]; exact k6 j hj) (by rw [eb]; exact RM_set hM6 _ _) hWb hVb (by rw [e1]; show m + (_ + 1) = _; omega) e2
      exact L 99 0 r w4 rfl Off.rf (fun _ _ => rfl) hM4 hW hV (by omega) rfl
    have L : ∀ (n m : Nat) (q : Nat → Nat) (w2 : Wd), m + n = 99 → Off SC w1 w2 → CT w2 q → CP w2 q → WFr q → VP q → (btR 99 r).1 = m + (btR n q).1 → (btR 99 r).2 = (btR n q).2 → RR (tl (fun v w3 => fX11_better [.ref 41] w3 (fun u w4 => AK w r v u w4)) lX10_better) 22 [.ref 0, .int (nI m)] [] w2 := by
      intro n
      induction n with
      | zero =>
        intro m q w2 hm5 o2 hC2 hP2 hW5 hV5 e1 e2
        have em : m = 99 := by omega
        subst em
        refine tX10_better_22 ⟨fun _ => ?_, fun z => absurd (Int32.le_refl _) z⟩
        have := E w2 o2 (by rw [e2]; exact hC2) (by rw [e2]; exact hP2)
        rw [e1] at this
        exact this
      | succ n ih =>
        intro m q w2 hm5 o2 hC2 hP2 hW5 hV5 e1 e2
        refine tX10_better_22 ⟨fun z => absurd z (by rw [le_N (by omega) (by omega)]; omega), fun _ => ?_⟩
        refine c_changeBest hC2 hP2 hW5 hV5 (fun z0 w3 o3 hC3 hP3 => tX10_better_35 ⟨fun _ => ?_, fun y => absurd rfl y⟩) (fun z0 w3 o3 hC3 hP3 => tX10_better_35 ⟨fun y => absurd y (by decide), fun _ => ?_⟩)
        · rw [btR_0 z0] at e1 e2
          have := E w3 (o2.tr o3) (by rw [e2]; exact hC3) (by rw [e2]; exact hP3)
          rw [e1] at this
          exact this
        · obtain ⟨hWb, hVb, ob, eb⟩ := bx_ok hW5 hV5 (gnG_ok hW5 (q 1) (Nat.le_refl _)) (by omega)
          rw [btR_s z0] at e1 e2
          rw [nI_add m 1]
          exact ih (m + 1) _ w3 (by omega) (o2.tr o3) hC3 hP3 hWb hVb (by rw [e1]; show m + (_ + 1) = _; omega) e2
    exact L 99 0 r w1 rfl Off.rf hC1 hP1 hW hV (by omega) rfl
  · rw [g0_N hC hW] at z
    have h6' := txr (w1 := upI (upI w 0 10 (nI 1)) 0 12 (-1)) CF_r h6
    have e : unI ((upI (upI w 0 10 (nI 1)) 0 12 (-1)).1 41 6) = nI 1 := by rw [h6', bI_f z, un_0]
    refine tX11_better_0 ⟨fun q => absurd q (by rw [e]; decide), fun _ => ?_⟩
    rw [e]
    exact AK_of hRR (fin CF_r GF_r)
end BET3
