/-! the reference's search -/
def CR (w : Wd) (f : Nat → Nat) (n : Nat) : Prop := ∀ i, i < n → w.1 48 i = nI (f i)
theorem CR.off {S : Nat → Prop} {w w1 : Wd} {f : Nat → Nat} {n : Nat} (h : CR w f n) (ho : Off S w w1) (hs : ¬ S 48) : CR w1 f n := fun i hi => by rw [(ho 48 hs).1]; exact h i hi
theorem leS {W s : Nat} (hW : W < 1000000) (hs : s < 1000000) : nI W ≤ nI s - nI 1 ↔ W + 1 ≤ s := by
  cases s with
  | zero =>
    have e : nI 0 - nI 1 = -1 := by decide
    rw [e]
    exact ⟨fun h => absurd h (nle_m1 (by omega)), fun h => by omega⟩
  | succ s =>
    rw [sub_N (by omega), le_N (by omega) (by omega)]; omega
theorem dayN_at {r : Nat → Nat} (hd : DayUp r) {t g n h : Nat} (hh : h < r 1) : dayN r t g n (r (46 + h)) = if g ≤ h ∧ h < g + n then 0 else load r t h := by
  unfold dayN
  rw [sumN_one (a := h) (r 1) hh]
  · unfold dayG
    rw [if_pos rfl]
  · intro k hk hne2
    unfold dayG
    rw [if_neg (show ¬ r (46 + k) = r (46 + h) from fun z => hne2 (dayUp_inj hd hk hh z))]
    split <;> rfl
theorem dayN_no {r : Nat → Nat} {t g n e : Nat} (hno : ∀ h, h < r 1 → r (46 + h) ≠ e) : dayN r t g n e = 0 := by
  unfold dayN
  refine sumN_zero _ (fun k hk => ?_)
  unfold dayG
  rw [if_neg (hno k hk)]
  split <;> rfl
/-- the days with the row's throws added, one game after the other -/
def dAdd (r : Nat → Nat) (g t : Nat) (f D : Nat → Nat) : Nat → (Nat → Nat)
  | 0 => D
  | j + 1 => upR (dAdd r g t f D j) (r (46 + (g + j))) (dAdd r g t f D j (r (46 + (g + j))) + (if f j = t then fullN r t (g + j) else 0))
theorem dAdd_at {r : Nat → Nat} (hd : DayUp r) {g t : Nat} {f D : Nat → Nat} {h : Nat} (hh : h < r 1) : ∀ k, g + k ≤ r 1 → dAdd r g t f D k (r (46 + h)) = D (r (46 + h)) + (if g ≤ h ∧ h < g + k then (if f (h - g) = t then fullN r t h else 0) else 0) := by
  intro k
  induction k with
  | zero =>
    intro _
    rw [if_neg (by omega)]; rfl
  | succ k ih =>
    intro hk
    have i := ih (by omega)
    show upR (dAdd r g t f D k) (r (46 + (g + k))) (dAdd r g t f D k (r (46 + (g + k))) + (if f k = t then fullN r t (g + k) else 0)) (r (46 + h)) = _
    by_cases q : h = g + k
    · subst q
      rw [upR_e, i, if_neg (show ¬ (g ≤ g + k ∧ g + k < g + k) by omega), if_pos (show g ≤ g + k ∧ g + k < g + (k + 1) by omega), show g + k - g = k by omega]; rfl
    · rw [upR_n (fun z => q (dayUp_inj hd hh (by omega) z)), i]
      by_cases p : g ≤ h ∧ h < g + k
      · rw [if_pos p, if_pos (show g ≤ h ∧ h < g + (k + 1) by omega)]
      · rw [if_neg p, if_neg (show ¬ (g ≤ h ∧ h < g + (k + 1)) by omega)]
theorem dAdd_no {r : Nat → Nat} {g t : Nat} {f D : Nat → Nat} {e : Nat} (hno : ∀ h, h < r 1 → r (46 + h) ≠ e) : ∀ k, g + k ≤ r 1 → dAdd r g t f D k e = D e := by
  intro k
  induction k with
  | zero => intro _; rfl
  | succ k ih =>
    intro hk
    show upR (dAdd r g t f D k) (r (46 + (g + k))) _ e = _
    rw [upR_n (fun z => hno (g + k) (by omega) z.symm)]
    exact ih (by omega)
theorem TD_row {r : Nat → Nat} (hW : WFr r) (hd : DayUp r) {g n t : Nat} {f : Nat → Nat} (hn : g + n ≤ r 1) (i : Nat) : TD r (TSb r g n t (fun j => f j == t)) (g + i) (dAdd r g t f (dayN r t g n) n) := by
  have h1 := hW.2.2.1
  refine ⟨fun h hh _ => ?_, fun e he hno => by rw [dAdd_no hno n hn, dayN_no hno]⟩
  rw [dAdd_at hd hh n hn, dayN_at hd hh]
  unfold TSb
  by_cases q : g ≤ h ∧ h < g + n
  · rw [if_pos q, if_pos q, if_pos q, Nat.zero_add]
    by_cases p : f (h - g) = t
    · have e : (f (h - g) == t) = true := beq_iff_eq.mpr p
      rw [if_pos p, if_pos e]
    · have e : ¬ (f (h - g) == t) = true := fun z => p (beq_iff_eq.mp z)
      rw [if_neg p, if_neg e]
  · rw [if_neg q, if_neg q, if_neg q, Nat.add_zero, ldT_lt (by omega)]
theorem dAdd_le {r : Nat → Nat} (hW : WFr r) (hd : DayUp r) {g n t : Nat} {f : Nat → Nat} (ht : t < 8) (hn : g + n ≤ r 1) {k : Nat} (hk : k ≤ n) (e : Nat) : dAdd r g t f (dayN r t g n) k e ≤ 500 := by
  have h1 := hW.2.2.1
  have hT := hW.2.2.2.2.2.2.1 t ht
  have a := dayN_le hW hd t g n e
  by_cases q : ∃ h, h < r 1 ∧ r (46 + h) = e
  · obtain ⟨h, hh, rfl⟩ := q
    rw [dAdd_at hd hh k (by omega)]
    split
    · split
      · unfold fullN; omega
      · omega
    · omega
  · rw [dAdd_no (fun h hh z => q ⟨h, hh, z⟩) k (by omega)]; omega
def alR (r : Nat → Nat) (g n : Nat) (f : Nat → Nat) (i : Nat) : Prop := f i = r 0 ∨ allowT r (TSb r g n (f i) (fun j => f j == f i)) (f i) (g + i) (fullN r (f i) (g + i))
theorem prOk_al {r : Nat → Nat} {g n : Nat} {f : Nat → Nat} (hb : ∀ j, j < n → f j ≤ r 0) : prOk r g n n f ↔ ∀ i, i < n → alR r g n f i := by
  have key : ∀ t, TSb r g n t (fun j => decide (j < n) && f j == t) = TSb r g n t (fun j => f j == t) := fun t => TSb_congr (fun j hj => by
    show (decide (j < n) && f j == t) = (f j == t)
    rw [decide_eq_true hj, Bool.true_and])
  constructor
  · intro h i hi
    by_cases q : f i = r 0
    · exact Or.inl q
    · refine Or.inr ?_
      have := h (f i) (by have := hb i hi; omega) i hi (by
        show (decide (i < n) && f i == f i) = true
        rw [decide_eq_true hi, beq_self_eq_true]; rfl)
      rw [key] at this
      exact this
  · intro h t ht i hi hs
    have e : f i = t := eq_of_beq (Bool.and_eq_true_iff.mp hs).2
    rcases h i hi with q | q
    · omega
    · rw [key]
      rw [e] at q
      exact q
section RB
variable {w : Wd} {r : Nat → Nat} {g n : Nat} {f : Nat → Nat} {K : Kt}
theorem g_rowWorth (hM : RM w r) (hW : WFr r) (hn : g + n ≤ r 1) (h5 : n ≤ 5) (hf : CR w f n) (hb : ∀ j, j < n → f j ≤ r 0) (h : K (some (.int (nI (roW r g n f)))) w) : fX11_rowWorth [.ref 41, .int (nI g), .int (nI n)] w K := by
  have h0 := hW.2.1
  have h1 := hW.2.2.1
  have L : ∀ (m i : Nat), i + m = n → RR (tl K lX11_rowWorth) 5 [.ref 41, .int (nI g), .int (nI n), .int (nI (sumN (gaN r g f) i)), .int (nI i)] [] w := by
    intro m
    induction m with
    | zero =>
      intro i hi
      have : i = n := by omega
      subst this
      exact tX11_rowWorth_5 ⟨fun _ => h, fun q => absurd (Int32.le_refl _) q⟩
    | succ m ih =>
      intro i hi
      have bi := hb i (by omega)
      have fi : rd w 48 (nI i) = nI (f i) := by rw [rd_N (by omega)]; exact hf i (by omega)
      refine tX11_rowWorth_5 ⟨fun q => absurd q (by rw [le_N (by omega) (by omega)]; omega), fun _ => ?_⟩
      rw [fi, rdM hM (show 0 < 2147483648 by omega), eq_N (by omega) (by omega), nI_add g i, nI_add i 1]
      refine ⟨vp_in_nI (by omega) (by decide), fun q => ?_, fun q => ?_⟩
      · have fl := full_le hW (t := f i) (g := g + i) (by omega)
        rw [full_M hM hW (by omega) (by omega)]
        refine ⟨by rw [nI_add]; exact vp_in_nI (by omega) (by decide), by rw [nI_add]; exact vp_in_nI (by omega) (by decide), g_worthOf hM hW (by omega) (by omega) fl (tX11_rowWorth_62 ?_)⟩
        rw [nI_add (sumN (gaN r g f) i), nI_add i 1]
        have := ih (i + 1) (by omega)
        have e : gaN r g f i = worthN r (f i) (g + i) (fullN r (f i) (g + i)) := if_neg q
        rw [← e]
        exact this
      · have e : gaN r g f i = 0 := if_pos q
        rw [nI_add (sumN (gaN r g f) i) 0]
        have := ih (i + 1) (by omega)
        have e2 : sumN (gaN r g f) (i + 1) = sumN (gaN r g f) i + 0 := by
          show sumN (gaN r g f) i + gaN r g f i = _
          rw [e]
        rw [e2] at this
        exact this
  exact tX11_rowWorth_0 (L n 0 (by omega))
theorem g_isRowAllowed (hM : RM w r) (hW : WFr r) (hV : VP r) (hn : g + n ≤ r 1) (h5 : n ≤ 5) (hf : CR w f n) (hb : ∀ j, j < n → f j ≤ r 0) (h : ∀ w1 v, Off (· = 47) w w1 → isB v (prOk r g n n f) → K (some (.int v)) w1) : fX11_isRowAllowed [.ref 41, .int (nI g), .int (nI n)] w K := by
  have h0 := hW.2.1
  have h1 := hW.2.2.1
  have L : ∀ (m i : Nat) (u4 u5 : Value) (w1 : Wd), i + m = n → Off (· = 47) w w1 → (∀ j, j < i → alR r g n f j) → RR (tl K lX11_isRowAllowed) 2 [.ref 41, .int (nI g), .int (nI n), .int (nI i), u4, u5] [] w1 := by
    intro m
    induction m with
    | zero =>
      intro i u4 u5 w1 hi ho ha
      have : i = n := by omega
      subst this
      exact tX11_isRowAllowed_2 ⟨fun _ => h w1 _ ho (Or.inl ⟨rfl, (prOk_al hb).mpr ha⟩), fun q => absurd (Int32.le_refl _) q⟩
    | succ m ih =>
      intro i u4 u5 w1 hi ho ha
      have hM1 := hM.off ho (by decide)
      have hf1 := hf.off ho (by decide)
      have bi := hb i (by omega)
      have fi : rd w1 48 (nI i) = nI (f i) := by rw [rd_N (by omega)]; exact hf1 i (by omega)
      refine tX11_isRowAllowed_2 ⟨fun q => absurd q (by rw [le_N (by omega) (by omega)]; omega), fun _ => ?_⟩
      rw [fi, rdM hM1 (show 0 < 2147483648 by omega), eq_N (by omega) (by omega)]
      refine ⟨vp_in_nI (by omega) (by decide), fun q => ?_, fun q => ?_⟩
      · have ht : f i < r 0 := by omega
        refine g_laysDays hM1 hW (by omega) (by omega) h5 (fun w2 o2 hD2 => tX11_isRowAllowed_37 ?_)
        have M : ∀ (p j : Nat) (w3 : Wd), j + p = n → Off (· = 47) w w3 → DM w3 (dAdd r g (f i) f (dayN r (f i) g n) j) → RR (tl K lX11_isRowAllowed) 40 [.ref 41, .int (nI g), .int (nI n), .int (nI i), .int (nI (f i)), .int (nI j)] [] w3 := by
          intro p
          induction p with
          | zero =>
            intro j w3 hj o3 hD3
            have : j = n := by omega
            subst this
            have hM3 := hM.off o3 (by decide)
            have hG := hW.2.2.2.2.2.2.2.1 (g + i) (by omega)
            have fl := full_le hW (t := f i) (g := g + i) (by omega)
            refine tX11_isRowAllowed_40 ⟨fun _ => ?_, fun q => absurd (Int32.le_refl _) q⟩
            rw [nI_add g i, full_M hM3 hW ht (by omega), nI_add 46 g, nI_add (46 + g) i, rdM hM3 (by omega), nI_add 86 (g + i), nI_add 22 (f i), show 46 + g + i = 46 + (g + i) by omega]
            refine ⟨vp_in_nI (by omega) (by decide), vp_in_nI (by omega) (by decide), vp_in_nI (by omega) (by decide), ?_⟩
            refine g_isAllowed hM3 hW hD3 (dAdd_le hW hV.1 (by omega) hn (Nat.le_refl _)) (by omega) (by omega) (by omega) (fun v hv => ?_)
            have hv : isB v (allowN r (dAdd r g (f i) f (dayN r (f i) g j) j) (f i) (r (46 + (g + i))) (fullN r (f i) (g + i))) := hv
            rw [allow_iff hW hV.1 (by omega) (TD_row hW hV.1 hn i)] at hv
            refine tX11_isRowAllowed_124 ⟨fun y => ?_, fun y => ?_⟩
            · rw [nI_add i 1]
              exact ih (i + 1) _ _ w3 (by omega) o3 (fun k hk => by
                by_cases c : k = i
                · rw [c]; exact Or.inr (hv.t y)
                · exact ha k (by omega))
            · refine h w3 _ o3 (Or.inr ⟨rfl, fun z => ?_⟩)
              rcases (prOk_al hb).mp z i (by omega) with c | c
              · exact q c
              · exact hv.f y c
          | succ p ih2 =>
            intro j w3 hj o3 hD3
            have hM3 := hM.off o3 (by decide)
            have hf3 := hf.off o3 (by decide)
            have hG := hW.2.2.2.2.2.2.2.1 (g + j) (by omega)
            have bj := hb j (by omega)
            have fj : rd w3 48 (nI j) = nI (f j) := by rw [rd_N (by omega)]; exact hf3 j (by omega)
            have dj : rd w3 43 (nI 46 + nI g + nI j) = nI (r (46 + (g + j))) := by rw [nI_add, nI_add, rdM hM3 (by omega), show 46 + g + j = 46 + (g + j) by omega]
            refine tX11_isRowAllowed_40 ⟨fun z => absurd z (by rw [le_N (by omega) (by omega)]; omega), fun _ => ?_⟩
            rw [dj, fj, eq_N (by omega) (by omega), nI_add g j, full_M hM3 hW ht (by omega), rdD hD3 (by omega), nI_add j 1]
            refine ⟨by rw [nI_add, nI_add]; exact vp_in_nI (by omega) (by decide), vp_in_nI (by omega) (by decide), vp_in_nI (by omega) (by decide), fun z => ?_, fun z => ⟨by rw [nI_add]; exact vp_in_nI (by omega) (by decide), by rw [nI_add]; exact vp_in_nI (by omega) (by decide), ?_⟩⟩
            · rw [wr_N (by omega), nI_add _ 0]
              refine ih2 (j + 1) _ (by omega) (o3.tr (Off.up rfl)) (fun e he => ?_)
              rw [upI1]
              show _ = nI (upR (dAdd r g (f i) f (dayN r (f i) g n) j) (r (46 + (g + j))) _ e)
              by_cases c : e = r (46 + (g + j))
              · rw [if_pos ⟨rfl, c⟩, c, upR_e, if_neg z]
              · rw [if_neg (fun y => c y.2), upR_n c]; exact hD3 e he
            · rw [wr_N (by omega), nI_add]
              refine ih2 (j + 1) _ (by omega) (o3.tr (Off.up rfl)) (fun e he => ?_)
              rw [upI1]
              show _ = nI (upR (dAdd r g (f i) f (dayN r (f i) g n) j) (r (46 + (g + j))) _ e)
              by_cases c : e = r (46 + (g + j))
              · rw [if_pos ⟨rfl, c⟩, c, upR_e, if_pos z]
              · rw [if_neg (fun y => c y.2), upR_n c]; exact hD3 e he
        exact M n 0 w2 (by omega) (ho.tr o2) hD2
      · rw [nI_add i 1]
        exact ih (i + 1) _ _ w1 (by omega) ho (fun k hk => by
          by_cases c : k = i
          · rw [c]; exact Or.inl q
          · exact ha k (by omega))
  exact tX11_isRowAllowed_0 (L n 0 _ _ w (by omega) Off.rf (fun j hj => by omega))
/-- the row that comes next: i is the last place that can grow -/
theorem g_nextRow (hM : RM w r) (hW : WFr r) (h5 : n ≤ 5) (hf : CR w f n) {i : Nat} (hi : i < n) (hs : f i < r 0) (hr : ∀ j, i < j → j < n → f j = r 0) (h : ∀ w1, Off (· = 48) w w1 → (∀ j, j < n → w1.1 48 j = if j < i then nI (f j) else if j = i then nI (f i + 1) else nI 0) → K (some (.int (nI 1))) w1) : fX11_nextRow [.ref 41, .int (nI n)] w K := by
  have h0 := hW.2.1
  have L : ∀ (m : Nat) (w1 : Wd), i < m → m ≤ n → Off (· = 48) w w1 → (∀ j, j < n → w1.1 48 j = if j < m then nI (f j) else nI 0) → RR (tl K lX11_nextRow) 4 [.ref 41, .int (nI n), .int (nI m - nI 1)] [] w1 := by
    intro m
    induction m with
    | zero => intro w1 hm; omega
    | succ m ih =>
      intro w1 him hmn ho hc
      have hM1 := hM.off ho (by decide)
      rw [sub_N (by omega), show m + 1 - 1 = m by omega]
      have fm : rd w1 48 (nI m) = nI (f m) := by rw [rd_N (by omega), hc m (by omega), if_pos (by omega)]
      have hM2 : RM (upI w1 48 m (nI (f m + 1))) r := hM1.off (S := fun c => c = 48) (Off.up rfl) (by decide)
      refine tX11_nextRow_4 ⟨fun q => ((lt0_N (by omega)).mp q).elim, fun _ => ⟨vp_in_nI (by omega) (by decide), ?_⟩⟩
      have f8 : f m ≤ 8 := by
        by_cases q : m = i
        · rw [q]; omega
        · rw [hr m (by omega) (by omega)]; exact h0
      rw [fm, nI_add (f m) 1, wr_N (by omega), rdM hM2 (by omega), rd_N (by omega), upI1, if_pos ⟨rfl, rfl⟩, lt_N (by omega) (by omega)]
      refine ⟨fun q => ?_, fun q => ?_⟩
      · have mi : m ≠ i := fun z => by rw [z] at q; omega
        rw [wr_N (by omega), m1s m (by omega)]
        have oo : Off (· = 48) w1 (upI w1 48 m (nI (f m + 1))) := Off.up rfl
        refine ih _ (by omega) (by omega) ((ho.tr oo).tr (Off.up rfl)) (fun j hj => ?_)
        rw [upI1]
        by_cases c : j = m
        · rw [if_pos ⟨rfl, c⟩, if_neg (by omega)]
        · rw [if_neg (fun z => c z.2), upI1, if_neg (fun z => c z.2), hc j hj]
          by_cases c2 : j < m
          · rw [if_pos c2, if_pos (by omega)]
          · rw [if_neg c2, if_neg (by omega)]
      · have mi : m = i := Classical.byContradiction (fun z => q (by rw [hr m (by omega) (by omega)]; omega))
        subst mi
        have oo : Off (· = 48) w1 (upI w1 48 m (nI (f m + 1))) := Off.up rfl
        refine h _ (ho.tr oo) (fun j hj => ?_)
        rw [upI1]
        by_cases c : j = m
        · rw [if_pos ⟨rfl, c⟩, if_neg (by omega), if_pos c]
        · rw [if_neg (fun z => c z.2), hc j hj]
          by_cases c2 : j < m
          · rw [if_pos c2, if_pos (by omega)]
          · rw [if_neg c2, if_neg (by omega), if_neg c]
  exact tX11_nextRow_0 (L n w hi (Nat.le_refl _) Off.rf (fun j hj => by rw [if_pos hj]; exact hf j hj))
theorem g_noRow (hM : RM w r) (hW : WFr r) (h5 : n ≤ 5) (hf : CR w (fun _ => r 0) n) (h : ∀ w1, Off (· = 48) w w1 → K (some (.int (nI 0))) w1) : fX11_nextRow [.ref 41, .int (nI n)] w K := by
  have h0 := hW.2.1
  have L : ∀ (m : Nat) (w1 : Wd), m ≤ n → Off (· = 48) w w1 → (∀ j, j < m → w1.1 48 j = nI (r 0)) → RR (tl K lX11_nextRow) 4 [.ref 41, .int (nI n), .int (nI m - nI 1)] [] w1 := by
    intro m
    induction m with
    | zero =>
      intro w1 hm ho hc
      exact tX11_nextRow_4 ⟨fun _ => h w1 ho, fun q => absurd (by decide) q⟩
    | succ m ih =>
      intro w1 hmn ho hc
      have hM1 := hM.off ho (by decide)
      rw [sub_N (by omega), show m + 1 - 1 = m by omega]
      have fm : rd w1 48 (nI m) = nI (r 0) := by rw [rd_N (by omega), hc m (by omega)]
      have hM2 : RM (upI w1 48 m (nI (r 0 + 1))) r := hM1.off (S := fun c => c = 48) (Off.up rfl) (by decide)
      refine tX11_nextRow_4 ⟨fun q => ((lt0_N (by omega)).mp q).elim, fun _ => ⟨vp_in_nI (by omega) (by decide), ?_⟩⟩
      rw [fm, nI_add (r 0) 1, wr_N (by omega), rdM hM2 (by omega), rd_N (by omega), upI1, if_pos ⟨rfl, rfl⟩, lt_N (by omega) (by omega)]
      refine ⟨fun q => ?_, fun q => absurd (Nat.lt_succ_self _) q⟩
      rw [wr_N (by omega), m1s m (by omega)]
      have oo : Off (· = 48) w1 (upI w1 48 m (nI (r 0 + 1))) := Off.up rfl
      refine ih _ (by omega) ((ho.tr oo).tr (Off.up rfl)) (fun j hj => ?_)
      rw [upI1, if_neg (fun z => by have := z.2; omega), upI1, if_neg (fun z => by have := z.2; omega)]
      exact hc j (by omega)
  exact tX11_nextRow_0 (L n w (Nat.le_refl _) Off.rf hf)
/-- the best row of n games from g on: its sum and one more (0: none yet), and the row -/
noncomputable def beR (r : Nat → Nat) (g n : Nat) : SR := eR r g n n (fun _ => r 0) (0, fun _ => r 0)
def S49 (c : Nat) : Prop := 47 ≤ c ∧ c ≤ 49
def B49 (w : Wd) (s : SR) (n : Nat) : Prop := 0 < s.1 → ∀ i, i < n → w.1 49 i = nI (s.2 i)
theorem B49.off {S : Nat → Prop} {w1 : Wd} {s : SR} (h : B49 w s n) (ho : Off S w w1) (hs : ¬ S 49) : B49 w1 s n := fun p i hi => by rw [(ho 49 hs).1]; exact h p i hi
theorem o49_7 {w1 : Wd} (h : Off (· = 47) w w1) : Off S49 w w1 := h.mono (fun c q => by unfold S49; omega)
theorem o49_8 {w1 : Wd} (h : Off (· = 48) w w1) : Off S49 w w1 := h.mono (fun c q => by unfold S49; omega)
theorem o49_9 {w1 : Wd} (h : Off (· = 49) w w1) : Off S49 w w1 := h.mono (fun c q => by unfold S49; omega)
theorem g_laysBest (hM : RM w r) (hW : WFr r) (hV : VP r) (hn : g + n ≤ r 1) (h5 : n ≤ 5) (h : ∀ w1, Off S49 w w1 → B49 w1 (beR r g n) n → K (some (.int (nI (beR r g n).1 - nI 1))) w1) : fX11_laysBest [.ref 41, .int (nI g), .int (nI n)] w K := by
  have h0 := hW.2.1
  have h1 := hW.2.2.1
  have BB : ∀ f : Nat → Nat, (∀ j, j < n → f j ≤ r 0) → roW r g n f + 1 ≤ 180001 := fun f hb => by have := roW_le hW hn h5 hb; omega
  have E : ∀ (d : Nat) (f : Nat → Nat) (s : SR) (w1 : Wd) (u5 : Value), d ≤ n → (∀ j, j < n - d → f j ≤ r 0) → s.1 ≤ 180001 → (0 < s.1 → ∀ j, j < n → s.2 j ≤ r 0) → Off S49 w w1 → B49 w1 s n → (∀ j, j < n → w1.1 48 j = if j < n - d then nI (f j) else nI 0) → (∀ (w2 : Wd) (x5 : Int32), Off S49 w w2 → B49 w2 (eR r g n d f s) n → (∀ j, j < n → w2.1 48 j = if j < n - d then nI (f j) else nI (r 0)) → fX11_nextRow [.ref 41, .int (nI n)] w2 (fun v w1 => RR (tl K lX11_laysBest) 75 [.ref 41, .int (nI g), .int (nI n), .int (nI (eR r g n d f s).1 - nI 1), .int (nI 1), .int x5] (psh v []) w1)) → RR (tl K lX11_laysBest) 25 [.ref 41, .int (nI g), .int (nI n), .int (nI s.1 - nI 1), .int (nI 1), u5] [] w1 := by
    intro d
    induction d with
    | zero =>
      intro f s w1 u5 hd hb hs hs2 ho hB hc next
      have hM1 := hM.off ho (by unfold S49; omega)
      have hb' : ∀ j, j < n → f j ≤ r 0 := fun j hj => hb j (by omega)
      have hc' : CR w1 f n := fun j hj => by rw [hc j hj, if_pos (by omega)]
      have rw1 := roW_le hW hn h5 hb'
      refine tX11_laysBest_25 ⟨fun q => absurd q (by decide), fun _ => g_rowWorth hM1 hW hn h5 hc' hb' (tX11_laysBest_36 ?_)⟩
      rw [leS (by omega) (by omega)]
      have sk : ¬ (s.1 ≤ roW r g n f ∧ prOk r g n n f) → eR r g n 0 f s = s := fun z => by unfold eR; rw [dec_f z]; rfl
      refine ⟨fun q => ?_, fun q => ?_⟩
      · have := next w1 (nI (roW r g n f)) ho
        rw [sk (fun z => by have := z.1; omega)] at this
        exact this hB (fun j hj => by rw [hc j hj, if_pos (by omega), if_pos (by omega)])
      · refine g_isRowAllowed hM1 hW hV hn h5 hc' hb' (fun w2 v o2 hv => tX11_laysBest_50 ⟨fun y => ?_, fun y => ?_⟩)
        · have := next w2 (nI (roW r g n f)) (ho.tr (o49_7 o2))
          rw [sk (fun z => hv.f y z.2)] at this
          exact this (hB.off o2 (by decide)) (fun j hj => by rw [(o2 48 (by decide)).1, hc j hj, if_pos (by omega), if_pos (by omega)])
        · have tk : eR r g n 0 f s = (roW r g n f + 1, f) := by unfold eR; rw [dec_t ⟨by omega, hv.t y⟩]; rfl
          refine g_lays_b (by omega) (by omega) (fun w3 o3 hj3 => tX11_laysBest_70 ?_)
          have := next w3 (nI (roW r g n f)) ((ho.tr (o49_7 o2)).tr (o49_9 o3))
          rw [tk] at this
          have e : nI (roW r g n f + 1) - nI 1 = nI (roW r g n f) := by rw [sub_N (by omega)]; rfl
          have e' : nI ((roW r g n f + 1, f) : SR).1 - nI 1 = nI (roW r g n f) := e
          rw [e'] at this
          refine this (fun _ i hi => ?_) (fun j hj => ?_)
          · rw [hj3 i, if_pos (by omega), (o2 48 (by decide)).1, show 0 + (i - 0) = i by omega]
            exact hc' i hi
          · rw [(o3 48 (by decide)).1, (o2 48 (by decide)).1, hc j hj, if_pos (by omega), if_pos (by omega)]
    | succ d ih =>
      intro f s w1 u5 hd hb hs hs2 ho hB hc next
      have bd : ∀ (t : Nat), t ≤ r 0 + 1 → (fo t (fun t s => eR r g n d (upR f (n - (d + 1)) t) s) s).1 ≤ 180001 ∧ (0 < (fo t (fun t s => eR r g n d (upR f (n - (d + 1)) t) s) s).1 → ∀ j, j < n → (fo t (fun t s => eR r g n d (upR f (n - (d + 1)) t) s) s).2 j ≤ r 0) := by
        intro t ht
        refine fo_ind (α := SR) (P := fun _ a => a.1 ≤ 180001 ∧ (0 < a.1 → ∀ j, j < n → a.2 j ≤ r 0)) ⟨hs, hs2⟩ t (fun i a hi ha => eR_bound 180001 BB d _ a (by omega) (fun j hj => ?_) ha.1 ha.2)
        by_cases p : j = n - (d + 1)
        · rw [p, upR_e]; omega
        · rw [upR_n p]; exact hb j (by omega)
      have T : ∀ (m t : Nat) (w2 : Wd) (u5 : Value), t + m = r 0 → Off S49 w w2 → B49 w2 (fo t (fun t s => eR r g n d (upR f (n - (d + 1)) t) s) s) n → (∀ j, j < n → w2.1 48 j = if j < n - (d + 1) then nI (f j) else if j = n - (d + 1) then nI t else nI 0) → RR (tl K lX11_laysBest) 25 [.ref 41, .int (nI g), .int (nI n), .int (nI (fo t (fun t s => eR r g n d (upR f (n - (d + 1)) t) s) s).1 - nI 1), .int (nI 1), u5] [] w2 := by
        intro m
        induction m with
        | zero =>
          intro t w2 u5 ht o2 hB2 hc2
          have : t = r 0 := by omega
          subst this
          refine ih (upR f (n - (d + 1)) (r 0)) _ w2 u5 (by omega) (fun j hj => ?_) (bd _ (by omega)).1 (bd _ (by omega)).2 o2 hB2 (fun j hj => ?_) (fun w3 x5 o3 hB3 hc3 => next w3 x5 o3 hB3 (fun j hj => ?_))
          · by_cases p : j = n - (d + 1)
            · rw [p, upR_e]; omega
            · rw [upR_n p]; exact hb j (by omega)
          · rw [hc2 j hj]
            by_cases p : j < n - (d + 1)
            · rw [if_pos p, if_pos (by omega), upR_n (by omega)]
            · rw [if_neg p]
              by_cases p2 : j = n - (d + 1)
              · rw [if_pos p2, if_pos (by omega), p2, upR_e]
              · rw [if_neg p2, if_neg (by omega)]
          · rw [hc3 j hj]
            by_cases p : j < n - (d + 1)
            · rw [if_pos (by omega), if_pos p, upR_n (by omega)]
            · rw [if_neg p]
              by_cases p2 : j = n - (d + 1)
              · rw [if_pos (by omega), p2, upR_e]
              · rw [if_neg (by omega)]
        | succ m ih2 =>
          intro t w2 u5 ht o2 hB2 hc2
          refine ih (upR f (n - (d + 1)) t) _ w2 u5 (by omega) (fun j hj => ?_) (bd _ (by omega)).1 (bd _ (by omega)).2 o2 hB2 (fun j hj => ?_) (fun w3 x5 o3 hB3 hc3 => ?_)
          · by_cases p : j = n - (d + 1)
            · rw [p, upR_e]; omega
            · rw [upR_n p]; exact hb j (by omega)
          · rw [hc2 j hj]
            by_cases p : j < n - (d + 1)
            · rw [if_pos p, if_pos (by omega), upR_n (by omega)]
            · rw [if_neg p]
              by_cases p2 : j = n - (d + 1)
              · rw [if_pos p2, if_pos (by omega), p2, upR_e]
              · rw [if_neg p2, if_neg (by omega)]
          · have hM3 := hM.off o3 (by unfold S49; omega)
            refine g_nextRow (f := fun j => if j < n - (d + 1) then f j else if j = n - (d + 1) then t else r 0) hM3 hW h5 (fun j hj => ?_) (i := n - (d + 1)) (by omega) ?_ (fun j hj hj2 => ?_) (fun w4 o4 hc4 => ?_)
            · rw [hc3 j hj]
              show (if j < n - d then nI (upR f (n - (d + 1)) t j) else nI (r 0)) = nI (if j < n - (d + 1) then f j else if j = n - (d + 1) then t else r 0)
              by_cases p : j < n - (d + 1)
              · rw [if_pos (by omega), if_pos p, upR_n (by omega)]
              · rw [if_neg p]
                by_cases p2 : j = n - (d + 1)
                · rw [if_pos (by omega), if_pos p2, p2, upR_e]
                · rw [if_neg (by omega), if_neg p2]
            · show (if n - (d + 1) < n - (d + 1) then f (n - (d + 1)) else if n - (d + 1) = n - (d + 1) then t else r 0) < r 0
              rw [if_neg (Nat.lt_irrefl _), if_pos rfl]; omega
            · show (if j < n - (d + 1) then f j else if j = n - (d + 1) then t else r 0) = r 0
              rw [if_neg (by omega), if_neg (by omega)]
            · refine tX11_laysBest_75 ?_
              refine ih2 (t + 1) w4 _ (by omega) (o3.tr (o49_8 o4)) (hB3.off o4 (by decide)) (fun j hj => ?_)
              rw [hc4 j hj]
              show (if j < n - (d + 1) then nI (if j < n - (d + 1) then f j else if j = n - (d + 1) then t else r 0) else if j = n - (d + 1) then nI ((if n - (d + 1) < n - (d + 1) then f (n - (d + 1)) else if n - (d + 1) = n - (d + 1) then t else r 0) + 1) else nI 0) = _
              rw [if_neg (Nat.lt_irrefl (n - (d + 1))), if_pos (rfl : n - (d + 1) = n - (d + 1))]
              by_cases p : j < n - (d + 1)
              · rw [if_pos p, if_pos p, if_pos p]
              · rw [if_neg p, if_neg p]
      refine T (r 0) 0 w1 u5 (by omega) ho hB (fun j hj => ?_)
      rw [hc j hj]
      by_cases p : j < n - (d + 1)
      · rw [if_pos p, if_pos p]
      · rw [if_neg p, if_neg p, ite_self]
  have L : ∀ (m i : Nat) (u4 u5 : Value) (w1 : Wd), i + m = n → Off S49 w w1 → (∀ j, j < i → w1.1 48 j = nI 0) → RR (tl K lX11_laysBest) 2 [.ref 41, .int (nI g), .int (nI n), .int (nI i), u4, u5] [] w1 := by
    intro m
    induction m with
    | zero =>
      intro i u4 u5 w1 hi ho hc
      have : i = n := by omega
      subst this
      refine tX11_laysBest_2 ⟨fun _ => ?_, fun q => absurd (Int32.le_refl _) q⟩
      refine E i (fun _ => r 0) (0, fun _ => r 0) w1 u5 (Nat.le_refl _) (fun _ _ => Nat.le_refl _) (by show 0 ≤ 180001; omega) (fun _ _ _ => Nat.le_refl _) ho (fun z => absurd z (Nat.lt_irrefl 0)) (fun j hj => by rw [if_neg (by omega)]; exact hc j hj) (fun w2 x5 o2 hB2 hc2 => ?_)
      have hM2 := hM.off o2 (by unfold S49; omega)
      refine g_noRow hM2 hW h5 (fun j hj => by rw [hc2 j hj, if_neg (by omega)]) (fun w3 o3 => tX11_laysBest_75 (tX11_laysBest_25 ⟨fun _ => h w3 (o2.tr (o49_8 o3)) (hB2.off o3 (by decide)), fun q => absurd rfl q⟩))
    | succ m ih =>
      intro i u4 u5 w1 hi ho hc
      refine tX11_laysBest_2 ⟨fun q => absurd q (by rw [le_N (by omega) (by omega)]; omega), fun _ => ⟨vp_in_nI (by omega) (by decide), ?_⟩⟩
      rw [wr_N (by omega), nI_add i 1]
      refine ih (i + 1) _ _ _ (by omega) (ho.tr (Off.up (by unfold S49; omega))) (fun j hj => ?_)
      rw [upI1]
      by_cases c : j = i
      · rw [if_pos ⟨rfl, c⟩]
      · rw [if_neg (fun z => c z.2)]; exact hc j (by omega)
  exact tX11_laysBest_0 (L n 0 _ _ w (by omega) Off.rf (fun j hj => by omega))
end RB
