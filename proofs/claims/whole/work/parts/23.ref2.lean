/-! days: the row of throws by days at cell 47, and who is allowed -/
def DM (w : Wd) (D : Nat → Nat) : Prop := ∀ e : Nat, e < 60 → w.1 47 e = nI (D e)
theorem rdD {w : Wd} {D : Nat → Nat} (h : DM w D) {n : Nat} (hn : n < 60) : rd w 47 (nI n) = nI (D n) := by
  rw [rd_N (by omega)]
  exact h n hn
def updN (D : Nat → Nat) (d x : Nat) : Nat → Nat := fun e => if e = d then x else D e
def lateN (D : Nat → Nat) (last : Nat) : Nat := sumN (fun j => if 6 ≤ last + j ∧ last + j < 66 then D (last + j - 6) else 0) 7
def restOk (r D : Nat → Nat) (d x e : Nat) : Prop := 0 < D e → (e < d → restN r (D e) < d - e) ∧ (d < e → restN r x < e - d)
def allowN (r D : Nat → Nat) (t d x : Nat) : Prop := x ≤ r (22 + t) ∧ (∀ e, e < 60 → restOk r D d x e) ∧ (0 < r 3 → ∀ i, i < 7 → lateN (updN D d x) (d + i) ≤ r 3)
theorem upI_back (w : Wd) (c d : Nat) (x : Int32) : upI (upI w c d x) c d (w.1 c d) = w := by
  unfold upI
  refine Prod.ext ?_ rfl
  funext a b
  by_cases h : a = c ∧ b = d
  · simp [h]
  · simp [h]
theorem DM_up {w : Wd} {D : Nat → Nat} (h : DM w D) (d x : Nat) : DM (upI w 47 d (nI x)) (updN D d x) := by
  intro e he
  unfold updN
  rw [upI1]
  by_cases q : e = d
  · rw [if_pos ⟨rfl, q⟩, if_pos q]
  · rw [if_neg (fun z => q z.2), if_neg q]
    exact h e he
theorem RM_up {w : Wd} {r : Nat → Nat} (h : RM w r) {c : Nat} (hc : c ≠ 43) (d : Nat) (x : Int32) : RM (upI w c d x) r := by
  intro e
  rw [upI1, if_neg (fun z => hc z.1.symm)]
  exact h e
section REF2
variable {w : Wd} {r D : Nat → Nat} {K : Kt}
theorem g_lately (hD : DM w D) {last : Nat} (hl : last ≤ 80) (h : K (some (.int (nI (lateN D last)))) w) : fX11_lately [.ref 41, .int (nI last)] w K := by
  refine tX11_lately_0 ?_
  have L : ∀ (n j : Nat) (a : Int32), j + n = 7 → a = nI (sumN (fun j => if 6 ≤ last + j ∧ last + j < 66 then D (last + j - 6) else 0) j) → RR (tl K lX11_lately) 9 [.ref 41, .int (nI last), .int a, .int (nI (last + j) - nI 6)] [] w := by
    intro n
    induction n with
    | zero =>
      intro j a hj ha
      refine tX11_lately_9 ⟨fun _ => ?_, fun z => absurd ?_ z⟩
      · rw [ha, show j = 7 by omega]; exact h
      · rw [Int32.lt_iff_toInt_lt, pk_sub_toInt (by omega) (by omega), nI_toInt (by omega)]; omega
    | succ n ih =>
      intro j a hj ha
      have e1 : nI (last + j) - nI 6 + nI 1 = nI (last + (j + 1)) - nI 6 := by
        rw [show last + (j + 1) = (last + j) + 1 by omega, ← nI_add (last + j) 1]
        generalize nI (last + j) = x
        generalize nI 6 = y
        generalize nI 1 = z
        grind
      refine tX11_lately_9 ⟨fun z => absurd z ?_, fun _ => ⟨fun z => ?_, fun z => ⟨?_, ?_⟩⟩⟩
      · rw [Int32.lt_iff_toInt_lt, pk_sub_toInt (by omega) (by omega), nI_toInt (by omega)]; omega
      · rw [e1]
        refine ih (j + 1) _ (by omega) ?_
        have q : ¬ (6 ≤ last + j ∧ last + j < 66) := fun q => z (by rw [sub_N q.1]; exact ⟨(le_N (by omega) (by omega)).mpr (by omega), (le_N (by omega) (by omega)).mpr (by omega)⟩)
        rw [ha, nI_add]
        congr 1
        show _ = _ + (if 6 ≤ last + j ∧ last + j < 66 then D (last + j - 6) else 0)
        rw [if_neg q]
      · have q : 6 ≤ last + j ∧ last + j < 66 := by
          have z1 := Int32.le_iff_toInt_le.mp z.1
          have z2 := Int32.le_iff_toInt_le.mp z.2
          rw [pk_sub_toInt (by omega) (by omega), nI_toInt (by omega)] at z1 z2
          omega
        rw [sub_N q.1]; exact vp_in_nI (by omega) (by decide)
      · have q : 6 ≤ last + j ∧ last + j < 66 := by
          have z1 := Int32.le_iff_toInt_le.mp z.1
          have z2 := Int32.le_iff_toInt_le.mp z.2
          rw [pk_sub_toInt (by omega) (by omega), nI_toInt (by omega)] at z1 z2
          omega
        rw [e1]
        refine ih (j + 1) _ (by omega) ?_
        rw [ha, sub_N q.1, rdD hD (by omega), nI_add]
        congr 1
        show _ = _ + (if 6 ≤ last + j ∧ last + j < 66 then D (last + j - 6) else 0)
        rw [if_pos q]
  have e0 : nI last - nI 7 + nI 1 = nI (last + 0) - nI 6 := by
    have : nI 7 = nI 6 + nI 1 := by decide
    rw [this, Nat.add_zero]
    generalize nI last = x
    generalize nI 6 = y
    generalize nI 1 = z
    grind
  rw [e0]
  exact L 7 0 _ (by omega) rfl
theorem g_isAllowed (hM : RM w r) (hW : WFr r) (hD : DM w D) (hDb : ∀ e, D e ≤ 500) {t d x : Nat} (ht : t < 8) (hd : d < 60) (hx : x ≤ 500) (h : ∀ v : Int32, (v = nI 1 ∧ allowN r D t d x) ∨ (v = nI 0 ∧ ¬ allowN r D t d x) → K (some (.int v)) w) : fX11_isAllowed [.ref 41, .int (nI t), .int (nI d), .int (nI x)] w K := by
  have hT := hW.2.2.2.2.2.2.1 t ht
  have h3 := hW.1 3
  have rb : ∀ y, restN r y ≤ 9 := fun y => restL_le (fun i hi => (hW.2.2.2.2.2.2.2.2.2 i hi).2) y (r 2) hW.2.2.2.1
  refine tX11_isAllowed_0 ⟨by rw [nI_add]; exact vp_in_nI (by omega) (by decide), fun z => ?_, fun z => ?_⟩
  · rw [nI_add, rdM hM (by omega), le_N (by omega) (by omega)] at z
    have hD2 := DM_up hD d x
    have hM2 : RM (upI w 47 d (nI x)) r := RM_up hM (by decide) d (nI x)
    have lb : ∀ i, lateN (updN D d x) i ≤ 7 * 500 := fun i => sumN_le 7 (fun k _ => by
      show (if _ then _ else _) ≤ 500
      split
      · unfold updN
        split
        · exact hx
        · exact hDb _
      · omega)
    have L2 : (∀ e, e < 60 → restOk r D d x e) → ∀ (n i : Nat) (a : Int32), i + n = 7 → ((a = nI 1 ∧ (0 < r 3 → ∀ j, j < i → lateN (updN D d x) (d + j) ≤ r 3)) ∨ (a = nI 0 ∧ ¬ (0 < r 3 → ∀ j, j < i → lateN (updN D d x) (d + j) ≤ r 3))) → RR (tl K lX11_isAllowed) 109 [.ref 41, .int (nI t), .int (nI d), .int (nI x), .int (rd w 47 (nI d)), .int a, .int (nI (d + i))] [] (upI w 47 d (nI x)) := by
      intro hR n
      have fin : ∀ a : Int32, ((a = nI 1 ∧ (0 < r 3 → ∀ j, j < 7 → lateN (updN D d x) (d + j) ≤ r 3)) ∨ (a = nI 0 ∧ ¬ (0 < r 3 → ∀ j, j < 7 → lateN (updN D d x) (d + j) ≤ r 3))) → vp_in (nI d) 60 ∧ ((a = 0 ∨ a = 1) ∧ K (some (.int a)) (wr (upI w 47 d (nI x)) 47 (nI d) (rd w 47 (nI d)))) := by
        intro a ha
        refine ⟨vp_in_nI hd (by decide), ?_, ?_⟩
        · rcases ha with ha | ha
          · exact Or.inr ha.1
          · exact Or.inl ha.1
        · rw [wr_N (by omega), rd_N (by omega), upI_back]
          rcases ha with ha | ha
          · exact h a (Or.inl ⟨ha.1, z, hR, ha.2⟩)
          · exact h a (Or.inr ⟨ha.1, fun q => ha.2 q.2.2⟩)
      induction n with
      | zero =>
        intro i a hi ha
        have e : i = 7 := by omega
        subst e
        refine tX11_isAllowed_109 ⟨fun _ => fin a ha, fun z => absurd ?_ z⟩
        rw [nI_add]
        exact Int32.le_refl _
      | succ n ih =>
        intro i a hi ha
        refine tX11_isAllowed_109 ⟨fun z => absurd z ?_, fun _ => ⟨fun z => fin a ?_, fun z => ⟨fun z2 => ?_, fun z2 => ?_⟩⟩⟩
        · rw [nI_add, le_N (by omega) (by omega)]; omega
        · rw [rdM hM2 (by omega), le0_N (by omega)] at z
          rcases ha with ha | ha
          · exact Or.inl ⟨ha.1, fun q => absurd q (by omega)⟩
          · exact absurd (fun q => absurd q (by omega)) ha.2
        · rw [nI_add]
          refine ih (i + 1) _ (by omega) (Or.inr ⟨rfl, fun q => ?_⟩)
          rcases ha with ha | ha
          · rw [ha.1] at z2
            exact absurd z2 (by decide)
          · exact ha.2 (fun p j hj => q p j (by omega))
        · rw [rdM hM2 (by omega), le0_N (by omega)] at z
          refine g_lately hD2 (by omega) ?_
          have b := lb (d + i)
          have ha1 : 0 < r 3 → ∀ j, j < i → lateN (updN D d x) (d + j) ≤ r 3 := by
            rcases ha with ha | ha
            · exact ha.2
            · exact absurd ha.1 z2
          refine tX11_isAllowed_138 ⟨fun z3 => ?_, fun z3 => ?_⟩
          · rw [rdM hM2 (by omega), lt_N (by omega) (by omega)] at z3
            rw [nI_add]
            refine ih (i + 1) _ (by omega) (Or.inr ⟨rfl, fun q => ?_⟩)
            have := q (by omega) i (by omega)
            omega
          · rw [rdM hM2 (by omega), lt_N (by omega) (by omega)] at z3
            rw [nI_add]
            refine ih (i + 1) _ (by omega) (Or.inl ⟨rfl, fun p j hj => ?_⟩)
            rcases Nat.lt_or_ge j i with q | q
            · exact ha1 p j q
            · rw [show j = i by omega]; omega
    have L1 : ∀ (n e : Nat), e + n = 60 → (∀ q, q < e → restOk r D d x q) → RR (tl K lX11_isAllowed) 18 [.ref 41, .int (nI t), .int (nI d), .int (nI x), .int (nI e), .null, .null] [] w := by
      intro n
      induction n with
      | zero =>
        intro e he hR
        have e60 : e = 60 := by omega
        subst e60
        refine tX11_isAllowed_18 ⟨fun _ => ⟨vp_in_nI hd (by decide), ?_⟩, fun z => absurd (Int32.le_refl _) z⟩
        rw [wr_N (by omega)]
        exact L2 hR 7 0 _ (by omega) (Or.inl ⟨rfl, fun _ j hj => by omega⟩)
      | succ n ih =>
        intro e he hR
        have bD := hDb e
        have next : restOk r D d x e → RR (tl K lX11_isAllowed) 18 [.ref 41, .int (nI t), .int (nI d), .int (nI x), .int (nI e + nI 1), .null, .null] [] w := by
          intro ho
          rw [nI_add]
          refine ih (e + 1) (by omega) (fun q hq => ?_)
          rcases Nat.lt_or_ge q e with p | p
          · exact hR q p
          · rw [show q = e by omega]; exact ho
        have bad : ¬ restOk r D d x e → K (some (.int (nI 0))) w := fun ho => h _ (Or.inr ⟨rfl, fun q => ho (q.2.1 e (by omega))⟩)
        refine tX11_isAllowed_18 ⟨fun z => absurd z ?_, fun _ => ⟨vp_in_nI (by omega) (by decide), fun z => next ?_, fun z => ⟨fun z2 => next ?_, fun z2 => ⟨fun z3 => ?_, fun z3 => ?_⟩⟩⟩⟩
        · rw [le_N (by omega) (by omega)]; omega
        · rw [rdD hD (by omega), le0_N (by omega)] at z
          intro p
          omega
        · rw [eq_N (by omega) (by omega)] at z2
          intro p
          exact ⟨fun q => by omega, fun q => by omega⟩
        · rw [rdD hD (by omega), le0_N (by omega)] at z
          rw [eq_N (by omega) (by omega)] at z2
          rw [le_N (by omega) (by omega)] at z3
          refine g_restOf hM hW hx ?_
          have b1 := rb x
          refine tX11_isAllowed_77 ⟨fun z4 => next ?_, fun z4 => bad ?_⟩
          · rw [sub_N z3, lt_N (by omega) (by omega)] at z4
            intro p
            exact ⟨fun q => by omega, fun _ => z4⟩
          · rw [sub_N z3, lt_N (by omega) (by omega)] at z4
            intro q
            exact z4 ((q (by omega)).2 (by omega))
        · rw [rdD hD (by omega), le0_N (by omega)] at z
          rw [eq_N (by omega) (by omega)] at z2
          rw [le_N (by omega) (by omega)] at z3
          rw [rdD hD (by omega)]
          refine g_restOf hM hW bD ?_
          have b1 := rb (D e)
          refine tX11_isAllowed_62 ⟨fun z4 => next ?_, fun z4 => bad ?_⟩
          · rw [sub_N (by omega), lt_N (by omega) (by omega)] at z4
            intro p
            exact ⟨fun _ => z4, fun q => by omega⟩
          · rw [sub_N (by omega), lt_N (by omega) (by omega)] at z4
            intro q
            exact z4 ((q (by omega)).1 (by omega))
    exact L1 60 0 (by omega) (fun q hq => by omega)
  · rw [nI_add, rdM hM (by omega), le_N (by omega) (by omega)] at z
    exact h _ (Or.inr ⟨rfl, fun q => z q.1⟩)
def load (r : Nat → Nat) (t g : Nat) : Nat := sumN (fun k => if who r g k = t then thr r g k else 0) (r (106 + g))
def dayG (r : Nat → Nat) (t but many e h : Nat) : Nat := if but ≤ h ∧ h < but + many then 0 else if r (46 + h) = e then load r t h else 0
def dayN (r : Nat → Nat) (t but many : Nat) : Nat → Nat := fun e => sumN (dayG r t but many e) (r 1)
def Off (S : Nat → Prop) (w w1 : Wd) : Prop := ∀ c, ¬ S c → w1.1 c = w.1 c ∧ w1.2 c = w.2 c
theorem Off.rf {S : Nat → Prop} {w : Wd} : Off S w w := fun _ _ => ⟨rfl, rfl⟩
theorem Off.tr {S : Nat → Prop} {w w1 w2 : Wd} (h : Off S w w1) (h2 : Off S w1 w2) : Off S w w2 := fun c hc => ⟨(h2 c hc).1.trans (h c hc).1, (h2 c hc).2.trans (h c hc).2⟩
theorem Off.up {S : Nat → Prop} {w : Wd} {c j : Nat} {v : Int32} (hc : S c) : Off S w (upI w c j v) := fun a ha => ⟨by funext b; rw [upI1, if_neg (fun (z : a = c ∧ b = j) => ha (by rw [z.1]; exact hc))], rfl⟩
theorem Off.mono {S S1 : Nat → Prop} {w w1 : Wd} (h : Off S w w1) (hs : ∀ c, S c → S1 c) : Off S1 w w1 := fun c hc => h c (fun q => hc (hs c q))
theorem RM.off {S : Nat → Prop} {w w1 : Wd} {r : Nat → Nat} (h : RM w r) (ho : Off S w w1) (hs : ¬ S 43) : RM w1 r := fun i => by rw [(ho 43 hs).1]; exact h i
theorem in_but {b m g : Nat} (hb : b < 1000) (hm : m < 1000) (hg : g < 1000) : (nI b ≤ nI g ∧ nI g ≤ nI b + nI m - nI 1) ↔ (b ≤ g ∧ g < b + m) := by
  rw [nI_add, le_N (by omega) (by omega), Int32.le_iff_toInt_le, pk_sub_toInt (by omega) (by omega), nI_toInt (by omega)]
  omega
theorem load_le {r : Nat → Nat} (hW : WFr r) {t g : Nat} (hg : g < 20) : load r t g ≤ 360 := by
  have b := (hW.2.2.2.2.2.2.2.1 g hg).2.2.2
  have q : load r t g ≤ r (106 + g) * 120 := sumN_le _ (fun k hk => by
    show (if _ then _ else _) ≤ 120
    split
    · exact (hW.2.2.2.2.2.2.2.2.1 (3 * g + k) (by omega)).2
    · omega)
  omega
theorem sumN_zero {f : Nat → Nat} : ∀ n, (∀ k, k < n → f k = 0) → sumN f n = 0
  | 0, _ => rfl
  | n + 1, h => by
    show sumN f n + f n = 0
    rw [sumN_zero n (fun k hk => h k (by omega)), h n (by omega)]
theorem g_laysDays (hM : RM w r) (hW : WFr r) {t but many : Nat} (ht : t < 2147483648) (hb : but ≤ 20) (hm : many ≤ 5) (h : ∀ w1, Off (· = 47) w w1 → DM w1 (dayN r t but many) → K none w1) : fX11_laysDays [.ref 41, .int (nI t), .int (nI but), .int (nI many)] w K := by
  have h1 := hW.2.2.1
  refine tX11_laysDays_0 ?_
  -- inner: outings of a game
  have L3 : ∀ (g : Nat), g < r 1 → (∀ (w2 : Wd) (u : Int32), Off (· = 47) w w2 → DM w2 (fun e => sumN (dayG r t but many e) (g + 1)) → RR (tl K lX11_laysDays) 27 [.ref 41, .int (nI t), .int (nI but), .int (nI many), .int (nI (g + 1)), .int u] [] w2) → ∀ (n k : Nat) (w2 : Wd), k + n = r (106 + g) → Off (· = 47) w w2 → DM w2 (fun e => sumN (dayG r t but many e) g + (if but ≤ g ∧ g < but + many then 0 else if r (46 + g) = e then sumN (fun k => if who r g k = t then thr r g k else 0) k else 0)) → RR (tl K lX11_laysDays) 41 [.ref 41, .int (nI t), .int (nI but), .int (nI many), .int (nI g), .int (nI k)] [] w2 := by
    intro g hg hx n
    have hG := hW.2.2.2.2.2.2.2.1 g (by omega)
    induction n with
    | zero =>
      intro k w2 hk ho hD
      have hM2 := hM.off ho (by decide)
      refine tX11_laysDays_41 ⟨by rw [nI_add]; exact vp_in_nI (by omega) (by decide), fun _ => ?_, fun z => absurd ?_ z⟩
      · rw [nI_add]
        refine hx w2 _ ho (fun e he => ?_)
        rw [hD e he, show k = r (106 + g) by omega]
        rfl
      · rw [nI_add, rdM hM2 (by omega), le_N (by omega) (by omega)]; omega
    | succ n ih =>
      intro k w2 hk ho hD
      have hM2 := hM.off ho (by decide)
      have b := hW.2.2.2.2.2.2.2.2.1 (3 * g + k) (by omega)
      refine tX11_laysDays_41 ⟨by rw [nI_add]; exact vp_in_nI (by omega) (by decide), fun z => absurd z ?_, fun _ => ⟨fun z => ?_, fun z => ⟨?_, ?_, ?_, fun z2 => ?_, fun z2 => ⟨?_, ?_⟩⟩⟩⟩
      · rw [nI_add, rdM hM2 (by omega), le_N (by omega) (by omega)]; omega
      · rw [in_but (by omega) (by omega) (by omega)] at z
        rw [nI_add]
        refine hx w2 _ ho (fun e he => ?_)
        rw [hD e he]
        show nI (_ + (if _ then 0 else _)) = nI (sumN (dayG r t but many e) g + dayG r t but many e g)
        rw [if_pos z]
        unfold dayG
        rw [if_pos z]
      · rw [nI_add]; exact vp_in_nI (by omega) (by decide)
      · rw [nI_add, rdM hM2 (by omega)]; exact vp_in_nI (by omega) (by decide)
      · rw [pk_mul, nI_add, nI_add]; exact vp_in_nI (by omega) (by decide)
      all_goals rw [in_but (by omega) (by omega) (by omega)] at z
      · rw [pk_mul, nI_add, nI_add, rdM hM2 (by omega), eq_N (by omega) (by omega)] at z2
        rw [nI_add, nI_add, rdM hM2 (by omega), wr_N (by omega), rd_N (by omega)]
        refine ih (k + 1) _ (by omega) (ho.tr (Off.up rfl)) (fun e he => ?_)
        rw [upI1]
        have q := hD e he
        dsimp only at q
        rw [if_neg z] at q
        show _ = nI (_ + (if _ then 0 else _))
        rw [if_neg z]
        have e3 : sumN (fun k => if who r g k = t then thr r g k else 0) (k + 1) = sumN (fun k => if who r g k = t then thr r g k else 0) k := by
          show _ + (if who r g k = t then thr r g k else 0) = _
          rw [if_neg (show ¬ who r g k = t from z2)]
          rfl
        rw [e3]
        by_cases p : e = r (46 + g)
        · subst p
          rw [if_pos ⟨rfl, rfl⟩, q]
          exact Int32.add_zero _
        · rw [if_neg (fun z => p z.2), q]
      · rw [pk_mul, nI_add, nI_add]; exact vp_in_nI (by omega) (by decide)
      · rw [pk_mul, nI_add, nI_add, rdM hM2 (by omega), eq_N (by omega) (by omega)] at z2
        rw [pk_mul, nI_add, nI_add, nI_add, nI_add, rdM hM2 (by omega), rdM hM2 (by omega), wr_N (by omega), rd_N (by omega)]
        refine ih (k + 1) _ (by omega) (ho.tr (Off.up rfl)) (fun e he => ?_)
        rw [upI1]
        have q := hD e he
        dsimp only at q
        rw [if_neg z] at q
        show _ = nI (_ + (if _ then 0 else _))
        rw [if_neg z]
        have e3 : sumN (fun k => if who r g k = t then thr r g k else 0) (k + 1) = sumN (fun k => if who r g k = t then thr r g k else 0) k + r (186 + (3 * g + k)) := by
          show _ + (if who r g k = t then thr r g k else 0) = _
          rw [if_pos (show who r g k = t from z2)]
          rfl
        rw [e3]
        by_cases p : e = r (46 + g)
        · subst p
          rw [if_pos ⟨rfl, rfl⟩, q, nI_add, if_pos rfl, if_pos rfl]
          congr 1
          omega
        · rw [if_neg (fun z => p z.2), q, if_neg (fun z => p z.symm), if_neg (fun z => p z.symm)]
  have L2 : ∀ (n g : Nat) (w2 : Wd) (u : Value), g + n = r 1 → Off (· = 47) w w2 → DM w2 (fun e => sumN (dayG r t but many e) g) → RR (tl K lX11_laysDays) 27 [.ref 41, .int (nI t), .int (nI but), .int (nI many), .int (nI g), u] [] w2 := by
    intro n
    induction n with
    | zero =>
      intro g w2 u hg ho hD
      have hM2 := hM.off ho (by decide)
      refine tX11_laysDays_27 ⟨fun _ => h w2 ho ?_, fun z => absurd ?_ z⟩
      · rw [show g = r 1 by omega] at hD
        exact hD
      · rw [rdM hM2 (by omega), le_N (by omega) (by omega)]; omega
    | succ n ih =>
      intro g w2 u hg ho hD
      have hM2 := hM.off ho (by decide)
      refine tX11_laysDays_27 ⟨fun z => absurd z ?_, fun _ => ?_⟩
      · rw [rdM hM2 (by omega), le_N (by omega) (by omega)]; omega
      · refine L3 g (by omega) (fun w3 u3 ho3 hD3 => ih (g + 1) w3 _ (by omega) ho3 hD3) (r (106 + g)) 0 w2 (by omega) ho (fun e he => ?_)
        rw [hD e he]
        congr 1
        show _ = _ + (if _ then 0 else if _ then 0 else 0)
        split
        · rfl
        · split <;> rfl
  have L1 : ∀ (n d : Nat) (w2 : Wd), d + n = 60 → Off (· = 47) w w2 → (∀ e, e < d → w2.1 47 e = nI 0) → RR (tl K lX11_laysDays) 3 [.ref 41, .int (nI t), .int (nI but), .int (nI many), .int (nI d), .null] [] w2 := by
    intro n
    induction n with
    | zero =>
      intro d w2 hd ho hD
      refine tX11_laysDays_3 ⟨fun _ => L2 (r 1) 0 w2 _ (by omega) ho (fun e he => hD e (by omega)), fun z => absurd ?_ z⟩
      rw [le_N (by omega) (by omega)]; omega
    | succ n ih =>
      intro d w2 hd ho hD
      refine tX11_laysDays_3 ⟨fun z => absurd z ?_, fun _ => ⟨vp_in_nI (by omega) (by decide), ?_⟩⟩
      · rw [le_N (by omega) (by omega)]; omega
      · rw [nI_add, wr_N (by omega)]
        refine ih (d + 1) _ (by omega) (ho.tr (Off.up rfl)) (fun e he => ?_)
        rw [upI1]
        by_cases p : e = d
        · rw [if_pos ⟨rfl, p⟩]
        · rw [if_neg (fun z => p z.2)]
          exact hD e (by omega)
  exact L1 60 0 w (by omega) Off.rf (fun e he => by omega)
end REF2
