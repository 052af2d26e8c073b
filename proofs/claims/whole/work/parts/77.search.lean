/-! the class's search -/
def enc (R x : Nat) : Int32 := if x = R then -2 else nI x
noncomputable def aft (r : Nat → Nat) (g n j : Nat) : Nat := (eR r g n (n - j) (fun _ => r 0) (0, fun _ => r 0)).1 - 1
section SPURE
variable {r : Nat → Nat} {g n : Nat}
theorem eR_pos (d : Nat) (hd : d ≤ n) (s : SR) : 1 ≤ (eR r g n d (fun _ => r 0) s).1 := by
  have := eR_max (r := r) (g := g) (n := n) d (fun _ => r 0) (fun _ => r 0) s hd (fun _ _ => rfl) (fun _ _ => Nat.le_refl _) (prOk_no n)
  omega
theorem skip_after (hn : g + n ≤ r 1) {d : Nat} (hd : d ≤ n) {f : Nat → Nat} {s : SR} (hb : ∀ j, j < n - d → f j ≤ r 0) (h : sumN (gaN r g f) (n - d) + aft r g n (n - d) + 1 ≤ s.1) : eR r g n d f s = s := by
  refine eR_skip d f s hd hb (fun f1 e1 b1 p1 => ?_)
  have p2 : prOk r g n n (fun j => if j < n - d then r 0 else f1 j) := fun t ht => okB_mono hn (fun i hi hu => by
    have hu := Bool.and_eq_true_iff.mp hu
    have e : (if i < n - d then r 0 else f1 i) = t := eq_of_beq hu.2
    show (decide (i < n) && f1 i == t) = true
    by_cases q : i < n - d
    · rw [if_pos q] at e; omega
    · rw [if_neg q] at e
      rw [decide_eq_true hi, e, beq_self_eq_true]; rfl) (p1 t ht)
  have m := eR_max (r := r) (g := g) (n := n) d (fun _ => r 0) (fun j => if j < n - d then r 0 else f1 j) (0, fun _ => r 0) hd (fun j hj => if_pos hj) (fun j hj => by
    show (if j < n - d then r 0 else f1 j) ≤ r 0
    split
    · exact Nat.le_refl _
    · exact b1 j hj) p2
  have sp : ∀ k, sumN (gaN r g f1) (n - d + k) = sumN (gaN r g f) (n - d) + sumN (gaN r g (fun j => if j < n - d then r 0 else f1 j)) (n - d + k) := by
    intro k
    induction k with
    | zero =>
      have z : sumN (gaN r g (fun j => if j < n - d then r 0 else f1 j)) (n - d + 0) = 0 := sumN_zero _ (fun j hj => by
        unfold gaN
        rw [if_pos (show (if j < n - d then r 0 else f1 j) = r 0 from if_pos hj)])
      rw [z]
      exact sumN_congr _ (fun j hj => gaN_congr (e1 j hj))
    | succ k ih =>
      show sumN (gaN r g f1) (n - d + k) + gaN r g f1 (n - d + k) = sumN (gaN r g f) (n - d) + (sumN (gaN r g (fun j => if j < n - d then r 0 else f1 j)) (n - d + k) + gaN r g (fun j => if j < n - d then r 0 else f1 j) (n - d + k))
      have e : gaN r g (fun j => if j < n - d then r 0 else f1 j) (n - d + k) = gaN r g f1 (n - d + k) := gaN_congr (if_neg (by omega))
      rw [e, ih]; omega
  have s1 := sp d
  rw [show n - d + d = n by omega] at s1
  have ha : aft r g n (n - d) = (eR r g n d (fun _ => r 0) (0, fun _ => r 0)).1 - 1 := by unfold aft; rw [show n - (n - d) = d by omega]
  have s1 : roW r g n f1 = sumN (gaN r g f) (n - d) + roW r g n (fun j => if j < n - d then r 0 else f1 j) := s1
  omega
/-- one more game given: the first i + 1 are allowed if they are for this thrower -/
theorem prOk_step {f : Nat → Nat} {i t : Nat} (hi : i < n) (h5 : n ≤ 5) (ht : t < r 0) (hp : prOk r g n i f) : prOk r g n (i + 1) (upR f i t) ↔ okB r g n t (mk (upR f i t) t (i + 1)).testBit := by
  have key : okB r g n t (mk (upR f i t) t (i + 1)).testBit ↔ okB r g n t (fun j => decide (j < i + 1) && upR f i t j == t) := okB_congr (fun j hj => mk_bit (i + 1) (by omega) j (by omega))
  rw [key]
  constructor
  · intro h; exact h t ht
  · intro h u hu
    by_cases q : u = t
    · rw [q]; exact h
    · refine (okB_congr (fun j hj => ?_)).mpr (hp u hu)
      show (decide (j < i + 1) && upR f i t j == u) = (decide (j < i) && f j == u)
      by_cases p : j = i
      · rw [p, upR_e, beq_false_of_ne (fun z => q z.symm), Bool.and_false, decide_eq_false (Nat.lt_irrefl i), Bool.false_and]
      · rw [upR_n p]
        by_cases z : j < i
        · rw [decide_eq_true z, decide_eq_true (show j < i + 1 by omega)]
        · rw [decide_eq_false z, decide_eq_false (show ¬ j < i + 1 by omega)]
theorem prOk_nobody {f : Nat → Nat} {i : Nat} (hp : prOk r g n i f) : prOk r g n (i + 1) (upR f i (r 0)) := fun u hu => by
  refine (okB_congr (fun j hj => ?_)).mpr (hp u hu)
  show (decide (j < i + 1) && upR f i (r 0) j == u) = (decide (j < i) && f j == u)
  by_cases p : j = i
  · rw [p, upR_e, beq_false_of_ne (show r 0 ≠ u by omega), Bool.and_false, decide_eq_false (Nat.lt_irrefl i), Bool.false_and]
  · rw [upR_n p]
    by_cases z : j < i
    · rw [decide_eq_true z, decide_eq_true (show j < i + 1 by omega)]
    · rw [decide_eq_false z, decide_eq_false (show ¬ j < i + 1 by omega)]
end SPURE
theorem ltS {W s : Nat} (hW : W < 1000000) (hs : s < 1000000) : nI s - nI 1 < nI W ↔ s ≤ W := by
  rw [← Int32.not_le, leS hW hs]; omega
def BCc (w : Wd) (r : Nat → Nat) (g n : Nat) : Prop := CT w r ∧ w.1 29 2 = nI g ∧ w.1 29 3 = nI n ∧ (∀ t, t < r 0 → ∀ m, m < 2 ^ n → (bitF (w.1 30 t) m ↔ okB r g n t m.testBit)) ∧ ∀ t i, t < r 0 → i < n → w.1 32 (t * 5 + i) = nI (fullV r (g + i) t)
def SX (w w1 : Wd) : Prop := Off (fun c => c = 29 ∨ c = 31 ∨ c = 34 ∨ c = 35) w w1 ∧ ∀ j, j ≠ 10 → w1.1 29 j = w.1 29 j
theorem SX.rf {w : Wd} : SX w w := ⟨Off.rf, fun _ _ => rfl⟩
theorem SX.tr {w w1 w2 : Wd} (a : SX w w1) (b : SX w1 w2) : SX w w2 := ⟨a.1.tr b.1, fun j hj => (b.2 j hj).trans (a.2 j hj)⟩
theorem SX.up {w : Wd} {c j : Nat} {v : Int32} (hc : c = 31 ∨ c = 34 ∨ c = 35) : SX w (upI w c j v) := ⟨Off.up (Or.inr hc), fun i _ => by rw [upI1, if_neg (fun z => by omega)]⟩
theorem BCc.sx {w w1 : Wd} {r : Nat → Nat} {g n : Nat} (h : BCc w r g n) (s : SX w w1) : BCc w1 r g n := by
  obtain ⟨a, b, c, d, e⟩ := h
  refine ⟨a.off s.1 (fun c a b q => by omega), (s.2 2 (by decide)).trans b, (s.2 3 (by decide)).trans c, ?_, ?_⟩
  · rw [(s.1 30 (by decide)).1]; exact d
  · rw [(s.1 32 (by decide)).1]; exact e
def AFr (w : Wd) (r : Nat → Nat) (g n fr : Nat) : Prop := w.1 33 fr = nI 100000000 ∧ ∀ j, fr < j → j ≤ n → w.1 33 j = nI (aft r g n j)
theorem AFr.sx {w w1 : Wd} {r : Nat → Nat} {g n fr : Nat} (h : AFr w r g n fr) (s : SX w w1) : AFr w1 r g n fr := by
  unfold AFr at h ⊢
  rw [(s.1 33 (by decide)).1]; exact h
def GV (w : Wd) (r : Nat → Nat) (f : Nat → Nat) (i : Nat) : Prop := ∀ t, t < r 0 → w.1 31 t = nI (mk f t i)
def T34 (w : Wd) (r : Nat → Nat) (f : Nat → Nat) (fr i : Nat) : Prop := ∀ j, fr ≤ j → j < i → w.1 34 j = enc (r 0) (f j)
def ST (w : Wd) (r : Nat → Nat) (n : Nat) (s : SR) (fr : Nat) : Prop := w.1 29 10 = nI s.1 - nI 1 ∧ (0 < s.1 → ∀ j, fr ≤ j → j < n → w.1 35 j = enc (r 0) (s.2 j))
theorem ST.up {w : Wd} {r : Nat → Nat} {n fr c j : Nat} {s : SR} {v : Int32} (h : ST w r n s fr) (hc : c = 31 ∨ c = 34) : ST (upI w c j v) r n s fr := by
  refine ⟨?_, fun p i a b => ?_⟩
  · rw [upI1, if_neg (fun z => by omega)]; exact h.1
  · rw [upI1, if_neg (fun z => by omega)]; exact h.2 p i a b
section CSEARCH
variable {r : Nat → Nat} {g n : Nat}
theorem c_search (hW : WFr r) (hn : g + n ≤ r 1) (h5 : n ≤ 5) {fr : Nat} (hfr : fr < n) : ∀ (d fuel : Nat) (f : Nat → Nat) (s : SR) (w : Wd) (K : Kt), d ≤ n → d < fuel → fr ≤ n - d → (∀ j, j < n - d → f j ≤ r 0) → prOk r g n (n - d) f → s.1 ≤ 180001 → (0 < s.1 → ∀ j, j < n → s.2 j ≤ r 0) → BCc w r g n → AFr w r g n fr → GV w r f (n - d) → T34 w r f fr (n - d) → ST w r n s fr → (∀ w1, SX w w1 → GV w1 r f (n - d) → T34 w1 r f fr (n - d) → ST w1 r n (eR r g n d f s) fr → K none w1) → fX0_search fuel [.ref 29, .int (nI (n - d)), .int (nI (sumN (gaN r g f) (n - d)))] w K := by
  have h0 := hW.2.1
  have h1 := hW.2.2.1
  have BB : ∀ f : Nat → Nat, (∀ j, j < n → f j ≤ r 0) → roW r g n f + 1 ≤ 180001 := fun f hb => by have := roW_le hW hn h5 hb; omega
  have PB : ∀ (f : Nat → Nat) (i : Nat), i ≤ n → (∀ j, j < i → f j ≤ r 0) → sumN (gaN r g f) i ≤ 180000 := fun f i hi hb => by
    have := roW_le (g := g) (n := i) hW (by omega) (by omega) hb
    exact this
  have AB : ∀ j, j ≤ n → aft r g n j ≤ 180001 := fun j hj => by
    have := (eR_bound (r := r) (g := g) (n := n) 180001 BB (n - j) (fun _ => r 0) (0, fun _ => r 0) (by omega) (fun _ _ => Nat.le_refl _) (by show 0 ≤ 180001; omega) (fun _ _ _ => Nat.le_refl _)).1
    unfold aft; omega
  intro d
  induction d with
  | zero =>
    intro fuel f s w K hd hfu hfi hb hp hs hs2 hBC hAF hGV hT hST k
    obtain ⟨fu, rfl⟩ : ∃ fu, fuel = fu + 1 := ⟨fuel - 1, by omega⟩
    have en : n - 0 = n := by omega
    rw [en] at hb hp hGV hT k ⊢
    have pb := PB f n (Nat.le_refl _) hb
    have a0 : aft r g n n = 0 := by
      unfold aft
      rw [show n - n = 0 by omega]
      have e : eR r g n 0 (fun _ => r 0) (0, fun _ => r 0) = (roW r g n (fun _ => r 0) + 1, fun _ => r 0) := by
        unfold eR
        rw [dec_t ⟨Nat.zero_le _, prOk_no n⟩]; rfl
      rw [e]
      show roW r g n (fun _ => r 0) + 1 - 1 = 0
      have : roW r g n (fun _ => r 0) = 0 := sumN_zero _ (fun j _ => if_pos rfl)
      omega
    refine eX0_search (show 3 ≤ 4 by decide) rfl (tX0_search_0 (nX0_search fu) ⟨vp_in_nI (by omega) (by decide), ?_⟩)
    rw [rd_N (by omega), hAF.2 n hfr (Nat.le_refl _), a0, nI_add _ 0, Nat.add_zero, hST.1, ltS (by omega) (by omega), hBC.2.2.1]
    refine ⟨fun q => ⟨fun z => absurd z Int32.lt_irrefl, fun _ => ?_⟩, fun q => ?_⟩
    · rw [cpy_N (by omega) (by omega) (by omega)]
      have e : eR r g n 0 f s = (roW r g n f + 1, f) := by unfold eR; rw [dec_t ⟨q, hp⟩]; rfl
      have o1 : Off (fun c => c = 29 ∨ c = 31 ∨ c = 34 ∨ c = 35) w (upI w 29 10 (nI (sumN (gaN r g f) n))) := Off.up (Or.inl rfl)
      refine k _ ⟨o1.tr (Off.cpI (Or.inr (Or.inr (Or.inr rfl)))), fun j hj => ?_⟩ (fun t ht => ?_) (fun j h1 h2 => ?_) ?_
      · rw [cpI_o (show (29 : Nat) ≠ 35 by decide), upI1, if_neg (fun z => hj z.2)]
      · rw [cpI_o (show (31 : Nat) ≠ 35 by decide), upI1, if_neg (fun z => absurd z.1 (by decide))]; exact hGV t ht
      · rw [cpI_o (show (34 : Nat) ≠ 35 by decide), upI1, if_neg (fun z => absurd z.1 (by decide))]; exact hT j h1 h2
      · rw [e]
        refine ⟨?_, fun _ j h1 h2 => ?_⟩
        · rw [cpI_o (show (29 : Nat) ≠ 35 by decide), upI1, if_pos ⟨rfl, rfl⟩]
          show nI (roW r g n f) = nI (roW r g n f + 1) - nI 1
          rw [sub_N (by omega)]; rfl
        · rw [cpI_c, pk_cpy_in (Nat.zero_le _) (by omega), show 0 + (j - 0) = j by omega, upI1, if_neg (fun z => absurd z.1 (by decide))]
          exact hT j h1 h2
    · have e : eR r g n 0 f s = s := by unfold eR; rw [dec_f (fun z => q z.1)]; rfl
      refine k w SX.rf hGV hT ?_
      rw [e]; exact hST
  | succ d ih =>
    intro fuel f s w K hd hfu hfi hb hp hs hs2 hBC hAF hGV hT hST k
    obtain ⟨fu, rfl⟩ : ∃ fu, fuel = fu + 1 := ⟨fuel - 1, by omega⟩
    obtain ⟨i, ei⟩ : ∃ i, i = n - (d + 1) := ⟨_, rfl⟩
    have ei1 : n - d = i + 1 := by omega
    have hin : i < n := by omega
    rw [ei1] at ih
    rw [← ei] at hfi hb hp hGV hT k ⊢
    have pb := PB f i (by omega) hb
    have ub : ∀ t, t ≤ r 0 → ∀ j, j < i + 1 → upR f i t j ≤ r 0 := fun t ht j hj => by
      by_cases p : j = i
      · rw [p, upR_e]; exact ht
      · rw [upR_n p]; exact hb j (by omega)
    have bd : ∀ (t : Nat), t ≤ r 0 + 1 → (fo t (fun t s => eR r g n d (upR f i t) s) s).1 ≤ 180001 ∧ (0 < (fo t (fun t s => eR r g n d (upR f i t) s) s).1 → ∀ j, j < n → (fo t (fun t s => eR r g n d (upR f i t) s) s).2 j ≤ r 0) := by
      intro t ht
      exact fo_ind (α := SR) (P := fun _ a => a.1 ≤ 180001 ∧ (0 < a.1 → ∀ j, j < n → a.2 j ≤ r 0)) ⟨hs, hs2⟩ t (fun u a hu ha => eR_bound 180001 BB d _ a (by omega) (fun j hj => ub u (by omega) j (by omega)) ha.1 ha.2)
    have eE : eR r g n (d + 1) f s = fo (r 0 + 1) (fun t s => eR r g n d (upR f i t) s) s := by
      rw [ei]; rfl
    have sm : ∀ t, sumN (gaN r g (upR f i t)) (i + 1) = sumN (gaN r g f) i + (if t = r 0 then 0 else fullV r (g + i) t) := fun t => by
      show sumN (gaN r g (upR f i t)) i + gaN r g (upR f i t) i = _
      rw [sumN_congr (g := gaN r g f) i (fun j hj => gaN_congr (upR_n (by omega)))]
      unfold gaN
      rw [upR_e]
    have mkn : ∀ t u, u ≠ t → mk (upR f i t) u (i + 1) = mk f u i := fun t u hu => by
      show mk (upR f i t) u i + (if upR f i t i = u then 2 ^ i else 0) = mk f u i
      rw [mk_congr i (fun j hj => upR_n (by omega)), upR_e, if_neg (fun z => hu z.symm), Nat.add_zero]
    have mke : ∀ t, mk (upR f i t) t (i + 1) = mk f t i + 2 ^ i := fun t => by
      show mk (upR f i t) t i + (if upR f i t i = t then 2 ^ i else 0) = _
      rw [mk_congr i (fun j hj => upR_n (by omega)), upR_e, if_pos rfl]
    -- the loop over the throwers
    have T : ∀ (m t : Nat) (w1 : Wd), t + m = r 0 → SX w w1 → GV w1 r f i → T34 w1 r f fr i → ST w1 r n (fo t (fun t s => eR r g n d (upR f i t) s) s) fr → RR (tl K (lX0_search (fX0_search fu))) 46 [.ref 29, .int (nI i), .int (nI (sumN (gaN r g f) i)), .int (nI t)] [] w1 := by
      intro m
      induction m with
      | zero =>
        intro t w1 ht x1 g1 t1 s1
        have : t = r 0 := by omega
        subst this
        have hBC1 := hBC.sx x1
        refine tX0_search_46 (nX0_search fu) ⟨fun _ => ⟨vp_in_nI (by omega) (by decide), ?_⟩, fun q => absurd (by rw [hBC1.1.1]; exact Int32.le_refl _) q⟩
        rw [wr_N (by omega), nI_add i 1]
        have sxu : SX w1 (upI w1 34 i (-2)) := SX.up (Or.inr (Or.inl rfl))
        have hs3 : sumN (gaN r g (upR f i (r 0))) (i + 1) = sumN (gaN r g f) i := by rw [sm (r 0), if_pos rfl]; rfl
        rw [← hs3]
        refine ih fu (upR f i (r 0)) _ (upI w1 34 i (-2)) _ (by omega) (by omega) (by omega) (ub (r 0) (Nat.le_refl _)) (prOk_nobody hp) (bd _ (by omega)).1 (bd _ (by omega)).2 (hBC1.sx sxu) ((hAF.sx x1).sx sxu) (fun u hu => ?_) (fun j h1 h2 => ?_) (s1.up (Or.inr rfl)) (fun w2 x2 g2 t2 s2 => tX0_search_150 (nX0_search fu) ?_)
        · rw [upI1, if_neg (fun z => absurd z.1 (by decide)), mkn (r 0) u (by omega)]; exact g1 u hu
        · rw [upI1]
          by_cases p : j = i
          · rw [if_pos ⟨rfl, p⟩, p, upR_e]
            exact (if_pos rfl).symm
          · rw [if_neg (fun z => p z.2), upR_n p]; exact t1 j h1 (by omega)
        · refine k w2 ((x1.tr sxu).tr x2) (fun u hu => ?_) (fun j h1 h2 => ?_) (by rw [eE]; exact s2)
          · rw [g2 u hu, mkn (r 0) u (by omega)]
          · rw [t2 j h1 (by omega), upR_n (by omega)]
      | succ m ih2 =>
        intro t w1 ht x1 g1 t1 s1
        have htR : t < r 0 := by omega
        have hBC1 := hBC.sx x1
        have ml := mk_lt (f := f) (t := t) i
        have pn := pow_n n (by omega)
        have pi : 2 ^ (i + 1) ≤ 2 ^ n := Nat.pow_le_pow_right (by omega) (by omega)
        have ps : 2 ^ (i + 1) = 2 ^ i + 2 ^ i := by rw [Nat.pow_succ]; omega
        refine tX0_search_46 (nX0_search fu) ⟨fun q => absurd q (by rw [hBC1.1.1, le_N (by omega) (by omega)]; omega), fun _ => ⟨vp_in_nI (by omega) (by decide), ?_⟩⟩
        rw [rd_N (by omega), g1 t htR, or_n i (by omega) _ ml]
        have bit := hBC1.2.2.2.1 t htR (mk f t i + 2 ^ i) (by omega)
        have st := prOk_step (r := r) (g := g) (f := f) hin h5 htR hp
        rw [mke t] at st
        have eS : fo (t + 1) (fun t s => eR r g n d (upR f i t) s) s = eR r g n d (upR f i t) (fo t (fun t s => eR r g n d (upR f i t) s) s) := rfl
        refine c_mayHave (by omega) (fun q => ?_) (fun q => ?_)
        · refine tX0_search_75 (nX0_search fu) ⟨fun _ => ?_, fun z => absurd rfl z⟩
          rw [nI_add t 1]
          refine ih2 (t + 1) w1 (by omega) x1 g1 t1 ?_
          have np : ¬ prOk r g n (i + 1) (upR f i t) := fun z => q (bit.mpr (st.mp z))
          have sk : eR r g n d (upR f i t) (fo t (fun t s => eR r g n d (upR f i t) s) s) = fo t (fun t s => eR r g n d (upR f i t) s) s := eR_skip d _ _ (by omega) (fun j hj => ub t (by omega) j (by omega)) (fun f1 e1 b1 p1 => by
            exfalso
            refine np ((prOk_congr (fun j hj => ?_)).mp (prOk_mono hn (show i + 1 ≤ n by omega) p1))
            exact e1 j (by omega))
          rw [eS, sk]; exact s1
        · have po : prOk r g n (i + 1) (upR f i t) := st.mpr (bit.mp q)
          refine tX0_search_75 (nX0_search fu) ⟨fun z => absurd z (by decide), fun _ => ?_⟩
          have e1 : nI t * nI 5 + nI i = nI (t * 5 + i) := by rw [pk_mul, nI_add]
          have sx1 : SX w1 (upI w1 31 t (nI (mk f t i + 2 ^ i))) := SX.up (Or.inl rfl)
          have sx2 : SX (upI w1 31 t (nI (mk f t i + 2 ^ i))) (upI (upI w1 31 t (nI (mk f t i + 2 ^ i))) 34 i (nI t)) := SX.up (Or.inr (Or.inl rfl))
          have hBC2 := (hBC1.sx sx1).sx sx2
          rw [rd_N (by omega), g1 t htR, or_n i (by omega) _ ml, wr_N (show t < 2147483648 by omega), wr_N (show i < 2147483648 by omega), e1]
          have f32 : rd (upI (upI w1 31 t (nI (mk f t i + 2 ^ i))) 34 i (nI t)) 32 (nI (t * 5 + i)) = nI (fullV r (g + i) t) := by
            rw [rd_N (by omega)]; exact hBC2.2.2.2.2 t i htR hin
          rw [f32, nI_add _ (fullV r (g + i) t), nI_add i 1]
          refine ⟨vp_in_nI (by omega) (by decide), vp_in_nI (by omega) (by decide), vp_in_nI (by omega) (by decide), ?_⟩
          have hs3 := sm t
          rw [if_neg (by omega)] at hs3
          rw [← hs3]
          refine ih fu (upR f i t) _ _ _ (by omega) (by omega) (by omega) (ub t (by omega)) po (bd _ (by omega)).1 (bd _ (by omega)).2 hBC2 (((hAF.sx x1).sx sx1).sx sx2) (fun u hu => ?_) (fun j h1 h2 => ?_) ((s1.up (Or.inl rfl)).up (Or.inr rfl)) (fun w2 x2 g2 t2 s2 => tX0_search_116 (nX0_search fu) ⟨vp_in_nI (by omega) (by decide), ?_⟩)
          · rw [upI1, if_neg (fun z => absurd z.1 (by decide)), upI1]
            by_cases p : u = t
            · rw [if_pos ⟨rfl, p⟩, p, mke t]
            · rw [if_neg (fun z => p z.2), mkn t u p]; exact g1 u hu
          · rw [upI1]
            by_cases p : j = i
            · rw [if_pos ⟨rfl, p⟩, p, upR_e]
              exact (if_neg (by omega)).symm
            · rw [if_neg (fun z => p z.2), upI1, if_neg (fun z => absurd z.1 (by decide)), upR_n p]; exact t1 j h1 (by omega)
          · rw [rd_N (by omega), g2 t htR, mke t, xorb_n i (by omega) _ ml, wr_N (by omega), nI_add t 1]
            have sx3 : SX w2 (upI w2 31 t (nI (mk f t i))) := SX.up (Or.inl rfl)
            refine ih2 (t + 1) _ (by omega) ((((x1.tr sx1).tr sx2).tr x2).tr sx3) (fun u hu => ?_) (fun j h1 h2 => ?_) (s2.up (Or.inl rfl))
            · rw [upI1]
              by_cases p : u = t
              · rw [if_pos ⟨rfl, p⟩, p]
              · rw [if_neg (fun z => p z.2), g2 u hu, mkn t u p]
            · rw [upI1, if_neg (fun z => absurd z.1 (by decide)), t2 j h1 (by omega), upR_n (by omega)]
    have loop := T (r 0) 0 w (by omega) SX.rf hGV hT hST
    refine eX0_search (show 3 ≤ 4 by decide) rfl (tX0_search_0 (nX0_search fu) ⟨vp_in_nI (by omega) (by decide), ?_⟩)
    rw [rd_N (by omega), hST.1, hBC.2.2.1, lt_N (by omega) (by omega)]
    by_cases q : i = fr
    · rw [q, hAF.1, nI_add, ← q]
      refine ⟨fun _ => ⟨fun _ => loop, fun z => absurd hin z⟩, fun z => absurd ?_ z⟩
      have hc : ∀ a b : Nat, a ≤ 180001 → b < 2147483648 → 100000000 ≤ b → nI a - nI 1 < nI b := fun a b ha hb hb2 => by
        cases a with
        | zero =>
          have e : nI 0 - nI 1 = -1 := by decide
          rw [e, ← Int32.not_le]; exact nle_m1 hb
        | succ a => rw [sub_N (by omega), lt_N (by omega) (by omega)]; omega
      exact hc _ _ hs (by omega) (by omega)
    · rw [hAF.2 i (by omega) (by omega), nI_add, ltS (by have := AB i (by omega); omega) (by omega)]
      refine ⟨fun _ => ⟨fun _ => loop, fun z => absurd hin z⟩, fun z => ?_⟩
      refine k w SX.rf hGV hT ?_
      rw [skip_after hn hd (by rw [← ei]; exact hb) (by rw [← ei]; omega)]
      exact hST
end CSEARCH
section CFIND
variable {w : Wd} {r : Nat → Nat} {g n : Nat} {K : Kt}
def S35 (c : Nat) : Prop := 27 ≤ c ∧ c ≤ 35
theorem c_find (hC : CT w r) (hP : CP w r) (hW : WFr r) (hV : VP r) (hn : g + n ≤ r 1) (h5 : n ≤ 5) (hn1 : 1 ≤ n) (h : ∀ w1, Off S35 w w1 → w1.1 29 10 = nI (beR r g n).1 - nI 1 → (∀ j, j < n → w1.1 35 j = enc (r 0) ((beR r g n).2 j)) → K none w1) : fX0_find [.ref 29, .int (nI g), .int (nI n)] w K := by
  have h0 := hW.2.1
  have h1 := hW.2.2.1
  have BB : ∀ f : Nat → Nat, (∀ j, j < n → f j ≤ r 0) → roW r g n f + 1 ≤ 180001 := fun f hb => by have := roW_le hW hn h5 hb; omega
  have ebd : ∀ d, d ≤ n → (eR r g n d (fun _ => r 0) (0, fun _ => r 0)).1 ≤ 180001 := fun d hd => (eR_bound (r := r) (g := g) (n := n) 180001 BB d (fun _ => r 0) (0, fun _ => r 0) hd (fun _ _ => Nat.le_refl _) (by show 0 ≤ 180001; omega) (fun _ _ _ => Nat.le_refl _)).1
  -- from the last game backwards
  have M : ∀ (m : Nat) (w1 : Wd), m ≤ n → Off S35 w w1 → BCc w1 r g n → (∀ j, m ≤ j → j ≤ n → w1.1 33 j = nI (aft r g n j)) → GV w1 r (fun _ => r 0) 0 → (m < n → ST w1 r n (eR r g n (n - m) (fun _ => r 0) (0, fun _ => r 0)) m) → RR (tl K lX0_find) 58 [.ref 29, .int (nI g), .int (nI n), .int (nI m - nI 1)] [] w1 := by
    intro m
    induction m with
    | zero =>
      intro w1 hm o1 b1 a1 v1 s1
      have s1 := s1 (by omega)
      rw [show n - 0 = n by omega] at s1
      refine tX0_find_58 ⟨fun _ => h w1 o1 s1.1 (fun j hj => s1.2 (by have := eR_pos (r := r) (g := g) n (Nat.le_refl n) (0, fun _ => r 0); omega) j (Nat.zero_le _) hj), fun q => absurd (by decide) q⟩
    | succ m ih =>
      intro w1 hm o1 b1 a1 v1 s1
      rw [sub_N (by omega), show m + 1 - 1 = m by omega]
      refine tX0_find_58 ⟨fun q => ((lt0_N (by omega)).mp q).elim, fun _ => ⟨vp_in_nI (by omega) (by decide), ?_⟩⟩
      rw [wr_N (by omega)]
      have m0 : ∀ t, t < r 0 → mk (fun _ => r 0) t m = 0 := fun t ht => mk_no m (fun j _ => by omega)
      have oo : Off (fun c => c = 33) w1 (upI w1 33 m (nI 100000000)) := Off.up rfl
      have oo2 : Off (fun c => c = 33 ∨ c = 29) w1 (upI (upI w1 33 m (nI 100000000)) 29 10 (-1)) := (oo.mono (fun c q => Or.inl q)).tr (Off.up (Or.inr rfl))
      have b2 : BCc (upI (upI w1 33 m (nI 100000000)) 29 10 (-1)) r g n := by
        obtain ⟨a, b, c, d, e⟩ := b1
        refine ⟨a.off oo2 (fun c a b q => by omega), ?_, ?_, ?_, ?_⟩
        · rw [upI1, if_neg (by decide), upI1, if_neg (fun z => absurd z.1 (by decide))]; exact b
        · rw [upI1, if_neg (by decide), upI1, if_neg (fun z => absurd z.1 (by decide))]; exact c
        · rw [(oo2 30 (by decide)).1]; exact d
        · rw [(oo2 32 (by decide)).1]; exact e
      have ez : nI (sumN (gaN r g (fun _ => r 0)) m) = nI 0 := congrArg nI (sumN_zero _ (fun j _ => if_pos rfl))
      have key := c_search hW hn h5 (show m < n by omega) (n - m) 8 (fun _ => r 0) (0, fun _ => r 0) (upI (upI w1 33 m (nI 100000000)) 29 10 (-1)) (fun v w1 => RR (tl K lX0_find) 81 [.ref 29, .int (nI g), .int (nI n), .int (nI m)] (psh v []) w1) (by omega) (by omega) (by omega) (fun _ _ => Nat.le_refl _) (prOk_no _) (by show 0 ≤ 180001; omega) (fun _ _ _ => Nat.le_refl _) b2 ⟨?_, fun j hj1 hj2 => ?_⟩ (fun t ht => ?_) (fun j hj1 hj2 => by omega) ⟨?_, fun z => absurd z (Nat.lt_irrefl 0)⟩ (fun w2 x2 g2 t2 s2 => tX0_find_81 ⟨vp_in_nI (by omega) (by decide), ?_⟩)
      · rw [show n - (n - m) = m by omega, ez] at key
        exact key
      · rw [upI1, if_neg (fun z => absurd z.1 (by decide)), upI1, if_pos ⟨rfl, rfl⟩]
      · rw [upI1, if_neg (fun z => absurd z.1 (by decide)), upI1, if_neg (fun z => by have := z.2; omega)]
        exact a1 j (by omega) hj2
      · rw [show n - (n - m) = m by omega, m0 t ht, (oo2 31 (by decide)).1]
        exact v1 t ht
      · rw [upI1, if_pos ⟨rfl, rfl⟩]
        have e : (-1 : Int32) = nI 0 - nI 1 := by decide
        exact e
      · rw [m1s m (by omega), wr_N (by omega)]
        have p2 : Off (fun c => c = 33) w2 (upI w2 33 m (w2.1 29 10)) := Off.up rfl
        have ot : Off S35 w (upI w2 33 m (w2.1 29 10)) := ((o1.tr (oo2.mono (fun c q => by unfold S35; omega))).tr (x2.1.mono (fun c q => by unfold S35; omega))).tr (p2.mono (fun c q => by unfold S35; omega))
        have b3 := b2.sx x2
        have ep := eR_pos (r := r) (g := g) (n := n) (n - m) (by omega) (0, fun _ => r 0)
        refine ih _ (by omega) ot ?_ (fun j hj1 hj2 => ?_) (fun t ht => ?_) (fun _ => ⟨?_, fun z j hj1 hj2 => ?_⟩)
        · obtain ⟨a, b, c, d, e⟩ := b3
          refine ⟨a.off p2 (fun c a b q => by omega), ?_, ?_, ?_, ?_⟩
          · rw [(p2 29 (by decide)).1]; exact b
          · rw [(p2 29 (by decide)).1]; exact c
          · rw [(p2 30 (by decide)).1]; exact d
          · rw [(p2 32 (by decide)).1]; exact e
        · rw [upI1]
          by_cases q : j = m
          · rw [if_pos ⟨rfl, q⟩, q, s2.1, sub_N ep]; rfl
          · rw [if_neg (fun z => q z.2), (x2.1 33 (by decide)).1, upI1, if_neg (fun z => absurd z.1 (by decide)), upI1, if_neg (fun z => q z.2)]
            exact a1 j (by omega) hj2
        · rw [(p2 31 (by decide)).1, g2 t ht, show n - (n - m) = m by omega, m0 t ht]; rfl
        · rw [(p2 29 (by decide)).1]; exact s2.1
        · rw [(p2 35 (by decide)).1]; exact s2.2 z j hj1 hj2
  -- every thrower
  have P : ∀ (m t : Nat) (w1 : Wd), t + m = r 0 → Off S35 w w1 → w1.1 29 2 = nI g → w1.1 29 3 = nI n → (∀ u, u < t → (∀ a, a < 2 ^ n → (bitF (w1.1 30 u) a ↔ okB r g n u a.testBit)) ∧ w1.1 31 u = nI 0 ∧ ∀ i, i < n → w1.1 32 (u * 5 + i) = nI (fullV r (g + i) u)) → RR (tl K lX0_find) 16 [.ref 29, .int (nI g), .int (nI n), .int (nI t)] [] w1 := by
    intro m
    induction m with
    | zero =>
      intro t w1 ht o1 e2 e3 hu
      have : t = r 0 := by omega
      subst this
      have hC1 := hC.off o1 (fun c a b q => by unfold S35 at q; omega)
      refine tX0_find_16 ⟨fun _ => ?_, fun q => absurd (by rw [hC1.1]; exact Int32.le_refl _) q⟩
      rw [e3, wr_N (by omega)]
      refine ⟨vp_in_nI (by omega) (by decide), ?_⟩
      have oo : Off (fun c => c = 33) w1 (upI w1 33 n (nI 0)) := Off.up rfl
      have e3' : (upI w1 33 n (nI 0)).1 29 3 = nI n := by rw [(oo 29 (by decide)).1]; exact e3
      rw [e3']
      refine M n _ (Nat.le_refl _) (o1.tr (oo.mono (fun c q => by unfold S35; omega))) ⟨hC1.off oo (fun c a b q => by omega), ?_, e3', fun t ht => ?_, fun t i ht hi => ?_⟩ (fun j hj1 hj2 => ?_) (fun t ht => ?_) (fun z => absurd z (Nat.lt_irrefl n))
      · rw [(oo 29 (by decide)).1]; exact e2
      · rw [(oo 30 (by decide)).1]; exact (hu t ht).1
      · rw [(oo 32 (by decide)).1]; exact (hu t ht).2.2 i hi
      · have : j = n := by omega
        subst this
        rw [upI1, if_pos ⟨rfl, rfl⟩]
        have a0 : aft r g j j = 0 := by
          unfold aft
          rw [show j - j = 0 by omega]
          have e : eR r g j 0 (fun _ => r 0) (0, fun _ => r 0) = (roW r g j (fun _ => r 0) + 1, fun _ => r 0) := by
            unfold eR
            rw [dec_t ⟨Nat.zero_le _, prOk_no j⟩]; rfl
          rw [e]
          show roW r g j (fun _ => r 0) + 1 - 1 = 0
          have : roW r g j (fun _ => r 0) = 0 := sumN_zero _ (fun i _ => if_pos rfl)
          omega
        rw [a0]
      · rw [(oo 31 (by decide)).1]; exact (hu t ht).2.1
    | succ m ih =>
      intro t w1 ht o1 e2 e3 hu
      have hC1 := hC.off o1 (fun c a b q => by unfold S35 at q; omega)
      have hP1 := hP.off o1 (fun c a b q => by unfold S35 at q; omega)
      refine tX0_find_16 ⟨fun q => absurd q (by rw [hC1.1, le_N (by omega) (by omega)]; omega), fun _ => ?_⟩
      refine c_prepare hC1 hP1 hW hV (by omega) hn h5 e2 e3 (fun w2 o2 hb hg hgn hx => tX0_find_35 ?_)
      rw [nI_add t 1]
      have e29 : w2.1 29 = w1.1 29 := (o2 29 (by unfold SQ5; omega)).1
      refine ih (t + 1) w2 (by omega) (o1.tr (o2.mono (fun c q => by unfold SQ5 at q; unfold S35; omega))) (by rw [e29]; exact e2) (by rw [e29]; exact e3) (fun u hu2 => ?_)
      by_cases q : u = t
      · rw [q]; exact ⟨hb, hg, hgn⟩
      · obtain ⟨x1, x2, x3⟩ := hx u q
        obtain ⟨y1, y2, y3⟩ := hu u (by omega)
        rw [x1, x2]
        exact ⟨y1, y2, fun i hi => by rw [x3 i (by omega)]; exact y3 i hi⟩
  refine tX0_find_0 ?_
  rw [if_neg (fun z => by rw [lt_N (by omega) (by omega)] at z; omega)]
  have oo : Off S35 w (upI w 29 2 (nI g)) := Off.up (by unfold S35; omega)
  refine P (r 0) 0 _ (by omega) (oo.tr (Off.up (by unfold S35; omega))) ?_ ?_ (fun u hu => by omega)
  · rw [upI1, if_neg (by decide), upI1, if_pos ⟨rfl, rfl⟩]
  · rw [upI1, if_pos ⟨rfl, rfl⟩]
end CFIND
