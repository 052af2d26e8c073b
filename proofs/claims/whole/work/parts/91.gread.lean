/-! the reference reads -/
def RG (w : Wd) (T : Nat → Nat) (n p : Nat) : Prop := BYg w T ∧ w.1 41 11 = nI n ∧ TkG w T (tok T n p)
def SRg (c : Nat) : Prop := c = 41 ∨ c = 44 ∨ c = 46
def KG (w w1 : Wd) : Prop := Off SRg w w1 ∧ ∀ j, j < 11 ∨ 19 ≤ j → w1.1 41 j = w.1 41 j
def D44 (w : Wd) (D : Nat → Nat) : Prop := ∀ j, j < 256 → w.1 44 j = nI (D j)
def N46 (w : Wd) (D : Nat → Nat) (nm : Nat → Nat → Nat) : Prop := ∀ k, k < D 0 → ∀ j, j < 7 → w.1 46 (7 * k + j) = nI (nm k j)
def mB (B : Nat → Nat) : Nat := 8 * B 0 + 16 * B 1 + 32 * B 2
def KFg (w : Wd) (K : Kt) (f s : Nat) : Prop := ∀ w1, KG w w1 → w1.1 41 17 = nI f → w1.1 41 18 = nI s → K (some (.int (nI 0))) w1
def OKg (w : Wd) (K : Kt) (T : Nat → Nat) (n : Nat) (s : PSt) : Prop := ∀ w1, KG w w1 → RG w1 T n s.2.2.2 → D44 w1 s.1 → N46 w1 s.1 s.2.1 → w1.1 41 16 = nI (mB s.2.2.1) → K (some (.int (nI 1))) w1
section GREAD
variable {w : Wd} {K : Kt} {T : Nat → Nat} {n : Nat} {D : Nat → Nat} {nm : Nat → Nat → Nat} {B : Nat → Nat}
theorem KG.rf : KG w w := ⟨Off.rf, fun _ _ => rfl⟩
theorem KG.tr {w1 w2 : Wd} (a : KG w w1) (b : KG w1 w2) : KG w w2 := ⟨a.1.tr b.1, fun j hj => (b.2 j hj).trans (a.2 j hj)⟩
theorem KG.up {j : Nat} {v : Int32} (hj : 11 ≤ j ∧ j < 19) : KG w (upI w 41 j v) := ⟨Off.up (Or.inl rfl), fun i hi => by rw [upI1, if_neg (by omega)]⟩
theorem KG.u44 {j : Nat} {v : Int32} : KG w (upI w 44 j v) := ⟨Off.up (Or.inr (Or.inl rfl)), fun i hi => by rw [upI1, if_neg (fun z => absurd z.1 (by decide))]⟩
theorem KG.u46 {j : Nat} {v : Int32} : KG w (upI w 46 j v) := ⟨Off.up (Or.inr (Or.inr rfl)), fun i hi => by rw [upI1, if_neg (fun z => absurd z.1 (by decide))]⟩
theorem KG.k41 {w1 : Wd} (h : K41 w w1) : KG w w1 := ⟨h.1.mono (fun c q => Or.inl q), fun j hj => h.2 j (by omega)⟩
theorem KFg.pre {w1 : Wd} {f s : Nat} (h : KFg w K f s) (ho : KG w w1) : KFg w1 K f s := fun w2 o2 a b => h w2 (ho.tr o2) a b
theorem RG.o44 {j : Nat} {v : Int32} {p : Nat} (h : RG w T n p) : RG (upI w 44 j v) T n p := by
  have o : Off (fun c => c = 44) w (upI w 44 j v) := Off.up rfl
  have e := (o 41 (by decide)).1
  obtain ⟨a, b, c⟩ := h
  refine ⟨a.off o (by decide), by rw [e]; exact b, ?_⟩
  unfold TkG at c ⊢
  rw [e]; exact c
theorem RG.o46 {j : Nat} {v : Int32} {p : Nat} (h : RG w T n p) : RG (upI w 46 j v) T n p := by
  have o : Off (fun c => c = 46) w (upI w 46 j v) := Off.up rfl
  have e := (o 41 (by decide)).1
  obtain ⟨a, b, c⟩ := h
  refine ⟨a.off o (by decide), by rw [e]; exact b, ?_⟩
  unfold TkG at c ⊢
  rw [e]; exact c
theorem D44.set (h : D44 w D) {a v : Nat} : D44 (upI w 44 a (nI v)) (upR D a v) := fun j hj => by
  rw [upI1]
  by_cases q : j = a
  · rw [if_pos ⟨rfl, q⟩, q, upR_e]
  · rw [if_neg (fun z => q z.2), upR_n q]; exact h j hj
theorem D44.k (h : D44 w D) {w1 : Wd} (ho : K41 w w1) : D44 w1 D := fun j hj => by rw [(ho.1 44 (by decide)).1]; exact h j hj
theorem g_fail {w0 : Wd} {t : Tk} {f : Nat} (h : KFg w0 K f t.2.1) (ho : KG w0 w) (h5 : w.1 41 12 = nI t.2.1) : K (some (.int (nI 0))) (upI (upI w 41 17 (nI f)) 41 18 ((upI w 41 17 (nI f)).1 41 12)) := by
  have e : (upI w 41 17 (nI f)).1 41 12 = nI t.2.1 := by rw [upI1, if_neg (by decide)]; exact h5
  rw [e]
  refine h _ ((ho.tr (KG.up (by omega))).tr (KG.up (by omega))) ?_ ?_
  · rw [upI1, if_neg (by decide), upI1, if_pos ⟨rfl, rfl⟩]
  · rw [upI1, if_pos ⟨rfl, rfl⟩]
theorem g_next (hT : ∀ j, T j < 256) (hn : n ≤ 800) {p : Nat} (hR : RG w T n p) (hp : p ≤ n) (h : ∀ w1, K41 w w1 → RG w1 T n (tok T n p).2.2 → K none w1) : fX11_goesOn [.ref 41] w K := by
  have tb := tok_b (T := T) hp
  exact g_goesOn hT hR.1 hn hR.2.1 tb.2.2.1 hR.2.2.1 (fun w1 k1 t1 => h w1 k1 ⟨hR.1.off k1.1 (by decide), by rw [k1.2 11 (by omega)]; exact hR.2.1, t1⟩)
theorem gk_3 : ∀ k, k < 5 → (gk k = 3 ↔ k = 2) := by decide
theorem g_takeN (hT : ∀ j, T j < 256) (hn : n ≤ 800) {p at_ lo hi : Nat} (hat : at_ < 256) (hR : RG w T n p) (hp : p ≤ n) (hD : D44 w D) (hlo : lo < 2147483648) (hhi : hi < 2147483648) (h : el (takesP T n at_ lo hi D p) (KFg w K) (fun x => ∀ w1, KG w w1 → w1.1 46 = w.1 46 → w1.1 41 16 = w.1 41 16 → RG w1 T n x.2 → x.2 ≤ n → D44 w1 x.1 → x.1 = upR D at_ (x.1 at_) → x.1 at_ ≤ hi → K (some (.int (nI 1))) w1)) : fX11_takes [.ref 41, .int (nI at_), .int (nI lo), .int (nI hi)] w K := by
  have tb := tok_b (T := T) hp
  have t1 := hR.2.2
  have g3 := gk_3 (tok T n p).1 (by omega)
  have gl := gk_lt (tok T n p).1 (by omega)
  refine tX11_takes_0 ?_
  rw [t1.2.1, eq_N (show gk (tok T n p).1 < 2147483648 by omega) (by omega), g3]
  unfold takesP at h
  refine ⟨fun q => ?_, fun q => ?_⟩
  · rw [if_pos q] at h
    have v9 := tok_nu q
    have v6 : w.1 41 15 = nI (vTk T (tok T n p)) := t1.2.2.2 q
    rw [v6, le_N (by omega) (by omega), le_N (by omega) (by omega)]
    refine ⟨fun y => ⟨vp_in_nI (by omega) (by decide), ?_⟩, fun y => ?_⟩
    · rw [if_pos y] at h
      rw [wr_N (by omega)]
      refine g_next hT hn hR.o44 hp (fun w1 k1 r1 => tX11_takes_46 (h w1 (KG.u44.tr (KG.k41 k1)) ?_ ?_ r1 tb.2.2.1 (D44.k hD.set k1) (by show upR D at_ _ = upR D at_ (upR D at_ _ at_); rw [upR_e]) (by show upR D at_ _ at_ ≤ hi; rw [upR_e]; exact y.2)))
      · rw [(k1.1 46 (by decide)).1]
        funext j
        rw [upI1, if_neg (fun z => absurd z.1 (by decide))]
      · rw [k1.2 16 (by omega), upI1, if_neg (fun z => absurd z.1 (by decide))]
    · rw [if_neg y] at h
      exact g_fail (t := tok T n p) h KG.rf t1.2.2.1
  · rw [if_neg q] at h
    exact g_fail (t := tok T n p) h KG.rf t1.2.2.1
theorem tl3 : ∀ a, a < 2 → ∀ b, b < 2 → ∀ c, c < 2 → ∀ i, i < 3 → ((((nI (8 * a + 16 * b + 32 * c)) >>> (nI (3 + i) &&& 31)) &&& nI 1) = nI 1 ↔ (if i = 0 then a else if i = 1 then b else c) = 1) := by decide +kernel
theorem to3 : ∀ a, a < 2 → ∀ b, b < 2 → ∀ c, c < 2 → ∀ i, i < 3 → (if i = 0 then a else if i = 1 then b else c) = 0 → (nI (8 * a + 16 * b + 32 * c)) ||| ((nI 1) <<< (nI (3 + i) &&& 31)) = nI (8 * (if i = 0 then 1 else a) + 16 * (if i = 1 then 1 else b) + 32 * (if i = 2 then 1 else c)) := by decide +kernel
theorem pick3 (B : Nat → Nat) {i : Nat} (hi : i < 3) : (if i = 0 then B 0 else if i = 1 then B 1 else B 2) = B i := by
  have i3 : i = 0 ∨ i = 1 ∨ i = 2 := by omega
  rcases i3 with rfl | rfl | rfl <;> rfl
theorem mB_up (B : Nat → Nat) {i : Nat} (hi : i < 3) : mB (upR B i 1) = 8 * (if i = 0 then 1 else B 0) + 16 * (if i = 1 then 1 else B 1) + 32 * (if i = 2 then 1 else B 2) := by
  have i3 : i = 0 ∨ i = 1 ∨ i = 2 := by omega
  rcases i3 with rfl | rfl | rfl <;> rfl
theorem g_readOnce (hT : ∀ j, T j < 256) (hn : n ≤ 800) {i p : Nat} (hi : i < 3) (hp : p ≤ n) (hR : RG w T n p) (hD : D44 w D) (hN : N46 w D nm) (hB : ∀ i, i < 3 → B i ≤ 1) (hM : w.1 41 16 = nI (mB B)) (h : el (onceP T n i D nm B (tok T n p)) (KFg w K) (OKg w K T n)) : fX11_readOnce [.ref 41, .int (nI (3 + i)), .int (nI (loB i)), .int (nI (hiB i))] w K := by
  have tb := tok_b (T := T) hp
  have b0 := hB 0 (by decide)
  have b1 := hB 1 (by decide)
  have b2 := hB 2 (by decide)
  have bi := hB i hi
  have hl := hiB_le i
  have lb : loB i ≤ 1 := by unfold loB; split <;> omega
  unfold onceP at h
  refine tX11_readOnce_0 ?_
  rw [hM]
  have e := tl3 (B 0) (by omega) (B 1) (by omega) (B 2) (by omega) i hi
  rw [pick3 B hi] at e
  have e : (((nI (mB B)) >>> (nI (3 + i) &&& 31)) &&& nI 1) = nI 1 ↔ B i = 1 := e
  rw [e]
  refine ⟨fun q => ?_, fun q => ?_⟩
  · rw [if_pos (by omega), el_bnd] at h
    have o3 := to3 (B 0) (by omega) (B 1) (by omega) (B 2) (by omega) i hi (by rw [pick3 B hi]; omega)
    rw [← mB_up B hi] at o3
    have o3 : nI (mB B) ||| (nI 1 <<< (nI (3 + i) &&& 31)) = nI (mB (upR B i 1)) := o3
    rw [o3]
    have oo : Off (fun c => c = 41) w (upI w 41 16 (nI (mB (upR B i 1)))) := Off.up rfl
    have hR1 : RG (upI w 41 16 (nI (mB (upR B i 1)))) T n p := by
      obtain ⟨a, b, c1, c2, c3, c4⟩ := hR
      refine ⟨a.off oo (by decide), by rw [upI1, if_neg (by decide)]; exact b, ?_, ?_, ?_, fun z => ?_⟩
      · rw [upI1, if_neg (by decide)]; exact c1
      · rw [upI1, if_neg (by decide)]; exact c2
      · rw [upI1, if_neg (by decide)]; exact c3
      · rw [upI1, if_neg (by decide)]; exact c4 z
    refine g_next hT hn hR1 hp (fun w1 k1 r1 => tX11_readOnce_34 ?_)
    have kg : KG w w1 := (KG.up (by omega)).tr (KG.k41 k1)
    have hD1 : D44 w1 D := fun j hj => by rw [(k1.1 44 (by decide)).1, (oo 44 (by decide)).1]; exact hD j hj
    refine g_takeN hT hn (by omega) r1 tb.2.2.1 hD1 (by omega) (by omega) (el_mono h (fun f s z w2 o a b => tX11_readOnce_41 ⟨Or.inl rfl, z.pre kg w2 o a b⟩) (fun x z w2 o2 e46 e16 r2 p2 d2 ex _ => tX11_readOnce_41 ⟨Or.inr rfl, ?_⟩))
    refine z w2 (kg.tr o2) r2 d2 (fun k hk j hj => ?_) ?_
    · have hk : k < x.1 0 := hk
      rw [ex, upR_n (by omega)] at hk
      rw [e46, (k1.1 46 (by decide)).1, (oo 46 (by decide)).1]; exact hN k hk j hj
    · rw [e16, k1.2 16 (by omega), upI1, if_pos ⟨rfl, rfl⟩]
  · rw [if_neg (by omega)] at h
    exact g_fail (t := tok T n p) h KG.rf hR.2.2.2.2.1
theorem g_readRest (hT : ∀ j, T j < 256) (hn : n ≤ 800) {p : Nat} (hp : p ≤ n) (hR : RG w T n p) (hD : D44 w D) (hN : N46 w D nm) (hb : D 2 ≤ 5) (hd : ∀ j, D j ≤ 500) (hM : w.1 41 16 = nI (mB B)) (h : el (restP T n D nm B (tok T n p)) (KFg w K) (OKg w K T n)) : fX11_readRest [.ref 41] w K := by
  have tb := tok_b (T := T) hp
  have hdl := hd (246 + D 2 - 1)
  unfold restP at h
  refine tX11_readRest_0 ?_
  rw [rd_N (by omega), hD 2 (by omega), eq_N (by omega) (by omega)]
  refine ⟨fun q => ?_, fun q => ?_⟩
  · rw [if_neg q, el_bnd] at h
    refine g_next hT hn hR hp (fun w1 k1 r1 => tX11_readRest_22 ?_)
    have hD1 := hD.k k1
    rw [rd_N (by omega), hD1 2 (by omega), nI_add (D 2) 1, show wr w1 44 (nI 2) (nI (D 2 + 1)) = upI w1 44 2 (nI (D 2 + 1)) from wr_N (by omega), eq0_N (by omega)]
    have hD2 := hD1.set (a := 2) (v := D 2 + 1)
    have kg : KG w (upI w1 44 2 (nI (D 2 + 1))) := (KG.k41 k1).tr KG.u44
    have G : ∀ lo, lo = (if D 2 = 0 then 1 else D (246 + D 2 - 1) + 1) → fX11_takes [.ref 41, .int (nI (246 + D 2)), .int (nI lo), .int (nI 120)] (upI w1 44 2 (nI (D 2 + 1))) (fun v w1 => RR (tl K lX11_readRest) 65 [.ref 41, .int (nI (D 2))] (psh v []) w1) := by
      intro lo el1
      rw [← el1] at h
      refine g_takeN hT hn (by omega) r1.o44 tb.2.2.1 hD2 (by rw [el1]; split <;> omega) (by omega) (el_mono h (fun f s z w2 o a b => tX11_readRest_65 ⟨fun _ => z.pre kg w2 o a b, fun y => absurd rfl y⟩) (fun x z w2 o2 e46 e16 r2 p2 d2 ex _ => tX11_readRest_65 ⟨fun y => absurd y (by decide), fun _ => ?_⟩))
      rw [el_bnd] at z
      rw [nI_add 251 (D 2)]
      refine g_takeN hT hn (by omega) r2 p2 d2 (by omega) (by omega) (el_mono z (fun f s z w2 o a b => tX11_readRest_80 ⟨fun _ => z.pre (kg.tr o2) w2 o a b, fun y => absurd rfl y⟩) (fun x3 z3 w3 o3 f46 f16 r3 p3 d3 ex3 _ => tX11_readRest_80 ⟨fun y => absurd y (by decide), fun _ => ?_⟩))
      refine z3 w3 ((kg.tr o2).tr o3) r3 d3 (fun k hk j hj => ?_) ?_
      · have hk : k < x3.1 0 := hk
        rw [ex3, upR_n (by omega), ex, upR_n (by omega), upR_n (by omega)] at hk
        rw [f46, e46, upI1, if_neg (fun z => absurd z.1 (by decide)), (k1.1 46 (by decide)).1]; exact hN k hk j hj
      · rw [f16, e16, upI1, if_neg (fun z => absurd z.1 (by decide)), k1.2 16 (by omega)]; exact hM
    rw [nI_add 246 (D 2)]
    refine ⟨fun y => ?_, fun y => G 1 (by rw [if_pos y])⟩
    have e : rd (upI w1 44 2 (nI (D 2 + 1))) 44 (nI (246 + D 2) - nI 1) + nI 1 = nI (D (246 + D 2 - 1) + 1) := by
      rw [sub_N (by omega), rd_N (by omega), hD2 _ (by omega), upR_n (by omega), nI_add]
    rw [e]
    exact ⟨by rw [sub_N (by omega)]; exact vp_in_nI (by omega) (by decide), G _ (by rw [if_neg y])⟩
  · rw [if_pos q] at h
    exact g_fail (t := tok T n p) h KG.rf hR.2.2.2.2.1
theorem g_readGame (hT : ∀ j, T j < 256) (hn : n ≤ 800) {p : Nat} (hp : p ≤ n) (hR : RG w T n p) (hD : D44 w D) (hN : N46 w D nm) (hb : D 1 ≤ 20) (hd : ∀ j, D j ≤ 500) (hM : w.1 41 16 = nI (mB B)) (h : el (gameP T n D nm B (tok T n p)) (KFg w K) (OKg w K T n)) : fX11_readGame [.ref 41] w K := by
  have tb := tok_b (T := T) hp
  have hdl := hd (46 + D 1 - 1)
  unfold gameP at h
  refine tX11_readGame_0 ?_
  rw [rd_N (by omega), hD 1 (by omega), eq_N (by omega) (by omega)]
  refine ⟨fun q => ?_, fun q => ?_⟩
  · rw [if_neg q, el_bnd] at h
    refine g_next hT hn hR hp (fun w1 k1 r1 => tX11_readGame_23 ?_)
    have hD1 := hD.k k1
    rw [rd_N (by omega), hD1 1 (by omega), nI_add (D 1) 1, show wr w1 44 (nI 1) (nI (D 1 + 1)) = upI w1 44 1 (nI (D 1 + 1)) from wr_N (by omega), eq0_N (by omega)]
    have hD2 := hD1.set (a := 1) (v := D 1 + 1)
    have kg : KG w (upI w1 44 1 (nI (D 1 + 1))) := (KG.k41 k1).tr KG.u44
    have G : ∀ lo, lo = (if D 1 = 0 then 0 else D (46 + D 1 - 1) + 1) → fX11_takes [.ref 41, .int (nI (46 + D 1)), .int (nI lo), .int (nI 59)] (upI w1 44 1 (nI (D 1 + 1))) (fun v w1 => RR (tl K lX11_readGame) 64 [.ref 41, .int (nI (D 1))] (psh v []) w1) := by
      intro lo el1
      rw [← el1] at h
      refine g_takeN hT hn (by omega) r1.o44 tb.2.2.1 hD2 (by rw [el1]; split <;> omega) (by omega) (el_mono h (fun f s z w2 o a b => tX11_readGame_64 ⟨fun _ => z.pre kg w2 o a b, fun y => absurd rfl y⟩) (fun x z w2 o2 e46 e16 r2 p2 d2 ex _ => tX11_readGame_64 ⟨fun y => absurd y (by decide), fun _ => ?_⟩))
      rw [el_bnd] at z
      rw [nI_add 66 (D 1)]
      refine g_takeN hT hn (by omega) r2 p2 d2 (by omega) (by omega) (el_mono z (fun f s z w2 o a b => tX11_readGame_78 ⟨fun _ => z.pre (kg.tr o2) w2 o a b, fun y => absurd rfl y⟩) (fun x3 z3 w3 o3 f46 f16 r3 p3 d3 ex3 _ => tX11_readGame_78 ⟨fun y => absurd y (by decide), fun _ => ?_⟩))
      rw [el_bnd] at z3
      rw [nI_add 86 (D 1)]
      refine g_takeN hT hn (by omega) r3 p3 d3 (by omega) (by omega) (el_mono z3 (fun f s z w2 o a b => tX11_readGame_93 ⟨fun _ => z.pre ((kg.tr o2).tr o3) w2 o a b, fun y => absurd rfl y⟩) (fun x4 z4 w4 o4 g46 g16 r4 p4 d4 ex4 _ => tX11_readGame_93 ⟨fun y => absurd y (by decide), fun _ => ?_⟩))
      refine z4 w4 (((kg.tr o2).tr o3).tr o4) r4 d4 (fun k hk j hj => ?_) ?_
      · have hk : k < x4.1 0 := hk
        rw [ex4, upR_n (by omega), ex3, upR_n (by omega), ex, upR_n (by omega), upR_n (by omega)] at hk
        rw [g46, f46, e46, upI1, if_neg (fun z => absurd z.1 (by decide)), (k1.1 46 (by decide)).1]; exact hN k hk j hj
      · rw [g16, f16, e16, upI1, if_neg (fun z => absurd z.1 (by decide)), k1.2 16 (by omega)]; exact hM
    rw [nI_add 46 (D 1)]
    refine ⟨fun y => ?_, fun y => G 0 (by rw [if_pos y])⟩
    have e : rd (upI w1 44 1 (nI (D 1 + 1))) 44 (nI (46 + D 1) - nI 1) + nI 1 = nI (D (46 + D 1 - 1) + 1) := by
      rw [sub_N (by omega), rd_N (by omega), hD2 _ (by omega), upR_n (by omega), nI_add]
    rw [e]
    exact ⟨by rw [sub_N (by omega)]; exact vp_in_nI (by omega) (by decide), G _ (by rw [if_neg y])⟩
  · rw [if_pos q] at h
    exact g_fail (t := tok T n p) h KG.rf hR.2.2.2.2.1
end GREAD
