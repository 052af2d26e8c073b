/-! what holds between any two calls -/
def NMr (w : Wd) (r : Nat → Nat) (nm : Nat → Nat → Nat) : Prop := ∀ k, k < r 0 → w.2 14 k = lN (cdU (nm k) 7) ∧ okW (nm k) ∧ ∀ j, j < 7 → w.1 45 (7 * k + j) = nI (nm k j)
def TRr (w : Wd) : Prop := w.1 0 10 = w.1 41 1 ∧ w.1 0 11 = w.1 41 2 ∧ w.1 0 12 = (if w.1 41 1 = nI 4 then w.1 41 3 else -1)
def LR (w : Wd) : Prop := ∃ T L r nm, RH w r ∧ TPc w T L ∧ TPg w T L ∧ TPb T L ∧ NMr w r nm ∧ TRr w
def LK (v u : Option Value) (w2 : Wd) : Prop := u = v ∧ (∃ x : Int32, v = some (.int x)) ∧ LR w2
def LKL (v u : Option Value) (w2 : Wd) : Prop := u = v ∧ (∃ x : Int64, v = some (.long x)) ∧ LR w2
section LAWR
variable {w : Wd}
theorem TPc.off {S : Nat → Prop} {w1 : Wd} {T : Nat → Nat} {L : Nat} (h : TPc w T L) (ho : Off S w w1) (h1 : ¬ S 1) (h2 : ¬ S 2) : TPc w1 T L := ⟨by rw [(ho 1 h1).1]; exact h.1, fun j hj => by rw [(ho 2 h2).1]; exact h.2 j hj⟩
theorem TPg.off {S : Nat → Prop} {w1 : Wd} {T : Nat → Nat} {L : Nat} (h : TPg w T L) (ho : Off S w w1) (h1 : w1.1 41 5 = w.1 41 5) (h2 : ¬ S 42) : TPg w1 T L := ⟨by rw [h1]; exact h.1, fun j hj => by rw [(ho 42 h2).1]; exact h.2 j hj⟩
theorem NMr.off {S : Nat → Prop} {w1 : Wd} {r r1 : Nat → Nat} {nm : Nat → Nat → Nat} (h : NMr w r nm) (ho : Off S w w1) (h1 : ¬ S 14) (h2 : ¬ S 45) (e : r1 0 = r 0) : NMr w1 r1 nm := fun k hk => by
  rw [e] at hk
  rw [(ho 14 h1).2, (ho 45 h2).1]
  exact h k hk
theorem RH_fr {S : Nat → Prop} {w1 : Wd} {r : Nat → Nat} (h : RH w r) (o : Off S w w1) (hs : ∀ c, (13 ≤ c ∧ c ≤ 25) ∨ c = 39 ∨ c = 40 ∨ c = 43 ∨ c = 52 → ¬ S c) (h6 : w1.1 41 6 = w.1 41 6) (h24 : w1.1 41 24 = w.1 41 24) : RH w1 r := by
  obtain ⟨⟨hM, hC, hP, hW, hV, a6, a7, a8⟩, N, A, H, h3, h4, hw, hm, hv⟩ := h
  have e39 := (o 39 (hs 39 (by omega))).1
  refine ⟨⟨hM.off o (hs 43 (by omega)), hC.off o (fun c a b => hs c (by omega)), hP.off o (fun c a b => hs c (by omega)), hW, hV, by rw [h6]; exact a6, a7, by rw [e39, h24]; exact a8⟩, N, A, H, by rw [e39]; exact h3, by rw [e39]; exact h4, ⟨by rw [h24]; exact hw.1, hw.2.1, fun i j hi hj => by rw [(o 52 (hs 52 (by omega))).1]; exact hw.2.2 i j hi hj⟩, HM_off hm o (hs 40 (by omega)), hv⟩
theorem LR_FF {w2 : Wd} (h : LR w) (hf : FF w w2) : LR w2 := by
  obtain ⟨T, L, r, nm, hR, hc, hg, hb, hn, ht⟩ := h
  have hR2 := RH_FF hR hf
  obtain ⟨o, f1, f2, f3, f4, f5, f6, -, -⟩ := hf
  refine ⟨T, L, r, nm, hR2, hc.off o (by unfold S38 S51; omega) (by unfold S38 S51; omega), hg.off o f6 (by unfold S38 S51; omega), hb, hn.off o (by unfold S38 S51; omega) (by unfold S38 S51; omega) rfl, f1, by rw [f2, f4]; exact ht.2.1, ?_⟩
  rw [f3, f5, ite_self]
theorem LK_Q {v u : Option Value} {w2 : Wd} (h : LR w) (hq : QK w v u w2) : LK v u w2 := ⟨hq.1, hq.2.1, LR_FF h hq.2.2⟩
theorem LK_QL {v u : Option Value} {w2 : Wd} (h : LR w) (hq : QKL w v u w2) : LKL v u w2 := ⟨hq.1, hq.2.1, LR_FF h hq.2.2⟩
theorem LK_S {v u : Option Value} {w2 : Wd} (h : LR w) (hq : SK w v u w2) : LK v u w2 := by
  obtain ⟨a, b, rfl⟩ := hq
  obtain ⟨T, L, r, nm, hR, hc, hg, hb, hn, ht⟩ := h
  have o : Off (fun c => c = 41) w (upI w 41 0 (nI 0)) := Off.up rfl
  have t : ∀ j, j ≠ 0 → (upI w 41 0 (nI 0)).1 41 j = w.1 41 j := fun j hj => t41 hj
  have e0 := (o 0 (by decide)).1
  refine ⟨a, b, T, L, r, nm, RH_fr hR o (fun c q => by omega) (t 6 (by decide)) (t 24 (by decide)), hc.off o (by decide) (by decide), hg.off o (t 5 (by decide)) (by decide), hb, hn.off o (by decide) (by decide) rfl, ?_, ?_, ?_⟩
  · rw [e0, t 1 (by decide)]; exact ht.1
  · rw [e0, t 2 (by decide)]; exact ht.2.1
  · rw [e0, t 1 (by decide), t 3 (by decide)]; exact ht.2.2
theorem LK_A {T : Nat → Nat} {L : Nat} {r : Nat → Nat} {nm : Nat → Nat → Nat} (hc : TPc w T L) (hg : TPg w T L) (hb : TPb T L) (hn : NMr w r nm) (ht : TRr w) {v u : Option Value} {w2 : Wd} (hq : AK w r v u w2) : LK v u w2 := by
  obtain ⟨a, b, ⟨o, f1, f2, f3, f4, f5, f6⟩, r1, hR, fx⟩ := hq
  refine ⟨a, b, T, L, r1, nm, hR, hc.off o (by unfold SA S51; omega) (by unfold SA S51; omega), hg.off o f6 (by unfold SA S51; omega), hb, hn.off o (by unfold SA S51; omega) (by unfold SA S51; omega) (fx 0 (by unfold FX; omega)), f1, by rw [f2, f4]; exact ht.2.1, ?_⟩
  rw [f3, f5, ite_self]
/-- feed -/
theorem l_feed (h : LR w) {x1 x2 x3 x4 x5 : Int32} : fX10_feed [.ref 0, .int x1, .int x2, .int x3, .int x4, .int x5] w (fun v w1 => fX11_feed [.ref 41, .int x1, .int x2, .int x3, .int x4, .int x5] w1 (fun u w2 => LK v u w2)) := by
  obtain ⟨T, L, r, nm, hR, hc, hg, hb, hn, ht⟩ := h
  refine p_feed hc hg hb (fun v T1 L1 w1 w2 o1 o2 k2 c2 g2 b2 => ⟨rfl, ⟨v, rfl⟩, T1, L1, r, nm, ?_, c2, g2, b2, ?_, ?_⟩)
  · have e41 : ∀ j, j ≠ 0 → j ≠ 5 → w2.1 41 j = w.1 41 j := fun j a b => by rw [k2 j a b, (o1 41 (by decide)).1]
    have oo : Off (fun c => c = 1 ∨ c = 2 ∨ c = 41 ∨ c = 42) w w2 := (o1.mono (fun c q => by omega)).tr (o2.mono (fun c q => by omega))
    exact RH_fr hR oo (fun c q => by omega) (e41 6 (by decide) (by decide)) (e41 24 (by decide) (by decide))
  · exact (hn.off o1 (by decide) (by decide) (r1 := r) rfl).off o2 (by decide) (by decide) rfl
  · have e41 : ∀ j, j ≠ 0 → j ≠ 5 → w2.1 41 j = w.1 41 j := fun j a b => by rw [k2 j a b, (o1 41 (by decide)).1]
    have e0 : w2.1 0 = w.1 0 := ((o2 0 (by decide)).1).trans (o1 0 (by decide)).1
    refine ⟨?_, ?_, ?_⟩
    · rw [e0, e41 1 (by decide) (by decide)]; exact ht.1
    · rw [e0, e41 2 (by decide) (by decide)]; exact ht.2.1
    · rw [e0, e41 1 (by decide) (by decide), e41 3 (by decide) (by decide)]; exact ht.2.2
end LAWR
/-! the plan emptied behind a text -/
def DVr (r : Nat → Nat) : Prop := ∀ g i j, g < 20 → i < j → j < r (106 + g) → who r g i ≠ who r g j
section DEMPTY
variable {w : Wd} {r : Nat → Nat} {K : Kt}
theorem d_remove (hP : CP w r) (hW : WFr r) (hV : DVr r) {g n : Nat} (hg : g < 20) (hf : r (106 + g) = n + 1) (h : ∀ w1, Off SP w w1 → CP w1 (upR r (106 + g) n) → K none w1) : fX5_remove [.ref 21, .int (nI g), .int (nI n)] w K := by
  have h3a : ∀ h, h < 20 → r (106 + h) ≤ 3 := fun h hh => (hW.2.2.2.2.2.2.2.1 h hh).2.2.2
  have a3 := h3a g hg
  have m7 : who r g n ≤ 7 := (hW.2.2.2.2.2.2.2.2.1 (3 * g + n) (by omega)).1
  have e1 : nI g * nI 3 + nI n = nI (g * 3 + n) := by rw [pk_mul, nI_add]
  have fk : rd w 23 (nI (g * 3 + n)) = nI (who r g n) := by rw [rd_N (by omega)]; exact (hP.2.1 g n hg (by omega)).1
  have e3 : nI (who r g n) * nI 20 + nI g = nI (who r g n * 20 + g) := by rw [pk_mul, nI_add]
  have s22 : SP 22 := by unfold SP; omega
  have s25 : SP 25 := by unfold SP; omega
  refine tX5_remove_0 ?_
  rw [e1, fk, e3, wr_N (show who r g n * 20 + g < 2147483648 by omega)]
  refine ⟨vp_in_nI (by omega) (by decide), vp_in_nI (by omega) (by decide), ?_⟩
  have o25 : Off SP w (upI w 25 (who r g n * 20 + g) (nI 0)) := Off.up s25
  have f22 : rd (upI w 25 (who r g n * 20 + g) (nI 0)) 22 (nI g) = nI (n + 1) := by rw [rd_N (by omega), upI1, if_neg (fun z => absurd z.1 (by decide)), hP.1 g hg, hf]
  refine tX5_remove_19 ⟨vp_in_nI (by omega) (by decide), fun _ => ?_, fun q => absurd (by rw [f22, nI_add n 1, le_N (by omega) (by omega)]; exact Nat.le_refl _) q⟩
  rw [f22, sub_N (by omega), wr_N (by omega), show n + 1 - 1 = n by omega]
  have fl : ∀ a, a < 20 → upR r (106 + g) n (106 + a) = if a = g then n else r (106 + a) := fun a ha => by
    by_cases q : a = g
    · rw [q, upR_e, if_pos rfl]
    · rw [upR_n (by omega), if_neg q]
  have nw : ∀ a j, a < 20 → j < 3 → who (upR r (106 + g) n) a j = who r a j ∧ thr (upR r (106 + g) n) a j = thr r a j := fun a j ha hj => ⟨upR_n (by omega), upR_n (by omega)⟩
  have ld : ∀ u a, a < 20 → load (upR r (106 + g) n) u a = if a = g ∧ u = who r g n then 0 else load r u a := fun u a ha => by
    unfold load
    rw [fl a ha]
    by_cases q : a = g
    · subst q
      rw [if_pos rfl, hf]
      have e : sumN (fun k => if who (upR r (106 + a) n) a k = u then thr (upR r (106 + a) n) a k else 0) n = sumN (fun k => if who r a k = u then thr r a k else 0) n := sumN_congr _ (fun k hk => by
        show (if who (upR r (106 + a) n) a k = u then thr (upR r (106 + a) n) a k else 0) = (if who r a k = u then thr r a k else 0)
        rw [(nw a k ha (by omega)).1, (nw a k ha (by omega)).2])
      rw [e]
      by_cases p : u = who r a n
      · rw [if_pos ⟨rfl, p⟩]
        refine sumN_zero _ (fun k hk => ?_)
        show (if who r a k = u then thr r a k else 0) = 0
        rw [if_neg (fun z => hV a k n ha hk (by omega) (z.trans p))]
      · rw [if_neg (fun z => p z.2)]
        show _ = sumN (fun k => if who r a k = u then thr r a k else 0) n + (if who r a n = u then thr r a n else 0)
        rw [if_neg (fun z => p z.symm), Nat.add_zero]
    · rw [if_neg q, if_neg (fun z => q z.1)]
      have := h3a a ha
      refine sumN_congr _ (fun k hk => ?_)
      show (if who (upR r (106 + g) n) a k = u then thr (upR r (106 + g) n) a k else 0) = (if who r a k = u then thr r a k else 0)
      rw [(nw a k ha (by omega)).1, (nw a k ha (by omega)).2]
  refine h _ (o25.tr (Off.up s22)) ⟨fun a ha => ?_, fun a j ha hj => ?_, fun u a hu ha => ?_⟩
  · rw [fl a ha, upI1]
    by_cases q : a = g
    · rw [if_pos ⟨rfl, q⟩, if_pos q]
    · rw [if_neg (fun z => q z.2), if_neg q, upI1, if_neg (fun z => absurd z.1 (by decide))]; exact hP.1 a ha
  · rw [fl a ha] at hj
    have b3 := h3a a ha
    have jl : j < r (106 + a) := by
      by_cases q : a = g
      · rw [if_pos q] at hj; rw [q, hf]; omega
      · rw [if_neg q] at hj; exact hj
    rw [(nw a j ha (by omega)).1, (nw a j ha (by omega)).2]
    constructor
    · rw [upI1, if_neg (fun z => absurd z.1 (by decide)), upI1, if_neg (fun z => absurd z.1 (by decide))]; exact (hP.2.1 a j ha jl).1
    · rw [upI1, if_neg (fun z => absurd z.1 (by decide)), upI1, if_neg (fun z => absurd z.1 (by decide))]; exact (hP.2.1 a j ha jl).2
  · rw [ld u a ha, upI1, if_neg (fun z => absurd z.1 (by decide)), upI1]
    by_cases q : a = g ∧ u = who r g n
    · rw [if_pos q, if_pos ⟨rfl, by rw [q.1, q.2]⟩]
    · rw [if_neg q, if_neg (fun z => q (by have := z.2; omega))]; exact hP.2.2 u a hu ha
theorem WFr_fl {g n : Nat} (hW : WFr r) (hg : g < 20) (hn : n ≤ 3) : WFr (upR r (106 + g) n) := by
  have := WFr_rem (r := r) (g := g) (k := 0) (n := n) (i := 0) hW hg (by omega) hn
  rw [remR_0 hg] at this
  exact this
theorem DVr_fl {g n : Nat} (h : DVr r) (hg : g < 20) (hn : n ≤ r (106 + g)) (h3 : ∀ a, a < 20 → r (106 + a) ≤ 3) : DVr (upR r (106 + g) n) := by
  intro a i j ha hij hj
  have jl : j < r (106 + a) := by
    by_cases q : a = g
    · rw [q, upR_e] at hj; rw [q]; omega
    · rw [upR_n (by omega)] at hj; exact hj
  have := h3 a ha
  have e1 : who (upR r (106 + g) n) a i = who r a i := upR_n (by omega)
  have e2 : who (upR r (106 + g) n) a j = who r a j := upR_n (by omega)
  rw [e1, e2]
  exact h a i j ha hij jl
theorem d_emptyGame (hP : CP w r) (hW : WFr r) (hV : DVr r) {g : Nat} (hg : g < 20) (h : ∀ w1, Off SP w w1 → CP w1 (upR r (106 + g) 0) → K none w1) : fX5_emptyGame [.ref 21, .int (nI g)] w K := by
  have L : ∀ (n : Nat) (q : Nat → Nat) (w1 : Wd), q (106 + g) = n → Off SP w w1 → CP w1 q → WFr q → DVr q → upR q (106 + g) 0 = upR r (106 + g) 0 → RR (tl K lX5_emptyGame) 9 [.ref 21, .int (nI g), .int (nI n - nI 1)] [] w1 := by
    intro n
    induction n with
    | zero =>
      intro q w1 hn ho hP1 hW1 hV1 e
      refine tX5_emptyGame_9 ⟨fun _ => ?_, fun z => absurd (by decide) z⟩
      have eq : q = upR r (106 + g) 0 := by
        rw [← e]
        have := upR_same q (106 + g)
        rw [hn] at this
        exact this.symm
      rw [eq] at hP1
      exact h w1 ho hP1
    | succ n ih =>
      intro q w1 hn ho hP1 hW1 hV1 e
      have a3 := (hW1.2.2.2.2.2.2.2.1 g hg).2.2.2
      have e1 : nI (n + 1) - nI 1 = nI n := by rw [sub_N (by omega)]; rfl
      rw [e1]
      refine tX5_emptyGame_9 ⟨fun z => ((lt0_N (by omega)).mp z).elim, fun _ => ?_⟩
      refine d_remove hP1 hW1 hV1 hg hn (fun w2 o2 hP2 => tX5_emptyGame_19 ?_)
      rw [m1s n (by omega)]
      refine ih (upR q (106 + g) n) w2 (upR_e _ _ _) (ho.tr o2) hP2 (WFr_fl hW1 hg (by omega)) (DVr_fl hV1 hg (by omega) (fun a ha => (hW1.2.2.2.2.2.2.2.1 a ha).2.2.2)) ?_
      rw [← e]
      funext j
      unfold upR
      by_cases c : j = 106 + g
      · rw [if_pos c, if_pos c]
      · rw [if_neg c, if_neg c, if_neg c]
  refine tX5_emptyGame_0 ⟨vp_in_nI (by omega) (by decide), ?_⟩
  rw [rd_N (by omega), hP.1 g hg]
  exact L (r (106 + g)) r w rfl Off.rf hP hW hV rfl
theorem d_empty (hP : CP w r) (hW : WFr r) (hV : DVr r) (h : ∀ w1, Off SP w w1 → CP w1 (emR r 20) → K none w1) : fX5_empty [.ref 21] w K := by
  have ok : ∀ n, n ≤ 20 → WFr (emR r n) ∧ DVr (emR r n) := by
    intro n
    induction n with
    | zero => intro _; rw [emR_0]; exact ⟨hW, hV⟩
    | succ n ih =>
      intro hn
      obtain ⟨a, b⟩ := ih (by omega)
      rw [← emR_s]
      exact ⟨WFr_fl a (by omega) (by omega), DVr_fl b (by omega) (Nat.zero_le _) (fun u hu => (a.2.2.2.2.2.2.2.1 u hu).2.2.2)⟩
  have L : ∀ (n g : Nat) (w1 : Wd), g + n = 20 → Off SP w w1 → CP w1 (emR r g) → RR (tl K lX5_empty) 2 [.ref 21, .int (nI g)] [] w1 := by
    intro n
    induction n with
    | zero =>
      intro g w1 hg ho hP1
      have : g = 20 := by omega
      subst this
      exact tX5_empty_2 ⟨fun _ => h w1 ho hP1, fun q => absurd (Int32.le_refl _) q⟩
    | succ n ih =>
      intro g w1 hg ho hP1
      obtain ⟨a, b⟩ := ok g (by omega)
      refine tX5_empty_2 ⟨fun q => absurd q (by rw [le_N (by omega) (by omega)]; omega), fun _ => ?_⟩
      refine d_emptyGame hP1 a b (by omega) (fun w2 o2 hP2 => tX5_empty_13 ?_)
      rw [emR_s] at hP2
      rw [nI_add g 1]
      exact ih (g + 1) w2 (by omega) (ho.tr o2) hP2
  refine tX5_empty_0 (L 20 0 w rfl Off.rf ?_)
  rw [emR_0]; exact hP
end DEMPTY
