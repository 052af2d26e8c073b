/-! the class prepares its search -/
def DO (w : Wd) (r : Nat → Nat) (g n t : Nat) : Prop := w.1 27 2 = nI t ∧ ∀ h, h < 20 → ¬ (g ≤ h ∧ h < g + n) → w.1 28 h = nI (load r t h)
section PREP
variable {w : Wd} {r : Nat → Nat} {g n t : Nat} {K : Kt}
theorem c_mayHave {m : Nat} (ht : t < 8) (k0 : ¬ bitF (w.1 30 t) m → K (some (.int (nI 0))) w) (k1 : bitF (w.1 30 t) m → K (some (.int (nI 1))) w) : fX0_mayHave [.ref 29, .int (nI t), .int (nI m)] w K := by
  refine tX0_mayHave_0 ⟨vp_in_nI (by omega) (by decide), ?_⟩
  rw [rd_N (by omega)]
  exact ⟨k0, k1⟩
theorem c_fitsTogether {s : Nat} (hC : CT w r) (hW : WFr r) (hV : VP r) (ht : t < r 0) (hn : g + n ≤ r 1) (h5 : n ≤ 5) (hs : s < 2 ^ n) (hs1 : 1 ≤ s) (e2 : w.1 29 2 = nI g) (e3 : w.1 29 3 = nI n) (hD : DO w r g n t) (h : ∀ w1 v, Off (· = 28) w w1 → DO w1 r g n t → isB v (bitF (w.1 30 t) (s ^^^ 2 ^ la s n) ∧ allowT r (TSb r g n t s.testBit) t (g + la s n) (fullN r t (g + la s n))) → K (some (.int v)) w1) : fX0_fitsTogether [.ref 29, .int (nI t), .int (nI s)] w K := by
  have h0 := hW.2.1
  have h1 := hW.2.2.1
  have p32 := pow_n n (by omega)
  obtain ⟨l1, l2, l3⟩ := la_n n (by omega) s hs hs1
  have L : ∀ (m i : Nat) (u5 : Value) (w1 : Wd), i + m = n → Off (· = 28) w w1 → DO w1 r g n t → (∀ j, j < i → w1.1 28 (g + j) = nI (if s.testBit j = true then fullN r t (g + j) else 0)) → RR (tl K lX0_fitsTogether) 5 [.ref 29, .int (nI t), .int (nI s), .int (nI (la s i)), .int (nI i), u5] [] w1 := by
    intro m
    induction m with
    | zero =>
      intro i u5 w1 hi ho hD1 hc
      have : i = n := by omega
      subst this
      have hC1 := hC.off ho (fun c a b q => by omega)
      have e29 : w1.1 29 = w.1 29 := (ho 29 (by decide)).1
      have e30 : w1.1 30 = w.1 30 := (ho 30 (by decide)).1
      have hI : DI w1 (TSb r g i t s.testBit) t := ⟨hD1.1, fun k hk => by
        by_cases q : g ≤ k ∧ k < g + i
        · obtain ⟨j, rfl⟩ : ∃ j, k = g + j := ⟨k - g, by omega⟩
          rw [hc j (by omega), TSb_in (by omega)]
        · rw [hD1.2 k hk q, TSb_out q, ldT_lt hk]⟩
      refine tX0_fitsTogether_5 ⟨fun _ => ?_, fun q => absurd (by rw [e29, e3]; exact Int32.le_refl _) q⟩
      rw [xor_n s (by omega) (la s i) (by omega)]
      refine c_mayHave (by omega) (fun q => ?_) (fun q => ?_)
      · refine tX0_fitsTogether_97 ⟨fun _ => h w1 _ ho hD1 (Or.inr ⟨rfl, fun z => q (by rw [e30]; exact z.1)⟩), fun z => absurd rfl z⟩
      · refine tX0_fitsTogether_97 ⟨fun z => absurd z (by decide), fun _ => ?_⟩
        have fl := full_le hW (t := t) (g := g + la s i) (by omega)
        rw [e29, e2, nI_add g (la s i), full_C hC1 hW ht (by omega)]
        refine ⟨by rw [pk_mul, nI_add]; exact vp_in_nI (by omega) (by decide), by rw [pk_mul, nI_add]; exact vp_in_nI (by omega) (by decide), ?_⟩
        refine c_clashes hC1 hW hV.1 hI ht (TSb_le hW (by omega)) (by omega) (by omega) (tX0_fitsTogether_127 ⟨fun z => ?_, fun z => ?_⟩)
        · rw [clash_allow] at z
          exact h w1 _ ho hD1 (Or.inr ⟨rfl, fun y => z y.2⟩)
        · rw [clash_allow] at z
          exact h w1 _ ho hD1 (Or.inl ⟨rfl, by rw [← e30]; exact q, z⟩)
    | succ m ih =>
      intro i u5 w1 hi ho hD1 hc
      have hC1 := hC.off ho (fun c a b q => by omega)
      have e29 : w1.1 29 = w.1 29 := (ho 29 (by decide)).1
      have bi := bitF_n s (by omega) i (by omega)
      have fin2 : ∀ (x : Nat) (u5 : Value), (if s.testBit i = true then fullN r t (g + i) else 0) = x → RR (tl K lX0_fitsTogether) 5 [.ref 29, .int (nI t), .int (nI s), .int (nI (la s (i + 1))), .int (nI i + nI 1), u5] [] (upI w1 28 (g + i) (nI x)) := fun x u5 ex => by
        rw [nI_add i 1]
        refine ih (i + 1) u5 _ (by omega) (ho.tr (Off.up rfl)) ⟨?_, fun k hk hk2 => ?_⟩ (fun j hj => ?_)
        · rw [upI1, if_neg (fun z => absurd z.1 (by decide))]; exact hD1.1
        · rw [upI1, if_neg (fun z => by have := z.2; omega)]; exact hD1.2 k hk hk2
        · rw [upI1]
          by_cases q : j = i
          · rw [if_pos ⟨rfl, by omega⟩, q, ex]
          · rw [if_neg (fun z => q (by have := z.2; omega))]; exact hc j (by omega)
      refine tX0_fitsTogether_5 ⟨fun q => absurd q (by rw [e29, e3, le_N (by omega) (by omega)]; omega), fun _ => ⟨fun q => ?_, fun q => ?_⟩⟩
      · have nb : ¬ s.testBit i = true := fun z => q (bi.mpr z)
        refine tX0_fitsTogether_29 ⟨fun _ => ?_, fun z => absurd rfl z⟩
        rw [e29, e2, nI_add g i]
        refine tX0_fitsTogether_66 ⟨vp_in_nI (by omega) (by decide), fun _ => ?_, fun z => absurd rfl z⟩
        rw [wr_N (by omega)]
        have e : la s (i + 1) = la s i := if_neg nb
        have := fin2 0 (.int (nI 0)) (if_neg nb)
        rw [e] at this
        exact this
      · have nb : s.testBit i = true := bi.mp q
        refine tX0_fitsTogether_29 ⟨fun z => absurd z (by decide), fun _ => ?_⟩
        rw [e29, e2, nI_add g i, full_C hC1 hW ht (by omega)]
        refine ⟨by rw [pk_mul, nI_add]; exact vp_in_nI (by omega) (by decide), by rw [pk_mul, nI_add]; exact vp_in_nI (by omega) (by decide), ?_⟩
        refine tX0_fitsTogether_66 ⟨vp_in_nI (by omega) (by decide), fun z => absurd z (by decide), fun _ => ?_⟩
        rw [wr_N (by omega)]
        have e : la s (i + 1) = i := if_pos nb
        have := fin2 (fullN r t (g + i)) (.int (nI 1)) (if_pos nb)
        rw [e] at this
        exact this
  exact tX0_fitsTogether_0 (L n 0 _ w (by omega) Off.rf hD (fun j hj => by omega))
def SQ5 (c : Nat) : Prop := c = 27 ∨ c = 28 ∨ c = 30 ∨ c = 31 ∨ c = 32
theorem c_prepare (hC : CT w r) (hP : CP w r) (hW : WFr r) (hV : VP r) (ht : t < r 0) (hn : g + n ≤ r 1) (h5 : n ≤ 5) (e2 : w.1 29 2 = nI g) (e3 : w.1 29 3 = nI n) (h : ∀ w1, Off SQ5 w w1 → (∀ m, m < 2 ^ n → (bitF (w1.1 30 t) m ↔ okB r g n t m.testBit)) → w1.1 31 t = nI 0 → (∀ i, i < n → w1.1 32 (t * 5 + i) = nI (fullV r (g + i) t)) → (∀ u, u ≠ t → w1.1 30 u = w.1 30 u ∧ w1.1 31 u = w.1 31 u ∧ ∀ i, i < 5 → w1.1 32 (u * 5 + i) = w.1 32 (u * 5 + i)) → K none w1) : fX0_prepare [.ref 29, .int (nI t)] w K := by
  have h0 := hW.2.1
  have h1 := hW.2.2.1
  have p32 := pow_n n (by omega)
  -- the sets
  have S : ∀ (w1 : Wd), Off SQ5 w w1 → DO w1 r g n t → bitF (w1.1 30 t) 0 → (∀ m, 1 ≤ m → m < 32 → ¬ bitF (w1.1 30 t) m) → w1.1 31 t = nI 0 → (∀ i, i < n → w1.1 32 (t * 5 + i) = nI (fullV r (g + i) t)) → (∀ u, u ≠ t → w1.1 30 u = w.1 30 u ∧ w1.1 31 u = w.1 31 u ∧ ∀ i, i < 5 → w1.1 32 (u * 5 + i) = w.1 32 (u * 5 + i)) → RR (tl K lX0_prepare) 78 [.ref 29, .int (nI t), .int (nI 1)] [] w1 := by
    intro w1 o1 d1 b0 b1 g1 n1 x1
    have L : ∀ (m s : Nat) (w2 : Wd), s + m = 2 ^ n → 1 ≤ s → Off (fun c => c = 28 ∨ c = 30) w1 w2 → DO w2 r g n t → (∀ u, u ≠ t → w2.1 30 u = w1.1 30 u) → (∀ a, a < s → (bitF (w2.1 30 t) a ↔ okB r g n t a.testBit)) → (∀ a, s ≤ a → a < 32 → ¬ bitF (w2.1 30 t) a) → RR (tl K lX0_prepare) 78 [.ref 29, .int (nI t), .int (nI s)] [] w2 := by
      intro m
      induction m with
      | zero =>
        intro s w2 hs hs1 o2 d2 u2 ba bz
        have e29 : w2.1 29 = w.1 29 := ((o2 29 (by decide)).1).trans (o1 29 (by unfold SQ5; omega)).1
        refine tX0_prepare_78 ⟨fun _ => ?_, fun q => absurd ?_ q⟩
        · refine h w2 (o1.tr (o2.mono (fun c q => by unfold SQ5; omega))) (fun a ha => ba a (by omega)) ?_ (fun i hi => ?_) (fun u hu => ⟨?_, ?_, fun i hi => ?_⟩)
          · rw [(o2 31 (by decide)).1]; exact g1
          · rw [(o2 32 (by decide)).1]; exact n1 i hi
          · rw [u2 u hu]; exact (x1 u hu).1
          · rw [(o2 31 (by decide)).1]; exact (x1 u hu).2.1
          · rw [(o2 32 (by decide)).1]; exact (x1 u hu).2.2 i hi
        · rw [e29, e3, top_n n (by omega), le_N (by omega) (by omega)]; omega
      | succ m ih =>
        intro s w2 hs hs1 o2 d2 u2 ba bz
        have e29 : w2.1 29 = w.1 29 := ((o2 29 (by decide)).1).trans (o1 29 (by unfold SQ5; omega)).1
        have hC2 := (hC.off o1 (fun c a b q => by unfold SQ5 at q; omega)).off o2 (fun c a b q => by omega)
        refine tX0_prepare_78 ⟨fun q => absurd q (by rw [e29, e3, top_n n (by omega), le_N (by omega) (by omega)]; omega), fun _ => ?_⟩
        refine c_fitsTogether hC2 hW hV ht hn h5 (by omega) hs1 (by rw [e29]; exact e2) (by rw [e29]; exact e3) d2 (fun w3 v o3 d3 hv => ?_)
        obtain ⟨l1, l2, l3⟩ := la_n n (by omega) s (by omega) hs1
        obtain ⟨c1, c2⟩ := clr_n s (by omega) (la s n) (by omega) l1
        have key : (bitF (w2.1 30 t) (s ^^^ 2 ^ la s n) ∧ allowT r (TSb r g n t s.testBit) t (g + la s n) (fullN r t (g + la s n))) ↔ okB r g n t s.testBit := by
          rw [ba _ c1]
          exact (okB_last hV ht hn l2 l1 (fun i hi hi2 => l3 i hi2 hi) (fun i hi => c2 i (by omega))).symm
        rw [key] at hv
        have e30 : w3.1 30 = w2.1 30 := (o3 30 (by decide)).1
        have o3' : Off (fun c => c = 28 ∨ c = 30) w1 w3 := o2.tr (o3.mono (fun c q => Or.inl q))
        refine tX0_prepare_94 ⟨fun y => ?_, fun y => ⟨vp_in_nI (by omega) (by decide), ?_⟩⟩
        · rw [nI_add s 1]
          refine ih (s + 1) w3 (by omega) (by omega) o3' d3 (fun u hu => by rw [e30]; exact u2 u hu) (fun a ha => ?_) (fun a ha hb => by rw [e30]; exact bz a (by omega) hb)
          rw [e30]
          by_cases q : a = s
          · rw [q]; exact ⟨fun z => absurd z (bz s (Nat.le_refl _) (by omega)), fun z => absurd z (hv.f y)⟩
          · exact ba a (by omega)
        · rw [nI_add s 1, rd_N (by omega), wr_N (by omega), e30]
          refine ih (s + 1) _ (by omega) (by omega) (o3'.tr (Off.up (Or.inr rfl))) ⟨?_, fun k hk hk2 => ?_⟩ (fun u hu => ?_) (fun a ha => ?_) (fun a ha hb => ?_)
          · rw [upI1, if_neg (fun z => absurd z.1 (by decide))]; exact d3.1
          · rw [upI1, if_neg (fun z => absurd z.1 (by decide))]; exact d3.2 k hk hk2
          · rw [upI1, if_neg (fun z => hu z.2), e30]; exact u2 u hu
          · rw [upI1, if_pos ⟨rfl, rfl⟩, bitF_or (by omega) (by omega)]
            by_cases q : a = s
            · rw [q]; exact ⟨fun _ => hv.t y, fun _ => Or.inr rfl⟩
            · rw [← ba a (by omega)]
              exact ⟨fun z => by rcases z with z | z; exact z; exact absurd z q, Or.inl⟩
          · rw [upI1, if_pos ⟨rfl, rfl⟩, bitF_or hb (by omega)]
            intro z
            rcases z with z | z
            · exact bz a (by omega) hb z
            · omega
    have : 1 ≤ 2 ^ n := Nat.one_le_two_pow
    refine L (2 ^ n - 1) 1 w1 (by omega) (Nat.le_refl _) Off.rf d1 (fun _ _ => rfl) (fun a ha => ?_) b1
    have : a = 0 := by omega
    subst this
    refine ⟨fun _ i hi hs => ?_, fun _ => b0⟩
    rw [Nat.zero_testBit] at hs
    exact absurd hs (by decide)
  -- what each game brings
  have G : ∀ (m i : Nat) (w1 : Wd), i + m = n → Off (fun c => c = 31 ∨ c = 32) w w1 → w1.1 31 t = nI 0 → (∀ u, u ≠ t → w1.1 31 u = w.1 31 u) → (∀ j, j < i → w1.1 32 (t * 5 + j) = nI (fullV r (g + j) t)) → (∀ u, u ≠ t → ∀ i, i < 5 → w1.1 32 (u * 5 + i) = w.1 32 (u * 5 + i)) → RR (tl K lX0_prepare) 9 [.ref 29, .int (nI t), .int (nI i)] [] w1 := by
    intro m
    induction m with
    | zero =>
      intro i w1 hi o1 z1 zu n1 nu
      have : i = n := by omega
      subst this
      have e29 : w1.1 29 = w.1 29 := (o1 29 (by decide)).1
      have hP1 := hP.off o1 (fun c a b q => by omega)
      refine tX0_prepare_9 ⟨fun _ => ⟨vp_in_nI (by omega) (by decide), ?_⟩, fun q => absurd (by rw [e29, e3]; exact Int32.le_refl _) q⟩
      rw [wr_N (by omega)]
      have oo : Off (fun c => c = 30) w1 (upI w1 30 t (nI 1)) := Off.up rfl
      refine c_open (hP1.off oo (fun c a b q => by omega)) (by omega) (fun w2 o2 hI => tX0_prepare_76 ?_)
      have q30 : w2.1 30 = (upI w1 30 t (nI 1)).1 30 := (o2 30 (by unfold S27; omega)).1
      have q31 : w2.1 31 = w1.1 31 := ((o2 31 (by unfold S27; omega)).1).trans (oo 31 (by decide)).1
      have q32 : w2.1 32 = w1.1 32 := ((o2 32 (by unfold S27; omega)).1).trans (oo 32 (by decide)).1
      have q30t : w2.1 30 t = nI 1 := by rw [q30, upI1, if_pos ⟨rfl, rfl⟩]
      refine S w2 (((o1.mono (fun c q => by unfold SQ5; omega)).tr (oo.mono (fun c q => by unfold SQ5; omega))).tr (o2.mono (fun c q => by unfold S27 at q; unfold SQ5; omega))) ⟨hI.1, fun k hk _ => hI.2 k hk⟩ ?_ (fun m hm hm2 => ?_) (by rw [q31]; exact z1) (fun j hj => by rw [q32]; exact n1 j hj) (fun u hu => ⟨?_, by rw [q31]; exact zu u hu, fun j hj => by rw [q32]; exact nu u hu j hj⟩)
      · rw [q30t]; exact (bitF_1 0 (by omega)).mpr rfl
      · rw [q30t]; exact fun z => by have := (bitF_1 m hm2).mp z; omega
      · rw [q30, upI1, if_neg (fun z => hu z.2), (o1 30 (by decide)).1]
    | succ m ih =>
      intro i w1 hi o1 z1 zu n1 nu
      have e29 : w1.1 29 = w.1 29 := (o1 29 (by decide)).1
      have hC1 := hC.off o1 (fun c a b q => by omega)
      have fl := full_le hW (t := t) (g := g + i) (by omega)
      refine tX0_prepare_9 ⟨fun q => absurd q (by rw [e29, e3, le_N (by omega) (by omega)]; omega), fun _ => ?_⟩
      rw [e29, e2, nI_add g i, full_C hC1 hW ht (by omega)]
      refine ⟨by rw [pk_mul, nI_add]; exact vp_in_nI (by omega) (by decide), by rw [pk_mul, nI_add]; exact vp_in_nI (by omega) (by decide), c_valueOf hC1 hW ht (by omega) fl (tX0_prepare_54 ?_)⟩
      rw [pk_mul, nI_add, wr_N (by omega), nI_add i 1]
      refine ⟨vp_in_nI (by omega) (by decide), ih (i + 1) _ (by omega) (o1.tr (Off.up (Or.inr rfl))) ?_ (fun u hu => ?_) (fun j hj => ?_) (fun u hu j hj => ?_)⟩
      · rw [upI1, if_neg (fun z => absurd z.1 (by decide))]; exact z1
      · rw [upI1, if_neg (fun z => absurd z.1 (by decide))]; exact zu u hu
      · rw [upI1]
        by_cases q : j = i
        · rw [if_pos ⟨rfl, by omega⟩, q]; rfl
        · rw [if_neg (fun z => q (by have := z.2; omega))]; exact n1 j (by omega)
      · rw [upI1, if_neg (fun z => hu (by have := z.2; omega))]; exact nu u hu j hj
  refine tX0_prepare_0 ⟨vp_in_nI (by omega) (by decide), ?_⟩
  rw [wr_N (by omega)]
  refine G n 0 _ (by omega) (Off.up (Or.inl rfl)) ?_ (fun u hu => ?_) (fun j hj => by omega) (fun u hu j hj => ?_)
  · rw [upI1, if_pos ⟨rfl, rfl⟩]
  · rw [upI1, if_neg (fun z => hu z.2)]
  · rw [upI1, if_neg (fun z => absurd z.1 (by decide))]
end PREP
