/-! bytes of the tape, and feed() -/
def sg (v : Nat) : Int32 := if v < 128 then nI v else nI v - nI 256
def z8 (x : Int32) (s : Nat) : BitVec 8 := x.toBitVec.extractLsb' s 8
def bt (x : Int32) (s : Nat) : Nat := (z8 x s).toNat
theorem bt_lt (x : Int32) (s : Nat) : bt x s < 256 := (z8 x s).isLt
theorem sg_bv : ∀ n, n < 256 → (BitVec.ofNat 8 n).signExtend 32 = (sg n).toBitVec := by decide +kernel
theorem un_bv : ∀ n, n < 256 → (BitVec.ofNat 8 n).setWidth 32 = (nI n).toBitVec := by decide +kernel
theorem z8_of (x : Int32) (s : Nat) : BitVec.ofNat 8 (bt x s) = z8 x s := by
  unfold bt
  rw [BitVec.ofNat_toNat, BitVec.setWidth_eq]
theorem sh4 : ∀ k, k < 4 → ((Int32.toUInt32 (nI (8 * k)) &&& Int32.toUInt32 31).toBitVec % (32 : BitVec 32)).toNat = 8 * k := by decide
theorem byteC (x : Int32) {k : Nat} (hk : k < 4) : Int8.toInt32 (Int32.toInt8 ((Int32.toUInt32 x >>> (Int32.toUInt32 (nI (8 * k)) &&& Int32.toUInt32 31)).toInt32)) = sg (bt x (8 * k)) := by
  refine Int32.toBitVec.inj ?_
  rw [← sg_bv _ (bt_lt _ _), z8_of]
  have h1 : (Int8.toInt32 (Int32.toInt8 ((Int32.toUInt32 x >>> (Int32.toUInt32 (nI (8 * k)) &&& Int32.toUInt32 31)).toInt32))).toBitVec = ((x.toBitVec >>> ((Int32.toUInt32 (nI (8 * k)) &&& Int32.toUInt32 31).toBitVec % (32 : BitVec 32))).signExtend 8).signExtend 32 := rfl
  rw [h1, BitVec.ushiftRight_eq', sh4 k hk]
  refine congrArg (fun z => BitVec.signExtend 32 z) (BitVec.eq_of_getLsbD_eq (fun i hi => ?_))
  unfold z8
  rw [BitVec.getLsbD_signExtend, BitVec.getLsbD_extractLsb', BitVec.getLsbD_ushiftRight, decide_eq_true hi, if_pos (by omega)]
theorem sr4 : ∀ k, k < 4 → (((nI (8 * k)) &&& 31).toBitVec.smod (32 : BitVec 32)).toNat = 8 * k := by decide
theorem m255 : ∀ i, i < 32 → (255#32).getLsbD i = decide (i < 8) := by decide
theorem byteG (x : Int32) {k : Nat} (hk : k < 4) : (x >>> ((nI (8 * k)) &&& 31)) &&& nI 255 = nI (bt x (8 * k)) := by
  refine Int32.toBitVec.inj ?_
  rw [← un_bv _ (bt_lt _ _), z8_of]
  have h1 : ((x >>> ((nI (8 * k)) &&& 31)) &&& nI 255).toBitVec = (x.toBitVec.sshiftRight' (((nI (8 * k)) &&& 31).toBitVec.smod (32 : BitVec 32))) &&& 255#32 := rfl
  rw [h1, BitVec.sshiftRight_eq', sr4 k hk]
  refine BitVec.eq_of_getLsbD_eq (fun i hi => ?_)
  unfold z8
  rw [BitVec.getLsbD_and, m255 i hi, BitVec.getLsbD_setWidth, BitVec.getLsbD_extractLsb', BitVec.getLsbD_sshiftRight, decide_eq_true hi]
  by_cases q : i < 8
  · rw [decide_eq_true q, if_pos (by omega), decide_eq_false (show ¬ 32 ≤ i by omega)]
    show (!false && x.toBitVec.getLsbD (8 * k + i) && true) = (true && (true && x.toBitVec.getLsbD (8 * k + i)))
    simp only [Bool.not_false, Bool.true_and, Bool.and_true]
  · rw [decide_eq_false q, Bool.and_false, Bool.false_and, Bool.and_false]
/-- both tapes hold the same bytes -/
def TPc (w : Wd) (T : Nat → Nat) (L : Nat) : Prop := w.1 1 1 = nI L ∧ ∀ j, j < 800 → w.1 2 j = sg (T j)
def TPg (w : Wd) (T : Nat → Nat) (L : Nat) : Prop := w.1 41 5 = nI L ∧ ∀ j, j < 800 → w.1 42 j = nI (T j)
def TPb (T : Nat → Nat) (L : Nat) : Prop := (∀ j, T j < 256) ∧ L ≤ 800
/-- four bytes more -/
def fdT (T : Nat → Nat) (L : Nat) (x : Int32) : Nat → Nat := fun j => if L ≤ j ∧ j < L + 4 then bt x (24 - 8 * (j - L)) else T j
section FEED
variable {w : Wd} {K : Kt} {T : Nat → Nat} {L : Nat} {x : Int32}
theorem c_append (hL : L + 4 ≤ 800) (hT : TPc w T L) (h : ∀ w1, Off (fun c => c = 1 ∨ c = 2) w w1 → (∀ j, j ≠ 1 → w1.1 1 j = w.1 1 j) → w1.2 = w.2 → TPc w1 (fdT T L x) (L + 4) → K none w1) : fX8_append [.ref 1, .int x] w K := by
  have M : ∀ (m k : Nat) (w1 : Wd), k + m = 4 → Off (fun c => c = 1 ∨ c = 2) w w1 → (∀ j, j ≠ 1 → w1.1 1 j = w.1 1 j) → w1.2 = w.2 → w1.1 1 1 = nI (L + k) → (∀ j, j < 800 → w1.1 2 j = if L ≤ j ∧ j < L + k then sg (bt x (24 - 8 * (j - L))) else sg (T j)) → RR (tl K lX8_append) 3 [.ref 1, .int x, .int (nI 32 - nI (8 * k) - nI 8)] [] w1 := by
    intro m
    induction m with
    | zero =>
      intro k w1 hk ho h1 h2 hl hb
      have : k = 4 := by omega
      subst this
      refine tX8_append_3 ⟨fun _ => h w1 ho h1 h2 ⟨hl, fun j hj => ?_⟩, fun q => absurd (by decide) q⟩
      rw [hb j hj]
      unfold fdT
      by_cases c : L ≤ j ∧ j < L + 4
      · rw [if_pos c, if_pos c]
      · rw [if_neg c, if_neg c]
    | succ m ih =>
      intro k w1 hk ho h1 h2 hl hb
      have e : nI 32 - nI (8 * k) - nI 8 = nI (8 * (3 - k)) := by
        rw [sub_N (by omega), sub_N (by omega)]
        exact congrArg nI (by omega)
      rw [e]
      refine tX8_append_3 ⟨fun q => ((lt0_N (by omega)).mp q).elim, fun _ => ⟨fun q => absurd q (by rw [hl, le_N (by omega) (by omega)]; omega), fun _ => ?_⟩⟩
      rw [hl, byteC x (show 3 - k < 4 by omega), vp_nar_byte, wr_N (by omega)]
      have eb : (sg (bt x (8 * (3 - k)))).toInt8.toInt32 = sg (bt x (8 * (3 - k))) := by
        have := pk_vb ((Int32.toUInt32 x >>> (Int32.toUInt32 (nI (8 * (3 - k))) &&& Int32.toUInt32 31)).toInt32)
        rw [vp_nar_byte] at this
        rw [← byteC x (show 3 - k < 4 by omega)]
        exact this
      rw [eb]
      have el : (upI w1 2 (L + k) (sg (bt x (8 * (3 - k))))).1 1 1 + nI 1 = nI (L + (k + 1)) := by
        rw [upI1, if_neg (fun z => absurd z.1 (by decide)), hl, nI_add]; rfl
      have en : nI (8 * (3 - k)) + (-8) = nI 32 - nI (8 * (k + 1)) - nI 8 := by
        have k4 : k = 0 ∨ k = 1 ∨ k = 2 ∨ k = 3 := by omega
        rcases k4 with rfl | rfl | rfl | rfl <;> decide
      rw [el, en]
      have oo : Off (fun c => c = 1 ∨ c = 2) w1 (upI w1 2 (L + k) (sg (bt x (8 * (3 - k))))) := Off.up (Or.inr rfl)
      refine ⟨vp_in_nI (by omega) (by decide), ih (k + 1) _ (by omega) ((ho.tr oo).tr (Off.up (Or.inl rfl))) (fun j hj => ?_) h2 (by rw [upI1, if_pos ⟨rfl, rfl⟩]) (fun j hj => ?_)⟩
      · rw [upI1, if_neg (fun z => hj z.2), upI1, if_neg (fun z => absurd z.1 (by decide))]; exact h1 j hj
      · rw [upI1, if_neg (fun z => absurd z.1 (by decide)), upI1]
        by_cases c : j = L + k
        · rw [if_pos ⟨rfl, c⟩, if_pos (by omega), c, show 24 - 8 * (L + k - L) = 8 * (3 - k) by omega]
        · rw [if_neg (fun z => c z.2), hb j hj]
          by_cases c2 : L ≤ j ∧ j < L + k
          · rw [if_pos c2, if_pos (by omega)]
          · rw [if_neg c2, if_neg (by omega)]
  refine tX8_append_0 ?_
  have := M 4 0 w rfl Off.rf (fun _ _ => rfl) rfl (by rw [Nat.add_zero]; exact hT.1) (fun j hj => by rw [if_neg (by omega)]; exact hT.2 j hj)
  have e : nI 32 - nI (8 * 0) - nI 8 = nI 24 := by decide
  rw [e] at this
  exact this
theorem g_laysWord (hL : L + 4 ≤ 800) (hT : TPg w T L) (h : ∀ w1, Off (fun c => c = 41 ∨ c = 42) w w1 → (∀ j, j ≠ 5 → w1.1 41 j = w.1 41 j) → TPg w1 (fdT T L x) (L + 4) → K none w1) : fX11_laysWord [.ref 41, .int x] w K := by
  have M : ∀ (m k : Nat) (w1 : Wd), k + m = 4 → Off (fun c => c = 42) w w1 → (∀ j, j < 800 → w1.1 42 j = if L ≤ j ∧ j < L + k then nI (bt x (24 - 8 * (j - L))) else nI (T j)) → RR (tl K lX11_laysWord) 2 [.ref 41, .int x, .int (nI k)] [] w1 := by
    intro m
    induction m with
    | zero =>
      intro k w1 hk ho hb
      have : k = 4 := by omega
      subst this
      have e41 : w1.1 41 = w.1 41 := (ho 41 (by decide)).1
      refine tX11_laysWord_2 ⟨fun _ => ?_, fun q => absurd (Int32.le_refl _) q⟩
      rw [e41, hT.1, nI_add]
      refine h _ ((ho.mono (fun c q => Or.inr q)).tr (Off.up (Or.inl rfl))) (fun j hj => ?_) ⟨by rw [upI1, if_pos ⟨rfl, rfl⟩], fun j hj => ?_⟩
      · rw [upI1, if_neg (fun z => hj z.2), e41]
      · rw [upI1, if_neg (fun z => absurd z.1 (by decide)), hb j hj]
        unfold fdT
        by_cases c : L ≤ j ∧ j < L + 4
        · rw [if_pos c, if_pos c]
        · rw [if_neg c, if_neg c]
    | succ m ih =>
      intro k w1 hk ho hb
      have e41 : w1.1 41 = w.1 41 := (ho 41 (by decide)).1
      have e : nI 24 - nI 8 * nI k = nI (8 * (3 - k)) := by
        rw [pk_mul, sub_N (by omega)]
        exact congrArg nI (by omega)
      refine tX11_laysWord_2 ⟨fun q => absurd q (by rw [le_N (by omega) (by omega)]; omega), fun _ => ?_⟩
      rw [e41, hT.1, nI_add L k, e, byteG x (show 3 - k < 4 by omega), wr_N (by omega), nI_add k 1]
      refine ⟨vp_in_nI (by omega) (by decide), ih (k + 1) _ (by omega) (ho.tr (Off.up rfl)) (fun j hj => ?_)⟩
      rw [upI1]
      by_cases c : j = L + k
      · rw [if_pos ⟨rfl, c⟩, if_pos (by omega), c, show 24 - 8 * (L + k - L) = 8 * (3 - k) by omega]
      · rw [if_neg (fun z => c z.2), hb j hj]
        by_cases c2 : L ≤ j ∧ j < L + k
        · rw [if_pos c2, if_pos (by omega)]
        · rw [if_neg c2, if_neg (by omega)]
  exact tX11_laysWord_0 (M 4 0 w rfl Off.rf (fun j hj => by rw [if_neg (by omega)]; exact hT.2 j hj))
theorem fdT_lt (hT : ∀ j, T j < 256) (j : Nat) : fdT T L x j < 256 := by
  unfold fdT
  split
  · exact bt_lt _ _
  · exact hT j
/-- feed on both sides -/
theorem p_feed {x1 x2 x3 x4 x5 : Int32} (hc : TPc w T L) (hg : TPg w T L) (hb : TPb T L) {Q : Option Value → Option Value → Wd → Prop} (h : ∀ (v : Int32) (T1 : Nat → Nat) (L1 : Nat) (w1 w2 : Wd), Off (fun c => c = 1 ∨ c = 2) w w1 → Off (fun c => c = 41 ∨ c = 42) w1 w2 → (∀ j, j ≠ 0 → j ≠ 5 → w2.1 41 j = w1.1 41 j) → TPc w2 T1 L1 → TPg w2 T1 L1 → TPb T1 L1 → Q (some (.int v)) (some (.int v)) w2) : fX10_feed [.ref 0, .int x1, .int x2, .int x3, .int x4, .int x5] w (fun v w1 => fX11_feed [.ref 41, .int x1, .int x2, .int x3, .int x4, .int x5] w1 (fun u w2 => Q v u w2)) := by
  have hL := hb.2
  refine tX10_feed_0 ?_
  rw [hc.1, nI_add, le_N (by omega) (by omega)]
  have g0 : ∀ w1, Off (fun c => c = 1 ∨ c = 2) w w1 → TPg (upI w1 41 0 (nI 0)) T L := fun w1 o => ⟨by rw [upI1, if_neg (by decide), (o 41 (by decide)).1]; exact hg.1, fun j hj => by rw [upI1, if_neg (fun z => absurd z.1 (by decide)), (o 42 (by decide)).1]; exact hg.2 j hj⟩
  refine ⟨fun q => ?_, fun q => ?_⟩
  · refine c_append (by omega) hc (fun a1 o1 _ _ t1 => tX10_feed_26 (c_append (by omega) t1 (fun a2 o2 _ _ t2 => tX10_feed_34 (c_append (by omega) t2 (fun a3 o3 _ _ t3 => tX10_feed_42 (c_append (by omega) t3 (fun a4 o4 _ _ t4 => tX10_feed_51 (c_append (by omega) t4 (fun a5 o5 _ _ t5 => tX10_feed_60 ?_)))))))))
    rw [t5.1]
    have oc := (((o1.tr o2).tr o3).tr o4).tr o5
    have G := g0 a5 oc
    refine tX11_feed_0 ⟨fun _ => ?_, fun z => absurd (by rw [G.1, le_N (by omega) (by omega)]; omega) z⟩
    refine g_laysWord (by omega) G (fun b1 p1 k1 s1 => tX11_feed_22 (g_laysWord (by omega) s1 (fun b2 p2 k2 s2 => tX11_feed_27 (g_laysWord (by omega) s2 (fun b3 p3 k3 s3 => tX11_feed_32 (g_laysWord (by omega) s3 (fun b4 p4 k4 s4 => tX11_feed_38 (g_laysWord (by omega) s4 (fun b5 p5 k5 s5 => tX11_feed_44 ?_)))))))))
    rw [s5.1]
    have p0 : Off (fun c => c = 41 ∨ c = 42) a5 (upI a5 41 0 (nI 0)) := Off.up (Or.inl rfl)
    have og := ((((p0.tr p1).tr p2).tr p3).tr p4).tr p5
    refine h _ _ _ a5 b5 oc og (fun j j0 j5 => ?_) ⟨?_, fun j hj => ?_⟩ s5 ⟨fdT_lt (fdT_lt (fdT_lt (fdT_lt (fdT_lt hb.1)))), by omega⟩
    · rw [k5 j j5, k4 j j5, k3 j j5, k2 j j5, k1 j j5, upI1, if_neg (fun z => j0 z.2)]
    · rw [(og 1 (by decide)).1]; exact t5.1
    · rw [(og 2 (by decide)).1]; exact t5.2 j hj
  · have G := g0 w Off.rf
    refine tX11_feed_0 ⟨fun z => absurd z (by rw [G.1, le_N (by omega) (by omega)]; omega), fun _ => ?_⟩
    refine h _ T L w _ Off.rf (Off.up (Or.inl rfl)) (fun j j0 _ => by rw [upI1, if_neg (fun z => j0 z.2)]) ⟨?_, fun j hj => ?_⟩ G hb
    · rw [upI1, if_neg (fun z => absurd z.1 (by decide))]; exact hc.1
    · rw [upI1, if_neg (fun z => absurd z.1 (by decide))]; exact hc.2 j hj
end FEED
