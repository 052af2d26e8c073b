/-! questions: both sides answer alike (4): clash, ranked -/
def bitB (a b c d : Bool) : Int32 := nI ((if a then 1 else 0) + (if b then 2 else 0) + (if c then 4 else 0) + (if d then 8 else 0))
theorem bit_2 : ∀ a b c d, bitB a b c d ||| nI 2 = bitB a true c d := by decide
theorem bit_4 : ∀ a b c d, bitB a b c d ||| nI 4 = bitB a b true d := by decide
theorem bit_8 : ∀ a b c d, bitB a b c d ||| nI 8 = bitB a b c true := by decide
theorem bit_0 : ∀ a b c d, bitB a b c d ||| nI 0 = bitB a b c d := by decide
theorem clash_bit (p1 p2 p4 p8 : Prop) : clashB p1 p2 p4 p8 = bitB (dec p1) (dec p2) (dec p4) (dec p8) := by
  unfold clashB orB
  cases dec p1 <;> cases dec p2 <;> cases dec p4 <;> cases dec p8 <;> rfl
theorem dec_congr {p q : Prop} (h : p ↔ q) : dec p = dec q := by rw [propext h]
section RESTS
variable {r T D : Nat → Nat} {g : Nat}
theorem rested_day (hW : WFr r) (hd : DayUp r) (hg : g < r 1) (hT : TD r T g D) : rested r T g ↔ ∀ e, e < 60 → e < r (46 + g) → 0 < D e → restN r (D e) < r (46 + g) - e := by
  have hr := hW.2.2.1
  have hG : ∀ h, h < r 1 → r (46 + h) ≤ 59 := fun h hh => (hW.2.2.2.2.2.2.2.1 h (by omega)).1
  constructor
  · intro q e he hlt hp
    by_cases ex : ∃ h, h < r 1 ∧ r (46 + h) = e
    · obtain ⟨h, hh, rfl⟩ := ex
      have hlt2 : h < g := by
        rcases Nat.lt_trichotomy h g with p | p | p
        · exact p
        · rw [p] at hlt; omega
        · have := hd g h p hh; omega
      rw [hT.1 h hh (by omega)] at hp ⊢
      exact q h hlt2 hp
    · rw [hT.2 e he (fun h hh z => ex ⟨h, hh, z⟩)] at hp
      omega
  · intro q h hh hp
    have b := hG h (by omega)
    have := hd h g hh hg
    have q2 := q (r (46 + h)) (by omega) this
    rw [hT.1 h (by omega) (by omega)] at q2
    exact q2 hp
theorem next_day (hW : WFr r) (hd : DayUp r) (hg : g < r 1) (hT : TD r T g D) {x : Nat} : nextOk r T g x ↔ ∀ e, e < 60 → r (46 + g) < e → 0 < D e → restN r x < e - r (46 + g) := by
  have hr := hW.2.2.1
  have hG : ∀ h, h < r 1 → r (46 + h) ≤ 59 := fun h hh => (hW.2.2.2.2.2.2.2.1 h (by omega)).1
  constructor
  · intro q e he hlt hp
    by_cases ex : ∃ h, h < r 1 ∧ r (46 + h) = e
    · obtain ⟨h, hh, rfl⟩ := ex
      have hlt2 : g < h := by
        rcases Nat.lt_trichotomy h g with p | p | p
        · have := hd h g p hg; omega
        · rw [p] at hlt; omega
        · exact p
      rw [hT.1 h hh (by omega)] at hp
      exact q h hlt2 hh hp
    · rw [hT.2 e he (fun h hh z => ex ⟨h, hh, z⟩)] at hp
      omega
  · intro q h hh hh2 hp
    have b := hG h (by omega)
    have := hd g h hh hh2
    have q2 := q (r (46 + h)) (by omega) this
    rw [hT.1 h (by omega) (by omega)] at q2
    exact q2 hp
end RESTS
section Q4
variable {w : Wd} {r : Nat → Nat}
theorem g_clash (hM : RM w r) (hW : WFr r) (hV : VP r) {K : Kt} {t g x : Nat} (ht : t < r 0) (hg : g < r 1) (hx : x ≤ 120) (h : ∀ w1, Off (· = 47) w w1 → K (some (.int (clashB (¬ x ≤ r (22 + t)) (¬ rested r (load r t) g) (¬ nextOk r (load r t) g x) (¬ (r 3 = 0 ∨ wkOk r (load r t) g x))))) w1) : fX11_laysDays [.ref 41, .int (nI t), .int (nI g), .int (nI 1)] w (fun v w1 => RR (tl K lX11_clash) 47 [.ref 41, .int (nI t), .int (nI g), .int (nI x), .null, .null, .null] (psh v []) w1) := by
  have h0 := hW.2.1
  have h1 := hW.2.2.1
  have h3 := hW.1 3
  have hT := hW.2.2.2.2.2.2.1 t (by omega)
  have hG := hW.2.2.2.2.2.2.2.1 g (by omega)
  have rb : ∀ y, restN r y ≤ 9 := fun y => restL_le (fun i hi => (hW.2.2.2.2.2.2.2.2.2 i hi).2) y (r 2) hW.2.2.2.1
  have td := TD_day hV.1 t g
  refine g_laysDays hM hW (by omega) (by omega) (by omega) (fun w1 ho hD => ?_)
  have hM1 := hM.off ho (by decide)
  have hb : ∀ e, dayN r t g 1 e ≤ 500 := fun e => Nat.le_trans (dayN_le hW hV.1 t g 1 e) (by omega)
  obtain ⟨D, hDe⟩ : ∃ D, D = dayN r t g 1 := ⟨_, rfl⟩
  rw [← hDe] at hD hb td
  obtain ⟨d, hd⟩ : ∃ d, d = r (46 + g) := ⟨_, rfl⟩
  have bad2 : (¬ rested r (load r t) g) ↔ ∃ e, e < 60 ∧ e < d ∧ 0 < D e ∧ ¬ restN r (D e) < d - e := by
    rw [rested_day hW hV.1 hg td, ← hd]
    constructor
    · intro q
      refine Classical.byContradiction (fun n => q (fun e a b c => Classical.byContradiction (fun m => n ⟨e, a, b, c, m⟩)))
    · rintro ⟨e, a, b, c, m⟩ q
      exact m (q e a b c)
  have bad4 : (¬ nextOk r (load r t) g x) ↔ ∃ e, e < 60 ∧ d < e ∧ 0 < D e ∧ ¬ restN r x < e - d := by
    rw [next_day hW hV.1 hg td, ← hd]
    constructor
    · intro q
      refine Classical.byContradiction (fun n => q (fun e a b c => Classical.byContradiction (fun m => n ⟨e, a, b, c, m⟩)))
    · rintro ⟨e, a, b, c, m⟩ q
      exact m (q e a b c)
  have bad8 : (¬ (r 3 = 0 ∨ wkOk r (load r t) g x)) ↔ (0 < r 3 ∧ ∃ i, i < 7 ∧ ¬ lateN (updN D d x) (d + i) ≤ r 3) := by
    rw [← wk_iff hW hV.1 hg td, ← hd]
    constructor
    · intro q
      refine ⟨Nat.pos_of_ne_zero (fun z => q (Or.inl z)), Classical.byContradiction (fun n => q (Or.inr (fun i a => Classical.byContradiction (fun m => n ⟨i, a, m⟩))))⟩
    · rintro ⟨p, i, a, m⟩ (q | q)
      · omega
      · exact m (q i a)
  rw [clash_bit, dec_congr bad2, dec_congr bad4, dec_congr bad8] at h
  -- the weeks
  have W : ∀ (w2 : Wd) (b1 b2 b4 : Bool), Off (· = 47) w w2 → DM w2 (updN D d x) → (∀ w3, Off (· = 47) w w3 → K (some (.int (bitB b1 b2 b4 (dec (0 < r 3 ∧ ∃ i, i < 7 ∧ ¬ lateN (updN D d x) (d + i) ≤ r 3))))) w3) → RR (tl K lX11_clash) 192 [.ref 41, .int (nI t), .int (nI g), .int (nI x), .int (nI d), .int (bitB b1 b2 b4 false), .int (nI d)] [] w2 := by
    intro w2 b1 b2 b4 ho2 hD2 hk
    have hM2 := hM.off ho2 (by decide)
    have lb : ∀ i, i < 7 → lateN (updN D d x) (d + i) ≤ 3500 := by
      intro i hi
      have := sumN_le (f := fun j => if 6 ≤ d + i + j ∧ d + i + j < 66 then updN D d x (d + i + j - 6) else 0) (b := 500) 7 (fun k hk => by
        show (if _ then updN D d x (d + i + k - 6) else 0) ≤ 500
        split
        · unfold updN
          split
          · omega
          · exact hb _
        · omega)
      exact this
    have L : ∀ (n i : Nat) (b8 : Bool), i + n = 7 → (0 < r 3 → b8 = dec (∃ j, j < i ∧ ¬ lateN (updN D d x) (d + j) ≤ r 3)) → (¬ 0 < r 3 → b8 = false) → RR (tl K lX11_clash) 192 [.ref 41, .int (nI t), .int (nI g), .int (nI x), .int (nI d), .int (bitB b1 b2 b4 b8), .int (nI (d + i))] [] w2 := by
      intro n
      induction n with
      | zero =>
        intro i b8 hi hb8 hb80
        refine tX11_clash_192 ⟨fun _ => ?_, fun z => absurd ?_ z⟩
        · have := hk w2 ho2
          by_cases q : 0 < r 3
          · rw [dec_congr (show (0 < r 3 ∧ ∃ i, i < 7 ∧ ¬ lateN (updN D d x) (d + i) ≤ r 3) ↔ (∃ j, j < i ∧ ¬ lateN (updN D d x) (d + j) ≤ r 3) from ⟨fun p => by rw [show i = 7 by omega]; exact p.2, fun p => ⟨q, by rw [show i = 7 by omega] at p; exact p⟩⟩), ← hb8 q] at this
            exact this
          · rw [dec_f (fun p => q p.1), ← hb80 q] at this
            exact this
        · rw [nI_add, le_N (by omega) (by omega)]; omega
      | succ n ih =>
        intro i b8 hi hb8 hb80
        refine tX11_clash_192 ⟨fun z => absurd z ?_, fun _ => ⟨fun z => ?_, fun z => ?_⟩⟩
        · rw [nI_add, le_N (by omega) (by omega)]; omega
        · rw [rdM hM2 (by omega), le0_N (by omega)] at z
          have := hk w2 ho2
          rw [dec_f (fun p => by omega), ← hb80 (by omega)] at this
          exact this
        · rw [rdM hM2 (by omega), le0_N (by omega)] at z
          refine g_lately hD2 (by omega) ?_
          have := lb i (by omega)
          refine tX11_clash_219 ⟨fun q => ?_, fun q => ?_⟩
          · rw [rdM hM2 (by omega), le_N (by omega) (by omega)] at q
            rw [bit_0, nI_add (d + i) 1]
            refine ih (i + 1) b8 (by omega) (fun p => ?_) hb80
            rw [hb8 p]
            refine dec_congr ⟨fun ⟨j, a, b⟩ => ⟨j, by omega, b⟩, fun ⟨j, a, b⟩ => ⟨j, ?_, b⟩⟩
            rcases Nat.lt_or_ge j i with c | c
            · exact c
            · rw [show j = i by omega] at b; exact absurd q b
          · rw [rdM hM2 (by omega), le_N (by omega) (by omega)] at q
            rw [bit_8, nI_add (d + i) 1]
            exact ih (i + 1) true (by omega) (fun p => (dec_t ⟨i, by omega, q⟩).symm) (fun p => by omega)
    have := L 7 0 false (by omega) (fun _ => (dec_f (fun ⟨j, a, b⟩ => by omega)).symm) (fun _ => rfl)
    exact this
  -- the days
  have E : ∀ (n e : Nat) (b1 b2 b4 : Bool), e + n = 60 → b1 = dec (¬ x ≤ r (22 + t)) → b2 = dec (∃ k, k < e ∧ k < d ∧ 0 < D k ∧ ¬ restN r (D k) < d - k) → b4 = dec (∃ k, k < e ∧ d < k ∧ 0 < D k ∧ ¬ restN r x < k - d) → RR (tl K lX11_clash) 81 [.ref 41, .int (nI t), .int (nI g), .int (nI x), .int (nI d), .int (bitB b1 b2 b4 false), .int (nI e)] [] w1 := by
    intro n
    induction n with
    | zero =>
      intro e b1 b2 b4 he q1 q2 q4
      refine tX11_clash_81 ⟨fun _ => ⟨vp_in_nI (by omega) (by decide), ?_⟩, fun z => absurd ?_ z⟩
      · rw [wr_N (by omega)]
        refine W _ b1 b2 b4 (ho.tr (Off.up rfl)) (DM_up hD d x) (fun w3 ho3 => ?_)
        rw [q1, q2, q4, show e = 60 by omega]
        exact h w3 ho3
      · rw [le_N (by omega) (by omega)]; omega
    | succ n ih =>
      intro e b1 b2 b4 he q1 q2 q4
      have re : rd w1 47 (nI e) = nI (D e) := rdD hD (by omega)
      have bD := hb e
      have nx : ∀ (c2 c4 : Bool), c2 = dec (∃ k, k < e + 1 ∧ k < d ∧ 0 < D k ∧ ¬ restN r (D k) < d - k) → c4 = dec (∃ k, k < e + 1 ∧ d < k ∧ 0 < D k ∧ ¬ restN r x < k - d) → RR (tl K lX11_clash) 81 [.ref 41, .int (nI t), .int (nI g), .int (nI x), .int (nI d), .int (bitB b1 c2 c4 false), .int (nI e + nI 1)] [] w1 := by
        intro c2 c4 p2 p4
        rw [nI_add e 1]
        exact ih (e + 1) b1 c2 c4 (by omega) q1 p2 p4
      -- the later half of a step
      have S4 : ∀ (c2 : Bool) (y0 y1 : Int32), y1 ||| y0 = bitB b1 c2 b4 false → c2 = dec (∃ k, k < e + 1 ∧ k < d ∧ 0 < D k ∧ ¬ restN r (D k) < d - k) → RR (tl K lX11_clash) 131 [.ref 41, .int (nI t), .int (nI g), .int (nI x), .int (nI d), .int (bitB b1 b2 b4 false), .int (nI e)] [.int y0, .int y1] w1 := by
        intro c2 y0 y1 hy p2
        have same : ¬ (d < e ∧ 0 < D e ∧ ¬ restN r x < e - d) → b4 = dec (∃ k, k < e + 1 ∧ d < k ∧ 0 < D k ∧ ¬ restN r x < k - d) := by
          intro ne
          rw [q4]
          refine dec_congr ⟨fun ⟨j, a, b⟩ => ⟨j, by omega, b⟩, fun ⟨j, a, b⟩ => ⟨j, ?_, b⟩⟩
          rcases Nat.lt_or_ge j e with c | c
          · exact c
          · rw [show j = e by omega] at b; exact absurd b ne
        refine tX11_clash_131 ⟨fun z => ?_, fun z => ⟨vp_in_nI (by omega) (by decide), fun z2 => ?_, fun z2 => ?_⟩⟩
        · rw [le_N (by omega) (by omega)] at z
          rw [hy, bit_0]
          exact nx c2 b4 p2 (same (fun p => by omega))
        · rw [le_N (by omega) (by omega)] at z
          rw [re, le0_N (by omega)] at z2
          rw [hy, bit_0]
          exact nx c2 b4 p2 (same (fun p => by omega))
        · rw [le_N (by omega) (by omega)] at z
          rw [re, le0_N (by omega)] at z2
          rw [hy]
          refine g_restOf hM1 hW (by omega) ?_
          have := rb x
          rw [sub_N (by omega)]
          refine tX11_clash_163 ⟨fun q => ?_, fun q => ?_⟩
          · rw [lt_N (by omega) (by omega)] at q
            rw [bit_0]
            exact nx c2 b4 p2 (same (fun p => p.2.2 q))
          · rw [lt_N (by omega) (by omega)] at q
            rw [bit_4]
            exact nx c2 true p2 (dec_t ⟨e, by omega, by omega, by omega, q⟩).symm
      have same2 : ¬ (e < d ∧ 0 < D e ∧ ¬ restN r (D e) < d - e) → b2 = dec (∃ k, k < e + 1 ∧ k < d ∧ 0 < D k ∧ ¬ restN r (D k) < d - k) := by
        intro ne
        rw [q2]
        refine dec_congr ⟨fun ⟨j, a, b⟩ => ⟨j, by omega, b⟩, fun ⟨j, a, b⟩ => ⟨j, ?_, b⟩⟩
        rcases Nat.lt_or_ge j e with c | c
        · exact c
        · rw [show j = e by omega] at b; exact absurd b ne
      refine tX11_clash_81 ⟨fun z => absurd z ?_, fun _ => ⟨fun z => ?_, fun z => ⟨vp_in_nI (by omega) (by decide), fun z2 => ?_, fun z2 => ?_⟩⟩⟩
      · rw [le_N (by omega) (by omega)]; omega
      · rw [le_N (by omega) (by omega)] at z
        exact tX11_clash_130 (S4 b2 _ _ (bit_0 _ _ _ _) (same2 (fun p => by omega)))
      · rw [re, le0_N (by omega)] at z2
        exact tX11_clash_130 (S4 b2 _ _ (bit_0 _ _ _ _) (same2 (fun p => by omega)))
      · rw [le_N (by omega) (by omega)] at z
        rw [re, le0_N (by omega)] at z2
        rw [re]
        refine g_restOf hM1 hW bD ?_
        have := rb (D e)
        rw [sub_N (by omega)]
        refine tX11_clash_123 ⟨fun q => ?_, fun q => ?_⟩
        · rw [lt_N (by omega) (by omega)] at q
          exact tX11_clash_130 (S4 b2 _ _ (bit_0 _ _ _ _) (same2 (fun p => p.2.2 q)))
        · rw [lt_N (by omega) (by omega)] at q
          exact S4 true _ _ (bit_2 _ _ _ _) (dec_t ⟨e, by omega, by omega, by omega, q⟩).symm
  have ex0 : ∀ (P : Nat → Prop), dec (∃ k, k < 0 ∧ P k) = false := fun P => dec_f (fun ⟨k, a, _⟩ => by omega)
  refine tX11_clash_47 ⟨by rw [nI_add]; exact vp_in_nI (by omega) (by decide), by rw [nI_add]; exact vp_in_nI (by omega) (by decide), fun z => ?_, fun z => ?_⟩
  · rw [nI_add, rdM hM1 (by omega), le_N (by omega) (by omega)] at z
    rw [nI_add, rdM hM1 (by omega), ← hd]
    exact E 60 0 false false false (by omega) (dec_f (fun q => q z)).symm (ex0 _).symm (ex0 _).symm
  · rw [nI_add, rdM hM1 (by omega), le_N (by omega) (by omega)] at z
    rw [nI_add, rdM hM1 (by omega), ← hd]
    exact E 60 0 true false false (by omega) (dec_t z).symm (ex0 _).symm (ex0 _).symm
theorem p_clash (hR : RA w r) {x1 x2 x3 : Int32} : QP w fX10_clash fX11_clash [.ref 0, .int x1, .int x2, .int x3] [.ref 41, .int x1, .int x2, .int x3] := by
  obtain ⟨hM, hC, hP, hW, hV, h6, h7, h8⟩ := hR
  have h0 := hW.2.1
  have h1 := hW.2.2.1
  have N : ¬ ((nI 0 ≤ x1 ∧ x1 ≤ nI (r 0) - nI 1) ∧ (nI 0 ≤ x2 ∧ x2 ≤ nI (r 1) - nI 1)) → fX11_clash [.ref 41, .int x1, .int x2, .int x3] (upI (upI w 0 10 (nI 1)) 0 12 (-1)) (fun u w2 => QK w (some (.int (-1))) u w2) := fun hn => n_clash (RM_cf hM CF_r) hW (txr CF_r h6) hn (fin CF_r GF_r)
  unfold QP
  refine tX10_clash_0 ⟨fun z => ?_, fun z => ⟨fun z2 => ⟨fun z3 => ?_, fun z3 => ?_⟩, fun z2 => ?_⟩⟩
  · rw [hC.1] at z; exact N (fun q => z q.1)
  · rw [hC.1] at z; rw [hC.2.1] at z2
    obtain ⟨t, ht, rfl⟩ := (rng (by omega)).mp z
    obtain ⟨g, hg, rfl⟩ := (rng (by omega)).mp z2
    obtain ⟨x, hx, hx2, rfl⟩ := (rng2 (by omega) (by omega)).mp z3
    refine c_open hP (by omega) (fun w1 ho hI0 => tX10_clash_46 ?_)
    have hc : CF w (upI (upI w1 0 10 (nI 0)) 0 12 (-1)) (nI 0) := CF_a (off27 ho)
    refine c_clashes (hC.off ho s27_ct) hW hV.1 (DI_ld hI0) ht (ldT_le hW t) hg (by omega) (tX10_clash_56 ?_)
    have sm : ∀ h, h < r 1 → h ≠ g → ldT r t h = load r t h := fun h hh _ => ldT_lt (by omega)
    have sm2 : ∀ h, h < r 1 → h ≠ g → load r t h = ldT r t h := fun h hh _ => (ldT_lt (by omega)).symm
    have e : clashB (¬ x ≤ r (22 + t)) (¬ rested r (ldT r t) g) (¬ nextOk r (ldT r t) g x) (¬ (r 3 = 0 ∨ wkOk r (ldT r t) g x)) = clashB (¬ x ≤ r (22 + t)) (¬ rested r (load r t) g) (¬ nextOk r (load r t) g x) (¬ (r 3 = 0 ∨ wkOk r (load r t) g x)) := by
      rw [propext (show rested r (ldT r t) g ↔ rested r (load r t) g from ⟨rested_same sm hg, rested_same sm2 hg⟩), propext (show nextOk r (ldT r t) g x ↔ nextOk r (load r t) g x from ⟨nextOk_same sm, nextOk_same sm2⟩), propext (show wkOk r (ldT r t) g x ↔ wkOk r (load r t) g x from ⟨wkOk_same sm, wkOk_same sm2⟩)]
    rw [e]
    exact y_clash (RM_cf hM hc) hW (txr hc h6) z z2 z3 (g_clash (RM_rfs (RM_cf hM hc)) hW hV ht hg (by omega) (fun w2 ho2 => fin hc (GF_a (GO_47 ho2))))
  · rw [hC.1] at z; rw [hC.2.1] at z2
    exact m_clash (RM_cf hM CF_r) hW (txr CF_r h6) z z2 z3 (fin CF_r GF_r)
  · rw [hC.2.1] at z2; exact N (fun q => z2 q.2)
end Q4
