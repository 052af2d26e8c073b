def S27 (c : Nat) : Prop := c = 27 ∨ c = 28
theorem s27_ct : ∀ c, 13 ≤ c → c ≤ 20 → ¬ S27 c := fun c h1 h2 h => by unfold S27 at h; omega
theorem s27_cp : ∀ c, 21 ≤ c → c ≤ 25 → ¬ S27 c := fun c h1 h2 h => by unfold S27 at h; omega
theorem Off.cpI {S : Nat → Prop} {w : Wd} {c sp dp n : Nat} {f : Nat → Int32} (hc : S c) : Off S w (cpI w c f sp dp n) := fun a ha => ⟨by
  funext b
  show (if a = c then _ else w.1 a b) = w.1 a b
  rw [if_neg (fun (z : a = c) => ha (by rw [z]; exact hc))], rfl⟩
theorem mostL_skip {r D : Nat → Nat} {t d a : Nat} : ∀ k, (∀ v, a < v → v ≤ a + k → ¬ allowN r D t d v) → mostL r D t d (a + k) = mostL r D t d a
  | 0, _ => rfl
  | k + 1, h => by
    show (bif dec (allowN r D t d (a + k + 1)) then a + k + 1 else mostL r D t d (a + k)) = _
    rw [dec_f (h (a + k + 1) (by omega) (by omega))]
    exact mostL_skip k (fun v h1 h2 => h v h1 (by omega))
theorem mostL_le {r D : Nat → Nat} {t d : Nat} : ∀ n, mostL r D t d n ≤ n
  | 0 => Nat.le_refl _
  | n + 1 => by
    show (bif dec (allowN r D t d (n + 1)) then n + 1 else mostL r D t d n) ≤ n + 1
    cases dec (allowN r D t d (n + 1))
    · exact Nat.le_succ_of_le (mostL_le n)
    · exact Nat.le_refl _
section CLS3
variable {w : Wd} {r T : Nat → Nat} {K : Kt} {t : Nat}
theorem c_open (hP : CP w r) {t : Nat} (ht : t < 8) (h : ∀ w1, Off S27 w w1 → DI w1 (load r t) t → K none w1) : fX3_open [.ref 27, .int (nI t)] w K := by
  refine tX3_open_0 (tX5_copyLoads_0 ⟨?_, ?_⟩)
  · rw [pk_mul]
    unfold cpOk
    rw [nI_clamp (by omega), nI_clamp (by omega), nI_clamp (by omega), lt0_N (by omega)]
    exact ⟨id, by decide, by decide, by omega, by omega⟩
  · refine tX3_open_20 ?_
    rw [pk_mul, cpy_N (by omega) (by omega) (by omega)]
    refine h _ ((Off.up (Or.inl rfl)).tr (Off.cpI (Or.inr rfl))) ⟨?_, fun h hh => ?_⟩
    · show (if 27 = 28 then va_cpy ((upI w 27 2 (nI t)).1 25) ((upI w 27 2 (nI t)).1 28) (t * 20) 0 20 2 else (upI w 27 2 (nI t)).1 27 2) = nI t
      rw [if_neg (by decide), upI1, if_pos ⟨rfl, rfl⟩]
    · show (if 28 = 28 then va_cpy ((upI w 27 2 (nI t)).1 25) ((upI w 27 2 (nI t)).1 28) (t * 20) 0 20 h else (upI w 27 2 (nI t)).1 28 h) = nI (load r t h)
      rw [if_pos rfl, pk_cpy_in (by omega) (by omega), upI1, if_neg (fun z => by omega), show t * 20 + (h - 0) = t * 20 + h by omega]
      exact hP.2.2 t h ht hh
theorem rw_room {r : Nat → Nat} (h3 : r 3 ≤ 500) {g x : Nat} (hx : x ≤ 500) {v : Int32} (hv : (r 3 = 0 ∧ v = nI 1000000) ∨ (r 3 ≠ 0 ∧ ∃ H, H ≤ 10000 ∧ v = nI (r 3) - nI H ∧ ∀ x, wkOk r T g x ↔ x + H ≤ r 3)) : nI x ≤ v ↔ (r 3 = 0 ∨ wkOk r T g x) := by
  rcases hv with ⟨h0, e⟩ | ⟨h0, H, hH, e, hw⟩
  · rw [e, le_N (by omega) (by omega)]
    exact ⟨fun _ => Or.inl h0, fun _ => by omega⟩
  · rw [e, Int32.le_iff_toInt_le, pk_sub_toInt (by omega) (by omega), nI_toInt (by omega), hw x]
    constructor
    · intro q
      exact Or.inr (by omega)
    · rintro (q | q)
      · exact absurd q h0
      · omega
theorem c_clashes (hC : CT w r) (hW : WFr r) (hd : DayUp r) (hI : DI w T t) (ht : t < r 0) (hTb : ∀ h, T h ≤ 500) {g x : Nat} (hg : g < r 1) (hx : x ≤ 500) (h : K (some (.int (clashB (¬ x ≤ r (22 + t)) (¬ rested r T g) (¬ nextOk r T g x) (¬ (r 3 = 0 ∨ wkOk r T g x))))) w) : fX3_clashes [.ref 27, .int (nI g), .int (nI x)] w K := by
  have h0 := hW.2.1
  have h3 := hW.1 3
  have hT := hW.2.2.2.2.2.2.1 t (by omega)
  have rb : ∀ y, restN r y ≤ 9 := fun y => restL_le (fun i hi => (hW.2.2.2.2.2.2.2.2.2 i hi).2) y (r 2) hW.2.2.2.1
  have e0 : rd w 16 (w.1 27 2 * nI 4 + nI 1) = nI (r (22 + t)) := by
    rw [hI.1, pk_mul, nI_add, rd_N (by omega)]
    exact (hC.2.2.2.1 t ht).2.2.1
  have J4 : ∀ (c : Int32), c = orB (orB (orB (nI 0) (¬ x ≤ r (22 + t)) 1) (¬ rested r T g) 2) (¬ nextOk r T g x) 4 → fX3_roomInWeek [.ref 27, .int (nI g)] w (fun v w1 => RR (tl K lX3_clashes) 66 [.ref 27, .int (nI g), .int (nI x), .int c] (psh v [.int (nI x)]) w1) := by
    intro c hc
    refine c_roomInWeek hC hW hd hI hTb hg (fun v hv => ?_)
    have q := rw_room (g := g) h3 hx hv
    refine tX3_clashes_66 ⟨fun z => ?_, fun z => ?_⟩
    · rw [clashB, orB_f (fun p => p (q.mp z)), ← hc] at h
      exact h
    · rw [clashB, orB_t (fun p => z (q.mpr p)), ← hc] at h
      exact h
  have J3 : ∀ (c : Int32), c = orB (orB (nI 0) (¬ x ≤ r (22 + t)) 1) (¬ rested r T g) 2 → fX9_restAfter [.ref 13, .int (nI x)] w (fun v w1 => RR (tl K lX3_clashes) 48 [.ref 27, .int (nI g), .int (nI x), .int c] (psh v []) w1) := by
    intro c hc
    refine c_restAfter hC hW hx ?_
    refine tX3_clashes_48 (c_daysToNext hC hW hd hI hTb hg (fun n hn hnx => ?_))
    have b := rb x
    refine tX3_clashes_53 ⟨fun z => J4 c ?_, fun z => J4 _ ?_⟩
    · rw [lt_N (by omega) (by omega)] at z
      rw [orB_f (fun p => p ((hnx x).mpr z)), hc]
    · rw [lt_N (by omega) (by omega)] at z
      rw [orB_t (fun p => z ((hnx x).mp p)), hc]
  have J2 : ∀ (c : Int32), c = orB (nI 0) (¬ x ≤ r (22 + t)) 1 → fX3_isRested [.ref 27, .int (nI g)] w (fun v w1 => RR (tl K lX3_clashes) 30 [.ref 27, .int (nI g), .int (nI x), .int c] (psh v []) w1) := by
    intro c hc
    refine c_isRested hC hW hd hI hTb hg (fun v hv => ?_)
    refine tX3_clashes_30 ⟨fun z => J3 c ?_, fun z => J3 _ ?_⟩
    · rw [orB_f (fun p => p (hv.t z)), hc]
    · rw [orB_t (hv.f z), hc]
  refine tX3_clashes_0 ⟨?_, fun z => J2 _ ?_, fun z => J2 _ ?_⟩
  · rw [hI.1, pk_mul, nI_add]; exact vp_in_nI (by omega) (by decide)
  · rw [e0, le_N (by omega) (by omega)] at z
    rw [orB_f (fun p => p z)]
  · rw [e0, le_N (by omega) (by omega)] at z
    rw [orB_t z]
/-- ALLOWED, asked with a row of throws by games -/
def allowT (r T : Nat → Nat) (t g x : Nat) : Prop := x ≤ r (22 + t) ∧ rested r T g ∧ nextOk r T g x ∧ (r 3 = 0 ∨ wkOk r T g x)
theorem clash_allow {r T : Nat → Nat} {t g x : Nat} : clashB (¬ x ≤ r (22 + t)) (¬ rested r T g) (¬ nextOk r T g x) (¬ (r 3 = 0 ∨ wkOk r T g x)) = 0 ↔ allowT r T t g x := by
  rw [clash_0]
  unfold allowT
  constructor
  · rintro ⟨a, b, c, d⟩
    exact ⟨Classical.not_not.mp a, Classical.not_not.mp b, Classical.not_not.mp c, Classical.not_not.mp d⟩
  · rintro ⟨a, b, c, d⟩
    exact ⟨fun z => z a, fun z => z b, fun z => z c, fun z => z d⟩
theorem c_allowsIn (hC : CT w r) (hP : CP w r) (hW : WFr r) (hV : VP r) (ht : t < r 0) {g x : Nat} (hg : g < r 1) (hx : x ≤ 500) (h : ∀ w1 v, Off S27 w w1 → isB v (allowT r (load r t) t g x) → K (some (.int v)) w1) : fX3_allowsIn [.ref 27, .int (nI t), .int (nI g), .int (nI x)] w K := by
  have h0 := hW.2.1
  have h1 := hW.2.2.1
  refine tX3_allowsIn_0 (c_open hP (by omega) (fun w1 ho hI => ?_))
  have hTb : ∀ h, h < 20 → load r t h ≤ 360 := fun h hh => load_le hW hh
  have hI2 : DI w1 (fun h => if h < 20 then load r t h else 0) t := ⟨hI.1, fun h hh => by rw [hI.2 h hh]; show _ = nI (if h < 20 then _ else _); rw [if_pos hh]⟩
  have same : ∀ h, h < 20 → (fun h => if h < 20 then load r t h else 0) h = load r t h := fun h hh => if_pos hh
  have hTb2 : ∀ h, (fun h => if h < 20 then load r t h else 0) h ≤ 500 := fun h => by
    show (if h < 20 then load r t h else 0) ≤ 500
    split
    · have := hTb h (by assumption); omega
    · omega
  have eq : allowT r (fun h => if h < 20 then load r t h else 0) t g x ↔ allowT r (load r t) t g x := by
    unfold allowT
    have a1 : rested r (fun h => if h < 20 then load r t h else 0) g ↔ rested r (load r t) g := by
      unfold rested
      constructor
      · intro q h hh; have := q h hh; rw [same h (by omega)] at this; exact this
      · intro q h hh; rw [same h (by omega)]; exact q h hh
    have a2 : nextOk r (fun h => if h < 20 then load r t h else 0) g x ↔ nextOk r (load r t) g x := by
      unfold nextOk
      constructor
      · intro q h hh hh2; have := q h hh hh2; rw [same h (by omega)] at this; exact this
      · intro q h hh hh2; rw [same h (by omega)]; exact q h hh hh2
    have a3 : ∀ last, wsum r (fun h => if h < 20 then load r t h else 0) g last = wsum r (load r t) g last := fun last => sumN_congr _ (fun k hk => by
      show (if _ then (if k < 20 then load r t k else 0) else 0) = (if _ then load r t k else 0)
      rw [if_pos (show k < 20 by omega)])
    have a4 : wkOk r (fun h => if h < 20 then load r t h else 0) g x ↔ wkOk r (load r t) g x := by
      unfold wkOk
      constructor
      · intro q f hf hw; rw [← a3]; exact q f hf hw
      · intro q f hf hw; rw [a3]; exact q f hf hw
    rw [a1, a2, a4]
  refine tX3_allowsIn_5 (c_clashes (hC.off ho s27_ct) hW hV.1 hI2 ht hTb2 hg hx ?_)
  refine tX3_allowsIn_11 ⟨fun z => h w1 _ ho (Or.inr ⟨rfl, fun p => z (clash_allow.mpr (eq.mpr p))⟩), fun z => h w1 _ ho (Or.inl ⟨rfl, eq.mp (clash_allow.mp z)⟩)⟩
theorem c_allowsAt (hC : CT w r) (hP : CP w r) (hW : WFr r) (hV : VP r) {g k : Nat} (hg : g < r 1) (hk : k < r (106 + g)) (h : ∀ w1 v, Off S27 w w1 → isB v (allowT r (load r (who r g k)) (who r g k) g (thr r g k)) → K (some (.int v)) w1) : fX3_allowsAt [.ref 27, .int (nI g), .int (nI k)] w K := by
  have h1 := hW.2.2.1
  have hG := hW.2.2.2.2.2.2.2.1 g (by omega)
  have b := hW.2.2.2.2.2.2.2.2.1 (3 * g + k) (by omega)
  have v := hV.2.2.1 g k (by omega) hk
  have p := hP.2.1 g k (by omega) hk
  have m3 : thr r g k ≤ 120 := b.2
  refine tX3_allowsAt_0 ⟨by rw [pk_mul, nI_add]; exact vp_in_nI (by omega) (by decide), ?_⟩
  rw [pk_mul, nI_add, rd_N (by omega), rd_N (by omega), p.1, p.2]
  exact c_allowsIn hC hP hW hV v.1 hg (by omega) (fun w1 v ho hv => tX3_allowsAt_29 ⟨hv.b, h w1 v ho hv⟩)
end CLS3
