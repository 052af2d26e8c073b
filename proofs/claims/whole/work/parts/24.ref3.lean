/-! who may throw how much -/
noncomputable def dec (p : Prop) : Bool := @decide p (Classical.propDecidable p)
theorem dec_t {p : Prop} (h : p) : dec p = true := @decide_eq_true p (Classical.propDecidable p) h
theorem dec_f {p : Prop} (h : ¬ p) : dec p = false := @decide_eq_false p (Classical.propDecidable p) h
/-- an answer as one of two numbers -/
def isB (v : Int32) (p : Prop) : Prop := (v = nI 1 ∧ p) ∨ (v = nI 0 ∧ ¬ p)
theorem isB.t {v : Int32} {p : Prop} (h : isB v p) (hv : ¬ v = 0) : p := by
  rcases h with h | h
  · exact h.2
  · exact absurd h.1 hv
theorem isB.f {v : Int32} {p : Prop} (h : isB v p) (hv : v = 0) : ¬ p := by
  rcases h with h | h
  · rw [h.1] at hv; exact absurd hv (by decide)
  · exact h.2
theorem isB.b {v : Int32} {p : Prop} (h : isB v p) : v = 0 ∨ v = 1 := by
  rcases h with h | h
  · exact Or.inr h.1
  · exact Or.inl h.1
noncomputable def mostL (r D : Nat → Nat) (t d : Nat) : Nat → Nat
  | 0 => 0
  | v + 1 => bif dec (allowN r D t d (v + 1)) then v + 1 else mostL r D t d v
noncomputable def mostU (r : Nat → Nat) (t g x : Nat) : Nat := mostL r (dayN r t g 1) t (r (46 + g)) (min x (r (22 + t)))
noncomputable def mostN (r : Nat → Nat) (t g : Nat) : Nat := bif dec (isIn r t g) || r (106 + g) == 3 then 0 else mostU r t g (leftN r g)
theorem dayN_le {r : Nat → Nat} (hW : WFr r) (hd : ∀ g h, g < h → h < r 1 → r (46 + g) < r (46 + h)) (t but many e : Nat) : dayN r t but many e ≤ 360 := by
  have h1 := hW.2.2.1
  have key : ∀ n, n ≤ r 1 → sumN (dayG r t but many e) n ≤ 360 ∧ ((∀ h, h < n → r (46 + h) ≠ e) → sumN (dayG r t but many e) n = 0) := by
    intro n
    induction n with
    | zero => intro _; exact ⟨Nat.zero_le _, fun _ => rfl⟩
    | succ n ih =>
      intro hn
      obtain ⟨i1, i2⟩ := ih (by omega)
      have lo : dayG r t but many e n ≤ 360 := by
        unfold dayG
        split
        · omega
        · split
          · exact load_le hW (by omega)
          · omega
      refine ⟨?_, fun hx => ?_⟩
      · show sumN _ n + dayG r t but many e n ≤ 360
        by_cases q : r (46 + n) = e
        · have z := i2 (fun h hh => by
            have := hd h n hh (by omega)
            omega)
          omega
        · have z : dayG r t but many e n = 0 := by
            unfold dayG
            rw [if_neg q]
            split <;> rfl
          omega
      · show sumN _ n + dayG r t but many e n = 0
        have z : dayG r t but many e n = 0 := by
          unfold dayG
          rw [if_neg (hx n (by omega))]
          split <;> rfl
        rw [i2 (fun h hh => hx h (by omega)), z]
  exact (key (r 1) (Nat.le_refl _)).1
def DayUp (r : Nat → Nat) : Prop := ∀ g h, g < h → h < r 1 → r (46 + g) < r (46 + h)
section REF3
variable {w : Wd} {r D : Nat → Nat} {K : Kt}
theorem g_mostUpTo (hM : RM w r) (hW : WFr r) (hd : DayUp r) {t g x : Nat} (ht : t < 8) (hg : g < 20) (hx : x ≤ 400) (h : ∀ w1, Off (· = 47) w w1 → K (some (.int (nI (mostU r t g x)))) w1) : fX11_mostUpTo [.ref 41, .int (nI t), .int (nI g), .int (nI x)] w K := by
  have hT := hW.2.2.2.2.2.2.1 t ht
  have hG := hW.2.2.2.2.2.2.2.1 g hg
  refine tX11_mostUpTo_0 (g_laysDays hM hW (by omega) (by omega) (by omega) (fun w1 ho hD => ?_))
  have hM1 := hM.off ho (by decide)
  have hb : ∀ e, dayN r t g 1 e ≤ 500 := fun e => Nat.le_trans (dayN_le hW hd t g 1 e) (by omega)
  have L : ∀ v, v ≤ 400 → (mostL r (dayN r t g 1) t (r (46 + g)) v = mostU r t g x) → RR (tl K lX11_mostUpTo) 22 [.ref 41, .int (nI t), .int (nI g), .int (nI x), .int (nI v)] [] w1 := by
    intro v
    induction v with
    | zero =>
      intro _ hv
      refine tX11_mostUpTo_22 ⟨fun _ => ?_, fun z => absurd ?_ z⟩
      · refine tX11_mostUpTo_52 ⟨fun _ => ?_, fun z => absurd ?_ z⟩
        · have := h w1 ho
          rw [← hv] at this
          exact this
        · exact Int32.le_refl _
      · exact Int32.le_refl _
    | succ v ih =>
      intro hv hm
      refine tX11_mostUpTo_22 ⟨fun z => absurd z ?_, fun _ => ⟨?_, ?_⟩⟩
      · rw [le0_N (by omega)]; omega
      · rw [nI_add]; exact vp_in_nI (by omega) (by decide)
      · rw [nI_add, rdM hM1 (by omega)]
        refine g_isAllowed hM1 hW hD hb ht (by omega) (by omega) (fun b hB => ?_)
        have hB : isB b (allowN r (dayN r t g 1) t (r (46 + g)) (v + 1)) := hB
        refine tX11_mostUpTo_43 ⟨fun z => ?_, fun z => ?_⟩
        · refine tX11_mostUpTo_52 ⟨fun _ => ?_, fun z => absurd ((ge0_N (by omega)).mpr trivial) z⟩
          have e : mostL r (dayN r t g 1) t (r (46 + g)) (v + 1) = v + 1 := by
            unfold mostL
            rw [dec_t (hB.t z)]
            rfl
          have := h w1 ho
          rw [← hm, e] at this
          exact this
        · have e : mostL r (dayN r t g 1) t (r (46 + g)) (v + 1) = mostL r (dayN r t g 1) t (r (46 + g)) v := by
            conv => lhs; unfold mostL
            rw [dec_f (hB.f z)]
            rfl
          rw [pk_m1]
          exact ih (by omega) (by rw [← e]; exact hm)
  refine tX11_mostUpTo_7 ⟨by rw [nI_add]; exact vp_in_nI (by omega) (by decide), ?_⟩
  rw [nI_add, rdM hM1 (by omega), leI_N (by omega) (by omega)]
  exact L _ (by omega) rfl
theorem g_mostOf (hM : RM w r) (hW : WFr r) (hd : DayUp r) {t g : Nat} (ht : t < 8) (hg : g < 20) (hs : sumN (thr r g) (r (106 + g)) ≤ r (86 + g)) (h : ∀ w1, Off (· = 47) w w1 → K (some (.int (nI (mostN r t g)))) w1) : fX11_mostOf [.ref 41, .int (nI t), .int (nI g)] w K := by
  have hG := hW.2.2.2.2.2.2.2.1 g hg
  refine tX11_mostOf_0 (g_isIn hM hW (by omega) hg (fun v hv => ?_))
  have hv : isB v (isIn r t g) := hv
  refine tX11_mostOf_6 ⟨fun z => ?_, fun z => ⟨?_, fun z2 => ?_, fun z2 => ?_⟩⟩
  · have := h w Off.rf
    unfold mostN at this
    rw [dec_t (hv.t z)] at this
    exact this
  · rw [nI_add]; exact vp_in_nI (by omega) (by decide)
  · rw [nI_add, rdM hM (by omega), eq_N (by omega) (by omega)] at z2
    refine g_leftOf hM hW hg hs ?_
    refine tX11_mostOf_34 ?_
    have hl : leftN r g ≤ 200 := by unfold leftN; omega
    refine g_mostUpTo hM hW hd ht hg (by omega) (fun w1 ho => ?_)
    refine tX11_mostOf_37 ?_
    have := h w1 ho
    unfold mostN at this
    rw [dec_f (hv.f z), show (r (106 + g) == 3) = false by simpa using z2] at this
    exact this
  · rw [nI_add, rdM hM (by omega), eq_N (by omega) (by omega)] at z2
    have := h w Off.rf
    unfold mostN at this
    rw [show (r (106 + g) == 3) = true by simpa using z2, Bool.or_true] at this
    exact this
theorem g_isAllowedAt (hM : RM w r) (hW : WFr r) (hd : DayUp r) {g k : Nat} (hg : g < 20) (hk : k < 3) (h : ∀ w1 v, Off (· = 47) w w1 → isB v (allowN r (dayN r (who r g k) g 1) (who r g k) (r (46 + g)) (thr r g k)) → K (some (.int v)) w1) : fX11_isAllowedAt [.ref 41, .int (nI g), .int (nI k)] w K := by
  have hG := hW.2.2.2.2.2.2.2.1 g hg
  have b := hW.2.2.2.2.2.2.2.2.1 (3 * g + k) (by omega)
  refine tX11_isAllowedAt_0 ⟨by rw [pk_mul, nI_add, nI_add]; exact vp_in_nI (by omega) (by decide), ?_⟩
  rw [pk_mul, nI_add, nI_add, rdM hM (by omega)]
  refine g_laysDays hM hW (by omega) (by omega) (by omega) (fun w1 ho hD => ?_)
  have hM1 := hM.off ho (by decide)
  refine tX11_isAllowedAt_12 ⟨by rw [pk_mul, nI_add, nI_add]; exact vp_in_nI (by omega) (by decide), by rw [nI_add]; exact vp_in_nI (by omega) (by decide), by rw [pk_mul, nI_add, nI_add]; exact vp_in_nI (by omega) (by decide), ?_⟩
  rw [pk_mul, nI_add, nI_add, nI_add, nI_add, rdM hM1 (by omega), rdM hM1 (by omega), rdM hM1 (by omega)]
  refine g_isAllowed hM1 hW hD (fun e => Nat.le_trans (dayN_le hW hd _ g 1 e) (by omega)) (by omega) (by omega) (by omega) (fun v hv => ?_)
  have hv : isB v _ := hv
  exact tX11_isAllowedAt_37 ⟨hv.b, h w1 v ho hv⟩
theorem g_isAloneAllowed (hM : RM w r) (hW : WFr r) (hd : DayUp r) {t g x : Nat} (ht : t < 8) (hg : g < 20) (hx : x ≤ 500) (h : ∀ w1 v, Off (· = 47) w w1 → isB v (allowN r (dayN r t g 1) t (r (46 + g)) x) → K (some (.int v)) w1) : fX11_isAloneAllowed [.ref 41, .int (nI t), .int (nI g), .int (nI x)] w K := by
  have hG := hW.2.2.2.2.2.2.2.1 g hg
  refine tX11_isAloneAllowed_0 (g_laysDays hM hW (by omega) (by omega) (by omega) (fun w1 ho hD => ?_))
  have hM1 := hM.off ho (by decide)
  refine tX11_isAloneAllowed_7 ⟨by rw [nI_add]; exact vp_in_nI (by omega) (by decide), ?_⟩
  rw [nI_add, rdM hM1 (by omega)]
  refine g_isAllowed hM1 hW hD (fun e => Nat.le_trans (dayN_le hW hd _ g 1 e) (by omega)) ht (by omega) hx (fun v hv => ?_)
  have hv : isB v _ := hv
  exact tX11_isAloneAllowed_22 ⟨hv.b, h w1 v ho hv⟩
end REF3
