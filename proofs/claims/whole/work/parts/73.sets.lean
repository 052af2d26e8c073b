/-! games given to a thrower: sets of them -/
def TSb (r : Nat → Nat) (g n t : Nat) (S : Nat → Bool) : Nat → Nat := fun h => if g ≤ h ∧ h < g + n then (if S (h - g) = true then fullN r t h else 0) else ldT r t h
def okB (r : Nat → Nat) (g n t : Nat) (S : Nat → Bool) : Prop := ∀ i, i < n → S i = true → allowT r (TSb r g n t S) t (g + i) (fullN r t (g + i))
theorem TSb_in {r : Nat → Nat} {g n t : Nat} {S : Nat → Bool} {i : Nat} (hi : i < n) : TSb r g n t S (g + i) = if S i = true then fullN r t (g + i) else 0 := by
  unfold TSb
  rw [if_pos (by omega), show g + i - g = i by omega]
theorem TSb_out {r : Nat → Nat} {g n t : Nat} {S : Nat → Bool} {h : Nat} (hh : ¬ (g ≤ h ∧ h < g + n)) : TSb r g n t S h = ldT r t h := if_neg hh
theorem TSb_le {r : Nat → Nat} (hW : WFr r) {g n t : Nat} {S : Nat → Bool} (hn : g + n ≤ 20) (h : Nat) : TSb r g n t S h ≤ 500 := by
  unfold TSb
  split
  · split
    · have := full_le hW (t := t) (g := h) (by omega); omega
    · omega
  · exact ldT_le hW t h
theorem TSb_congr {r : Nat → Nat} {g n t : Nat} {S U : Nat → Bool} (e : ∀ i, i < n → S i = U i) : TSb r g n t S = TSb r g n t U := by
  funext h
  unfold TSb
  by_cases q : g ≤ h ∧ h < g + n
  · rw [if_pos q, if_pos q, e (h - g) (by omega)]
  · rw [if_neg q, if_neg q]
theorem okB_congr {r : Nat → Nat} {g n t : Nat} {S U : Nat → Bool} (e : ∀ i, i < n → S i = U i) : okB r g n t S ↔ okB r g n t U := by
  unfold okB
  rw [TSb_congr e]
  constructor
  · intro h i hi hs; exact h i hi (by rw [e i hi]; exact hs)
  · intro h i hi hs; exact h i hi (by rw [← e i hi]; exact hs)
/-- fewer throws elsewhere: allowed all the same -/
theorem allowT_less {r T U : Nat → Nat} {t g x : Nat} (hg : g < r 1) (hs : ∀ h, h < r 1 → h ≠ g → U h = 0 ∨ U h = T h) (h : allowT r T t g x) : allowT r U t g x := by
  obtain ⟨a, b, c, d⟩ := h
  refine ⟨a, fun h hh hp => ?_, fun h hh hh2 hp => ?_, ?_⟩
  · rcases hs h (by omega) (by omega) with q | q
    · omega
    · rw [q] at hp ⊢; exact b h hh hp
  · rcases hs h hh2 (by omega) with q | q
    · omega
    · rw [q] at hp; exact c h hh hh2 hp
  · rcases d with d | d
    · exact Or.inl d
    · refine Or.inr (fun f hf hw => Nat.le_trans (Nat.add_le_add_left ?_ x) (d f hf hw))
      refine sumN_le_sum _ (fun k hk => ?_)
      show (if k ≠ g ∧ r (46 + k) ≤ r (46 + f) + 6 ∧ r (46 + f) + 6 < r (46 + k) + 7 then U k else 0) ≤ (if k ≠ g ∧ r (46 + k) ≤ r (46 + f) + 6 ∧ r (46 + f) + 6 < r (46 + k) + 7 then T k else 0)
      by_cases q : k ≠ g ∧ r (46 + k) ≤ r (46 + f) + 6 ∧ r (46 + f) + 6 < r (46 + k) + 7
      · rw [if_pos q, if_pos q]
        rcases hs k hk q.1 with p | p <;> omega
      · rw [if_neg q, if_neg q]; exact Nat.le_refl _
theorem okB_mono {r : Nat → Nat} {g n t : Nat} {S U : Nat → Bool} (hn : g + n ≤ r 1) (e : ∀ i, i < n → U i = true → S i = true) (h : okB r g n t S) : okB r g n t U := by
  intro i hi hu
  refine allowT_less (by omega) (fun k hk _ => ?_) (h i hi (e i hi hu))
  unfold TSb
  by_cases q : g ≤ k ∧ k < g + n
  · rw [if_pos q, if_pos q]
    by_cases p : U (k - g) = true
    · rw [if_pos p, if_pos (e (k - g) (by omega) p)]; exact Or.inr rfl
    · rw [if_neg p]; exact Or.inl rfl
  · rw [if_neg q, if_neg q]; exact Or.inr rfl
/-- all throws of seven days -/
def wtot (r T : Nat → Nat) (last : Nat) : Nat := sumN (fun h => if r (46 + h) ≤ last ∧ last < r (46 + h) + 7 then T h else 0) (r 1)
theorem wsum_tot {r T : Nat → Nat} {g last : Nat} (hg : g < r 1) (h : r (46 + g) ≤ last ∧ last < r (46 + g) + 7) : T g + wsum r T g last = wtot r T last := by
  have s := sumN_chg (f := fun h => if r (46 + h) ≤ last ∧ last < r (46 + h) + 7 then T h else 0) (f1 := fun h => if h ≠ g ∧ r (46 + h) ≤ last ∧ last < r (46 + h) + 7 then T h else 0) (k := g) (r 1) hg (fun j _ hj => by
    show (if j ≠ g ∧ r (46 + j) ≤ last ∧ last < r (46 + j) + 7 then T j else 0) = (if r (46 + j) ≤ last ∧ last < r (46 + j) + 7 then T j else 0)
    by_cases q : r (46 + j) ≤ last ∧ last < r (46 + j) + 7
    · rw [if_pos ⟨hj, q⟩, if_pos q]
    · rw [if_neg (fun z => q z.2), if_neg q])
  have e2 : ¬ (g ≠ g ∧ r (46 + g) ≤ last ∧ last < r (46 + g) + 7) := fun z => z.1 rfl
  rw [if_pos h, if_neg e2] at s
  unfold wsum wtot
  omega
/-- the last one of a set is the one to ask about -/
theorem okB_last {r : Nat → Nat} (hV : VP r) {g n t l : Nat} {S U : Nat → Bool} (ht : t < r 0) (hn : g + n ≤ r 1) (hl : l < n) (hSl : S l = true) (hup : ∀ i, l < i → i < n → S i = false) (hU : ∀ i, i < n → U i = (S i && !(i == l))) : okB r g n t S ↔ okB r g n t U ∧ allowT r (TSb r g n t S) t (g + l) (fullN r t (g + l)) := by
  have hd := hV.1
  have fp : ∀ i, i < n → 1 ≤ fullN r t (g + i) := fun i hi => by
    have a := hV.2.2.2.2.2.1 t ht
    have b := hV.2.2.2.2.2.2 (g + i) (by omega)
    unfold fullN; omega
  have same : ∀ k, k ≠ g + l → TSb r g n t U k = TSb r g n t S k := fun k hk => by
    unfold TSb
    by_cases q : g ≤ k ∧ k < g + n
    · rw [if_pos q, if_pos q, hU (k - g) (by omega)]
      have e : ((k - g) == l) = false := beq_false_of_ne (by omega)
      rw [e, Bool.not_false, Bool.and_true]
    · rw [if_neg q, if_neg q]
  constructor
  · intro h
    refine ⟨okB_mono hn (fun i hi hu => ?_) h, h l hl hSl⟩
    rw [hU i hi] at hu
    exact (Bool.and_eq_true_iff.mp hu).1
  · rintro ⟨hu, ha⟩ i hi hs
    by_cases q : i = l
    · subst q; exact ha
    · have il : i < l := by
        rcases Nat.lt_trichotomy i l with p | p | p
        · exact p
        · exact absurd p q
        · rw [hup i p hi] at hs; exact absurd hs (by decide)
      have ui : U i = true := by
        rw [hU i hi, hs, beq_false_of_ne q]; rfl
      obtain ⟨a, b, c, d⟩ := hu i hi ui
      obtain ⟨a2, b2, c2, d2⟩ := ha
      have Ti : TSb r g n t S (g + i) = fullN r t (g + i) := by rw [TSb_in hi, if_pos hs]
      have Tl : TSb r g n t S (g + l) = fullN r t (g + l) := by rw [TSb_in hl, if_pos hSl]
      refine ⟨a, fun h hh hp => ?_, fun h hh hh2 hp => ?_, ?_⟩
      · rw [← same h (by omega)] at hp ⊢; exact b h hh hp
      · by_cases p : h = g + l
        · subst p
          have := b2 (g + i) (by omega) (by rw [Ti]; exact fp i hi)
          rw [Ti] at this
          exact this
        · rw [← same h p] at hp
          exact c h hh hh2 hp
      · rcases d with d | d
        · exact Or.inl d
        · rcases d2 with d2 | d2
          · exact Or.inl d2
          · refine Or.inr (fun f hf hw => ?_)
            have df : r (46 + f) ≤ r (46 + (g + i)) := by
              rcases Nat.lt_or_ge f (g + i) with p | p
              · exact Nat.le_of_lt (hd f (g + i) p (by omega))
              · have : f = g + i := by omega
                rw [this]; exact Nat.le_refl _
            have dil := hd (g + i) (g + l) (by omega) (by omega)
            by_cases p : r (46 + (g + l)) < r (46 + f) + 7
            · have y := d2 f (by omega) p
              have s1 := wsum_tot (r := r) (T := TSb r g n t S) (g := g + i) (last := r (46 + f) + 6) (by omega) (by omega)
              have s2 := wsum_tot (r := r) (T := TSb r g n t S) (g := g + l) (last := r (46 + f) + 6) (by omega) (by omega)
              rw [Ti] at s1
              rw [Tl] at s2
              omega
            · have y := d f hf hw
              have e : wsum r (TSb r g n t S) (g + i) (r (46 + f) + 6) = wsum r (TSb r g n t U) (g + i) (r (46 + f) + 6) := by
                refine sumN_congr _ (fun k hk => ?_)
                show (if k ≠ g + i ∧ r (46 + k) ≤ r (46 + f) + 6 ∧ r (46 + f) + 6 < r (46 + k) + 7 then TSb r g n t S k else 0) = (if k ≠ g + i ∧ r (46 + k) ≤ r (46 + f) + 6 ∧ r (46 + f) + 6 < r (46 + k) + 7 then TSb r g n t U k else 0)
                by_cases z : k ≠ g + i ∧ r (46 + k) ≤ r (46 + f) + 6 ∧ r (46 + f) + 6 < r (46 + k) + 7
                · rw [if_pos z, if_pos z, same k (fun y => by rw [y] at z; omega)]
                · rw [if_neg z, if_neg z]
              rw [e]; exact y
/-! rows of throwers for n games, and the search among them -/
def gaN (r : Nat → Nat) (g : Nat) (f : Nat → Nat) (i : Nat) : Nat := if f i = r 0 then 0 else fullV r (g + i) (f i)
def roW (r : Nat → Nat) (g n : Nat) (f : Nat → Nat) : Nat := sumN (gaN r g f) n
/-- the first i of the row are allowed together -/
def prOk (r : Nat → Nat) (g n i : Nat) (f : Nat → Nat) : Prop := ∀ t, t < r 0 → okB r g n t (fun j => decide (j < i) && f j == t)
def fo {α : Type} : Nat → (Nat → α → α) → α → α
  | 0, _, s => s
  | k + 1, F, s => F k (fo k F s)
abbrev SR : Type := Nat × (Nat → Nat)
noncomputable def eR (r : Nat → Nat) (g n : Nat) : Nat → (Nat → Nat) → SR → SR
  | 0, f, s => bif dec (s.1 ≤ roW r g n f ∧ prOk r g n n f) then (roW r g n f + 1, f) else s
  | d + 1, f, s => fo (r 0 + 1) (fun t s => eR r g n d (upR f (n - (d + 1)) t) s) s
theorem gaN_congr {r f f1 : Nat → Nat} {g i : Nat} (e : f1 i = f i) : gaN r g f1 i = gaN r g f i := by unfold gaN; rw [e]
theorem roW_congr {r f f1 : Nat → Nat} {g n : Nat} (e : ∀ i, i < n → f1 i = f i) : roW r g n f1 = roW r g n f := sumN_congr _ (fun i hi => gaN_congr (e i hi))
theorem prOk_congr {r f f1 : Nat → Nat} {g n i : Nat} (e : ∀ j, j < i → f1 j = f j) : prOk r g n i f1 ↔ prOk r g n i f := by
  unfold prOk
  have key : ∀ t, okB r g n t (fun j => decide (j < i) && f1 j == t) ↔ okB r g n t (fun j => decide (j < i) && f j == t) := fun t => okB_congr (fun j hj => by
    show (decide (j < i) && f1 j == t) = (decide (j < i) && f j == t)
    by_cases q : j < i
    · rw [e j q]
    · rw [decide_eq_false q, Bool.false_and, Bool.false_and])
  constructor
  · intro h t ht; exact (key t).mp (h t ht)
  · intro h t ht; exact (key t).mpr (h t ht)
theorem prOk_mono {r f : Nat → Nat} {g n i j : Nat} (hn : g + n ≤ r 1) (hij : i ≤ j) (h : prOk r g n j f) : prOk r g n i f := fun t ht => okB_mono hn (fun k hk hu => by
  have := Bool.and_eq_true_iff.mp hu
  have hk2 := of_decide_eq_true this.1
  show (decide (k < j) && f k == t) = true
  rw [this.2, decide_eq_true (show k < j by omega)]; rfl) (h t ht)
section SEARCH
variable {r : Nat → Nat} {g n : Nat}
theorem fo_ind {α : Type} {P : Nat → α → Prop} {F : Nat → α → α} {s : α} (h0 : P 0 s) : ∀ k, (∀ i a, i < k → P i a → P (i + 1) (F i a)) → P k (fo k F s) := by
  intro k
  induction k with
  | zero => intro _; exact h0
  | succ k ih => intro h; exact h k _ (Nat.lt_succ_self k) (ih (fun i a hi => h i a (by omega)))
theorem eR_ge : ∀ d (f : Nat → Nat) (s : SR), s.1 ≤ (eR r g n d f s).1 := by
  intro d
  induction d with
  | zero =>
    intro f s
    unfold eR
    cases hh : dec (s.1 ≤ roW r g n f ∧ prOk r g n n f)
    · exact Nat.le_refl _
    · have : s.1 ≤ roW r g n f ∧ prOk r g n n f := Classical.byContradiction (fun z => by rw [dec_f z] at hh; exact absurd hh (by decide))
      show s.1 ≤ roW r g n f + 1
      omega
  | succ d ih =>
    intro f s
    exact fo_ind (α := SR) (P := fun _ a => s.1 ≤ a.1) (Nat.le_refl _) _ (fun i a _ h => Nat.le_trans h (ih _ _))
theorem eR_max : ∀ d (f f1 : Nat → Nat) (s : SR), d ≤ n → (∀ j, j < n - d → f1 j = f j) → (∀ j, j < n → f1 j ≤ r 0) → prOk r g n n f1 → roW r g n f1 + 1 ≤ (eR r g n d f s).1 := by
  intro d
  induction d with
  | zero =>
    intro f f1 s _ e _ hp
    have e1 : roW r g n f1 = roW r g n f := roW_congr (fun i hi => e i (by omega))
    have hp2 : prOk r g n n f := (prOk_congr (fun i hi => e i (by omega))).mp hp
    unfold eR
    by_cases q : s.1 ≤ roW r g n f
    · rw [dec_t ⟨q, hp2⟩, e1]; exact Nat.le_refl _
    · rw [dec_f (fun z => q z.1), e1]
      show roW r g n f + 1 ≤ s.1
      omega
  | succ d ih =>
    intro f f1 s hd e hb hp
    have key : ∀ k, f1 (n - (d + 1)) < k → roW r g n f1 + 1 ≤ (fo k (fun t s => eR r g n d (upR f (n - (d + 1)) t) s) s).1 := by
      intro k
      induction k with
      | zero => intro h; omega
      | succ k ih2 =>
        intro h
        by_cases q : f1 (n - (d + 1)) = k
        · refine ih _ f1 _ (by omega) (fun j hj => ?_) hb hp
          by_cases p : j = n - (d + 1)
          · rw [p, upR_e, q]
          · rw [upR_n p]; exact e j (by omega)
        · exact Nat.le_trans (ih2 (by omega)) (eR_ge d _ _)
    exact key (r 0 + 1) (by have := hb (n - (d + 1)) (by omega); omega)
theorem eR_skip : ∀ d (f : Nat → Nat) (s : SR), d ≤ n → (∀ j, j < n - d → f j ≤ r 0) → (∀ f1 : Nat → Nat, (∀ j, j < n - d → f1 j = f j) → (∀ j, j < n → f1 j ≤ r 0) → prOk r g n n f1 → roW r g n f1 + 1 ≤ s.1) → eR r g n d f s = s := by
  intro d
  induction d with
  | zero =>
    intro f s _ hb h
    unfold eR
    rw [dec_f (fun z => by have := h f (fun _ _ => rfl) (fun j hj => hb j (by omega)) z.2; omega)]; rfl
  | succ d ih =>
    intro f s hd hb h
    refine fo_ind (α := SR) (P := fun _ a => a = s) rfl _ (fun t a ht ha => ?_)
    rw [ha]
    refine ih _ s (by omega) (fun j hj => ?_) (fun f1 e1 b1 p1 => h f1 (fun j hj => ?_) b1 p1)
    · by_cases p : j = n - (d + 1)
      · rw [p, upR_e]; omega
      · rw [upR_n p]; exact hb j (by omega)
    · have := e1 j (by omega)
      rw [upR_n (by omega)] at this
      exact this
theorem eR_bound (B : Nat) (hB : ∀ f : Nat → Nat, (∀ j, j < n → f j ≤ r 0) → roW r g n f + 1 ≤ B) : ∀ d (f : Nat → Nat) (s : SR), d ≤ n → (∀ j, j < n - d → f j ≤ r 0) → s.1 ≤ B → (0 < s.1 → ∀ j, j < n → s.2 j ≤ r 0) → (eR r g n d f s).1 ≤ B ∧ (0 < (eR r g n d f s).1 → ∀ j, j < n → (eR r g n d f s).2 j ≤ r 0) := by
  intro d
  induction d with
  | zero =>
    intro f s _ hb hs h2
    unfold eR
    cases dec (s.1 ≤ roW r g n f ∧ prOk r g n n f)
    · exact ⟨hs, h2⟩
    · exact ⟨hB f (fun j hj => hb j (by omega)), fun _ j hj => hb j (by omega)⟩
  | succ d ih =>
    intro f s hd hb hs h2
    refine fo_ind (α := SR) (P := fun _ a => a.1 ≤ B ∧ (0 < a.1 → ∀ j, j < n → a.2 j ≤ r 0)) ⟨hs, h2⟩ _ (fun t a ht ha => ih _ a (by omega) (fun j hj => ?_) ha.1 ha.2)
    by_cases p : j = n - (d + 1)
    · rw [p, upR_e]; omega
    · rw [upR_n p]; exact hb j (by omega)
/-- a row of nobody is allowed -/
theorem prOk_no (i : Nat) : prOk r g n i (fun _ => r 0) := fun t ht j hj hs => by
  have e : r 0 = t := eq_of_beq (Bool.and_eq_true_iff.mp hs).2
  omega
theorem roW_le (hW : WFr r) (hn : g + n ≤ r 1) (h5 : n ≤ 5) {f : Nat → Nat} (hb : ∀ j, j < n → f j ≤ r 0) : roW r g n f ≤ 180000 := by
  have h0 := hW.2.1
  have h1 := hW.2.2.1
  have := sumN_le (f := gaN r g f) (b := 36000) n (fun k hk => by
    unfold gaN
    split
    · omega
    · exact fullV_le hW (by have := hb k hk; omega) (by omega))
  have : roW r g n f ≤ n * 36000 := this
  have : n * 36000 ≤ 5 * 36000 := Nat.mul_le_mul_right _ h5
  omega
end SEARCH
