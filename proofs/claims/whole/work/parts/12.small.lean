theorem stI_g {L : List Value} {i : Nat} {v : Value} (h : (L.getD (i - 1) .null).category = 1) : stI L i v = L.set i v := by
  unfold stI prevL
  rw [h]
  rfl
def bI (p : Prop) [Decidable p] : Int32 := if p then nI 1 else nI 0
def neI (x : Int32) : Int32 := if x = 0 then nI 0 else nI 1
def leI (a b : Int32) : Int32 := if b ≤ a then b else a
def unI (b : Int32) : Int32 := if b = 0 then nI 1 else nI 0
def un2 (a b : Int32) : Int32 := if a = 0 then nI 1 else if b = 0 then nI 2 else nI 0
def abI (t x : Int32) : Int32 := if x ≤ t then nI 0 else x - t
def seI (w : Wd) (k : Int32) : Int32 := if w.1 41 11 ≤ k then -1 else rd w 42 k
def rfs (w : Wd) (why : Int32) : Wd := upI (upI (upI w 41 0 (nI 0)) 41 3 (-1)) 41 1 why
theorem bI_01 (p : Prop) [Decidable p] : bI p = 0 ∨ bI p = 1 := by
  unfold bI
  split
  · exact Or.inr rfl
  · exact Or.inl rfl
theorem bI_z {p : Prop} [Decidable p] (h : bI p = 0) : ¬ p := fun q => by
  rw [bI, if_pos q] at h
  exact absurd h (by decide)
theorem bI_o {p : Prop} [Decidable p] (h : ¬ bI p = 0) : p := Decidable.byContradiction (fun q => h (by rw [bI, if_neg q]; rfl))
theorem neI_01 (x : Int32) : neI x = 0 ∨ neI x = 1 := by
  unfold neI
  split
  · exact Or.inl rfl
  · exact Or.inr rfl
theorem neI_z {x : Int32} (h : neI x = 0) : x = 0 := Decidable.byContradiction (fun q => by
  rw [neI, if_neg q] at h
  exact absurd h (by decide))
theorem neI_o {x : Int32} (h : ¬ neI x = 0) : ¬ x = 0 := fun q => h (by rw [neI, if_pos q]; rfl)
set_option maxRecDepth 4000 in
theorem tX11_in_0 {x0 : Int32} {x1 : Int32} {x2 : Int32} {w : Wd} {K : Kt} (h : (x0 < x1 → K (some (.int (nI 0))) w) ∧ (¬ (x0 < x1) → (x2 < x0 → K (some (.int (nI 0))) w) ∧ (¬ (x2 < x0) → K (some (.int (nI 1))) w))) : fX11_in [.int x0, .int x1, .int x2] w K := eX11_in (Nat.le_of_ble_eq_true rfl) rfl (r_iload (aX11_in_0 _) rfl (r_iload (aX11_in_1 _) rfl (r_icmp_lt (aX11_in_2 _) (fun z1 => r_pushI (aX11_in_14 _) (r_zret (aX11_in_15 _) (Or.inl rfl) ((h.1 z1)))) (fun z1 => r_iload (aX11_in_5 _) rfl (r_iload (aX11_in_6 _) rfl (r_icmp_gt (aX11_in_7 _) (fun z2 => r_pushI (aX11_in_14 _) (r_zret (aX11_in_15 _) (Or.inl rfl) (((h.2 z1).1 z2)))) (fun z2 => r_pushI (aX11_in_10 _) (r_goto (aX11_in_11 _) (r_zret (aX11_in_15 _) (Or.inr rfl) (((h.2 z1).2 z2)))))))))))
set_option maxRecDepth 4000 in
theorem tX10_within_0 {x0 : Int32} {x1 : Int32} {x2 : Int32} {w : Wd} {K : Kt} (h : (x0 < x1 → K (some (.int (nI 0))) w) ∧ (¬ (x0 < x1) → (x2 < x0 → K (some (.int (nI 0))) w) ∧ (¬ (x2 < x0) → K (some (.int (nI 1))) w))) : fX10_within [.int x0, .int x1, .int x2] w K := eX10_within (Nat.le_of_ble_eq_true rfl) rfl (r_iload (aX10_within_0 _) rfl (r_iload (aX10_within_1 _) rfl (r_icmp_lt (aX10_within_2 _) (fun z3 => r_pushI (aX10_within_14 _) (r_zret (aX10_within_15 _) (Or.inl rfl) ((h.1 z3)))) (fun z3 => r_iload (aX10_within_5 _) rfl (r_iload (aX10_within_6 _) rfl (r_icmp_gt (aX10_within_7 _) (fun z4 => r_pushI (aX10_within_14 _) (r_zret (aX10_within_15 _) (Or.inl rfl) (((h.2 z3).1 z4)))) (fun z4 => r_pushI (aX10_within_10 _) (r_goto (aX10_within_11 _) (r_zret (aX10_within_15 _) (Or.inr rfl) (((h.2 z3).2 z4)))))))))))
theorem bI_t {p : Prop} [Decidable p] (h : p) : bI p = nI 1 := if_pos h
theorem bI_f {p : Prop} [Decidable p] (h : ¬ p) : bI p = nI 0 := if_neg h
theorem sp_in {x0 x1 x2 : Int32} {w : Wd} {K : Kt} (h : K (some (.int (bI (x1 ≤ x0 ∧ x0 ≤ x2)))) w) : fX11_in [.int x0, .int x1, .int x2] w K := by
  refine tX11_in_0 ⟨fun z => ?_, fun z => ⟨fun z2 => ?_, fun z2 => ?_⟩⟩
  · rw [bI_f (fun q => Int32.not_lt.mpr q.1 z)] at h; exact h
  · rw [bI_f (fun q => Int32.not_lt.mpr q.2 z2)] at h; exact h
  · rw [bI_t ⟨Int32.not_lt.mp z, Int32.not_lt.mp z2⟩] at h; exact h
theorem sp_within {x0 x1 x2 : Int32} {w : Wd} {K : Kt} (h : K (some (.int (bI (x1 ≤ x0 ∧ x0 ≤ x2)))) w) : fX10_within [.int x0, .int x1, .int x2] w K := by
  refine tX10_within_0 ⟨fun z => ?_, fun z => ⟨fun z2 => ?_, fun z2 => ?_⟩⟩
  · rw [bI_f (fun q => Int32.not_lt.mpr q.1 z)] at h; exact h
  · rw [bI_f (fun q => Int32.not_lt.mpr q.2 z2)] at h; exact h
  · rw [bI_t ⟨Int32.not_lt.mp z, Int32.not_lt.mp z2⟩] at h; exact h

set_option maxRecDepth 4000 in
theorem tX8_isLetter_0 {x0 : Int32} {w : Wd} {K : Kt} (h : (x0 < (nI 97) → K (some (.int (nI 0))) w) ∧ (¬ (x0 < (nI 97)) → ((nI 122) < x0 → K (some (.int (nI 0))) w) ∧ (¬ ((nI 122) < x0) → K (some (.int (nI 1))) w))) : fX8_isLetter [.int x0] w K := eX8_isLetter (Nat.le_of_ble_eq_true rfl) rfl (r_iload (aX8_isLetter_0 _) rfl (r_pushI (aX8_isLetter_1 _) (r_icmp_lt (aX8_isLetter_3 _) (fun z5 => r_pushI (aX8_isLetter_16 _) (r_zret (aX8_isLetter_17 _) (Or.inl rfl) ((h.1 z5)))) (fun z5 => r_iload (aX8_isLetter_6 _) rfl (r_pushI (aX8_isLetter_7 _) (r_icmp_gt (aX8_isLetter_9 _) (fun z6 => r_pushI (aX8_isLetter_16 _) (r_zret (aX8_isLetter_17 _) (Or.inl rfl) (((h.2 z5).1 z6)))) (fun z6 => r_pushI (aX8_isLetter_12 _) (r_goto (aX8_isLetter_13 _) (r_zret (aX8_isLetter_17 _) (Or.inr rfl) (((h.2 z5).2 z6)))))))))))
set_option maxRecDepth 4000 in
theorem tX8_isDigit_0 {x0 : Int32} {w : Wd} {K : Kt} (h : (x0 < (nI 48) → K (some (.int (nI 0))) w) ∧ (¬ (x0 < (nI 48)) → ((nI 57) < x0 → K (some (.int (nI 0))) w) ∧ (¬ ((nI 57) < x0) → K (some (.int (nI 1))) w))) : fX8_isDigit [.int x0] w K := eX8_isDigit (Nat.le_of_ble_eq_true rfl) rfl (r_iload (aX8_isDigit_0 _) rfl (r_pushI (aX8_isDigit_1 _) (r_icmp_lt (aX8_isDigit_3 _) (fun z7 => r_pushI (aX8_isDigit_16 _) (r_zret (aX8_isDigit_17 _) (Or.inl rfl) ((h.1 z7)))) (fun z7 => r_iload (aX8_isDigit_6 _) rfl (r_pushI (aX8_isDigit_7 _) (r_icmp_gt (aX8_isDigit_9 _) (fun z8 => r_pushI (aX8_isDigit_16 _) (r_zret (aX8_isDigit_17 _) (Or.inl rfl) (((h.2 z7).1 z8)))) (fun z8 => r_pushI (aX8_isDigit_12 _) (r_goto (aX8_isDigit_13 _) (r_zret (aX8_isDigit_17 _) (Or.inr rfl) (((h.2 z7).2 z8)))))))))))
set_option maxRecDepth 4000 in
theorem tX11_lesser_0 {x0 : Int32} {x1 : Int32} {w : Wd} {K : Kt} (h : (x1 ≤ x0 → K (some (.int x1)) w) ∧ (¬ (x1 ≤ x0) → K (some (.int x0)) w)) : fX11_lesser [.int x0, .int x1] w K := eX11_lesser (Nat.le_of_ble_eq_true rfl) rfl (r_iload (aX11_lesser_0 _) rfl (r_iload (aX11_lesser_1 _) rfl (r_icmp_ge (aX11_lesser_2 _) (fun z9 => r_iload (aX11_lesser_9 _) rfl (r_iret (aX11_lesser_10 _) ((h.1 z9)))) (fun z9 => r_iload (aX11_lesser_5 _) rfl (r_goto (aX11_lesser_6 _) (r_iret (aX11_lesser_10 _) ((h.2 z9))))))))
set_option maxRecDepth 4000 in
theorem tX11_unless_0 {x0 : Int32} {w : Wd} {K : Kt} (h : (x0 = 0 → K (some (.int (nI 1))) w) ∧ (¬ x0 = 0 → K (some (.int (nI 0))) w)) : fX11_unless [.int x0] w K := eX11_unless (Nat.le_of_ble_eq_true rfl) rfl (r_iload (aX11_unless_0 _) rfl (r_if_eq (aX11_unless_1 _) (fun z10 => r_pushI (aX11_unless_8 _) (r_iret (aX11_unless_9 _) ((h.1 z10)))) (fun z10 => r_pushI (aX11_unless_4 _) (r_goto (aX11_unless_5 _) (r_iret (aX11_unless_9 _) ((h.2 z10)))))))
set_option maxRecDepth 4000 in
theorem tX11_unless__0 {x0 : Int32} {x1 : Int32} {w : Wd} {K : Kt} (h : (¬ x0 = 0 → (x1 = 0 → K (some (.int (nI 2))) w) ∧ (¬ x1 = 0 → K (some (.int (nI 0))) w)) ∧ (x0 = 0 → K (some (.int (nI 1))) w)) : fX11_unless_ [.int x0, .int x1] w K := eX11_unless_ (Nat.le_of_ble_eq_true rfl) rfl (r_iload (aX11_unless__0 _) rfl (r_if_ne (aX11_unless__1 _) (fun z11 => r_iload (aX11_unless__8 _) rfl (r_if_eq (aX11_unless__9 _) (fun z12 => r_pushI (aX11_unless__16 _) (r_iret (aX11_unless__17 _) (((h.1 z11).1 z12)))) (fun z12 => r_pushI (aX11_unless__12 _) (r_goto (aX11_unless__13 _) (r_iret (aX11_unless__17 _) (((h.1 z11).2 z12))))))) (fun z11 => r_pushI (aX11_unless__4 _) (r_goto (aX11_unless__5 _) (r_iret (aX11_unless__17 _) ((h.2 z11)))))))
set_option maxRecDepth 4000 in
theorem tX11_isRefused_0 {x1 : Int32} {w : Wd} {K : Kt} (h : (x1 = 0 → K (some (.int (nI 0))) (upI (upI (upI w 41 0 (nI 0)) 41 3 (-1)) 41 1 x1)) ∧ (¬ x1 = 0 → K (some (.int (nI 1))) (upI (upI (upI w 41 0 (nI 0)) 41 3 (-1)) 41 1 x1))) : fX11_isRefused [.ref 41, .int x1] w K := eX11_isRefused (Nat.le_of_ble_eq_true rfl) rfl (r_aload (aX11_isRefused_0 _) rfl (r_pushI (aX11_isRefused_1 _) (r_putI (aX11_isRefused_2 _) rfl (r_aload (aX11_isRefused_5 _) rfl (r_pushI (aX11_isRefused_6 _) (r_putI (aX11_isRefused_7 _) rfl (r_aload (aX11_isRefused_10 _) rfl (r_iload (aX11_isRefused_11 _) rfl (r_putI (aX11_isRefused_12 _) rfl (r_iload (aX11_isRefused_15 _) rfl (r_if_eq (aX11_isRefused_16 _) (fun z13 => r_pushI (aX11_isRefused_23 _) (r_zret (aX11_isRefused_24 _) (Or.inl rfl) ((h.1 z13)))) (fun z13 => r_pushI (aX11_isRefused_19 _) (r_goto (aX11_isRefused_20 _) (r_zret (aX11_isRefused_24 _) (Or.inr rfl) ((h.2 z13))))))))))))))))
set_option maxRecDepth 4000 in
theorem tX10_hasText_0  {w : Wd} {K : Kt} (h : ((w.1 13 4) ≤ 0 → K (some (.int (nI 0))) w) ∧ (¬ ((w.1 13 4) ≤ 0) → K (some (.int (nI 1))) w)) : fX10_hasText [.ref 0] w K := eX10_hasText (Nat.le_of_ble_eq_true rfl) rfl (r_aload (aX10_hasText_0 _) rfl (r_get (aX10_hasText_1 _) rfl (r_get (aX10_hasText_4 _) rfl (r_if_le (aX10_hasText_7 _) (fun z14 => r_pushI (aX10_hasText_14 _) (r_zret (aX10_hasText_15 _) (Or.inl rfl) ((h.1 z14)))) (fun z14 => r_pushI (aX10_hasText_10 _) (r_goto (aX10_hasText_11 _) (r_zret (aX10_hasText_15 _) (Or.inr rfl) ((h.2 z14)))))))))
set_option maxRecDepth 4000 in
theorem tX10_hasOuting_0 {x1 : Int32} {x2 : Int32} {w : Wd} {K : Kt} (h : (¬ ((nI 0) ≤ x1 ∧ x1 ≤ ((w.1 13 4) - (nI 1))) → K (some (.int (nI 0))) w) ∧ (((nI 0) ≤ x1 ∧ x1 ≤ ((w.1 13 4) - (nI 1))) → vp_in x1 20 ∧ ((¬ ((nI 0) ≤ x2 ∧ x2 ≤ ((rd w 22 x1) - (nI 1))) → K (some (.int (nI 0))) w) ∧ (((nI 0) ≤ x2 ∧ x2 ≤ ((rd w 22 x1) - (nI 1))) → K (some (.int (nI 1))) w)))) : fX10_hasOuting [.ref 0, .int x1, .int x2] w K := eX10_hasOuting (Nat.le_of_ble_eq_true rfl) rfl (r_aload (aX10_hasOuting_0 _) rfl (r_iload (aX10_hasOuting_1 _) rfl (r_callV1 (aX10_hasOuting_2 _) nX10_hasGame rfl (eX10_hasGame (Nat.le_of_ble_eq_true rfl) rfl (r_iload (aX10_hasGame_0 _) rfl (r_pushI (aX10_hasGame_1 _) (r_aload (aX10_hasGame_2 _) rfl (r_get (aX10_hasGame_3 _) rfl (r_get (aX10_hasGame_6 _) rfl (r_pushI (aX10_hasGame_9 _) (r_isub (aX10_hasGame_10 _) (r_callS3 (aX10_hasGame_11 _) nX10_within rfl (sp_within (r_zret (aX10_hasGame_14 _) (bI_01 _) (r_if_eq (aX10_hasOuting_5 _) (fun z15 => r_pushI (aX10_hasOuting_31 _) (r_zret (aX10_hasOuting_32 _) (Or.inl rfl) ((h.1 (bI_z z15))))) (fun z15 => r_iload (aX10_hasOuting_8 _) rfl (r_pushI (aX10_hasOuting_9 _) (r_aload (aX10_hasOuting_10 _) rfl (r_get (aX10_hasOuting_11 _) rfl (r_get (aX10_hasOuting_14 _) rfl (r_iload (aX10_hasOuting_17 _) rfl (have v16 := (h.2 (bI_o z15)).1; r_iald (aX10_hasOuting_18 _) rfl v16 (r_pushI (aX10_hasOuting_19 _) (r_isub (aX10_hasOuting_20 _) (r_callS3 (aX10_hasOuting_21 _) nX10_within rfl (sp_within (r_if_eq (aX10_hasOuting_24 _) (fun z17 => r_pushI (aX10_hasOuting_31 _) (r_zret (aX10_hasOuting_32 _) (Or.inl rfl) ((((h.2 (bI_o z15)).2).1 (bI_z z17))))) (fun z17 => r_pushI (aX10_hasOuting_27 _) (r_goto (aX10_hasOuting_28 _) (r_zret (aX10_hasOuting_32 _) (Or.inr rfl) ((((h.2 (bI_o z15)).2).2 (bI_o z17)))))))))))))))))))))))))))))))))
set_option maxRecDepth 4000 in
theorem tX11_above_0 {x1 : Int32} {x2 : Int32} {w : Wd} {K : Kt} (h : vp_in ((nI 30) + x1) 256 ∧ ((x2 ≤ (rd w 43 ((nI 30) + x1)) → K (some (.int (nI 0))) w) ∧ (¬ (x2 ≤ (rd w 43 ((nI 30) + x1))) → K (some (.int (x2 - (rd w 43 ((nI 30) + x1))))) w))) : fX11_above [.ref 41, .int x1, .int x2] w K := eX11_above (Nat.le_of_ble_eq_true rfl) rfl (r_iload (aX11_above_0 _) rfl (r_aload (aX11_above_1 _) rfl (r_get (aX11_above_2 _) rfl (r_pushI (aX11_above_5 _) (r_iload (aX11_above_7 _) rfl (r_iadd (aX11_above_8 _) (have v18 := h.1; r_iald (aX11_above_9 _) rfl v18 (r_icmp_le (aX11_above_10 _) (fun z19 => r_pushI (aX11_above_27 _) (r_iret (aX11_above_28 _) ((h.2.1 z19)))) (fun z19 => r_iload (aX11_above_13 _) rfl (r_aload (aX11_above_14 _) rfl (r_get (aX11_above_15 _) rfl (r_pushI (aX11_above_18 _) (r_iload (aX11_above_20 _) rfl (r_iadd (aX11_above_21 _) (r_iald (aX11_above_22 _) rfl v18 (r_isub (aX11_above_23 _) (r_goto (aX11_above_24 _) (r_iret (aX11_above_28 _) ((h.2.2 z19))))))))))))))))))))
set_option maxRecDepth 4000 in
theorem tX11_see_0 {x1 : Int32} {w : Wd} {K : Kt} (h : ((w.1 41 11) ≤ x1 → K (some (.int ((-1)))) w) ∧ (¬ ((w.1 41 11) ≤ x1) → vp_in x1 800 ∧ K (some (.int (rd w 42 x1))) w)) : fX11_see [.ref 41, .int x1] w K := eX11_see (Nat.le_of_ble_eq_true rfl) rfl (r_iload (aX11_see_0 _) rfl (r_aload (aX11_see_1 _) rfl (r_get (aX11_see_2 _) rfl (r_icmp_ge (aX11_see_5 _) (fun z20 => r_pushI (aX11_see_17 _) (r_iret (aX11_see_18 _) ((h.1 z20)))) (fun z20 => r_aload (aX11_see_8 _) rfl (r_get (aX11_see_9 _) rfl (r_iload (aX11_see_12 _) rfl (have v21 := (h.2 z20).1; r_iald (aX11_see_13 _) rfl v21 (r_goto (aX11_see_14 _) (r_iret (aX11_see_18 _) ((h.2 z20).2)))))))))))
theorem mono_J0_length_8abf5 : MonoF fJ0_length_8abf5 := by
  intro As w K K1 hk h
  unfold fJ0_length_8abf5 at h ⊢
  split at h
  · rename_i x
    revert h
    cases isS x
    · exact id
    · exact hk _ _
  · exact h
theorem mono_J0_charAt_5068e : MonoF fJ0_charAt_5068e := by
  intro As w K K1 hk h
  unfold fJ0_charAt_5068e at h ⊢
  split at h
  · rename_i x i
    revert h
    cases isS x
    · exact id
    · exact fun h => ⟨h.1, hk _ _ h.2⟩
  · exact h
