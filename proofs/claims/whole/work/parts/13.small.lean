/-! the small methods' meanings as one value each -/
theorem sp_isLetter {x0 : Int32} {w : Wd} {K : Kt} (h : K (some (.int (bI (nI 97 ≤ x0 ∧ x0 ≤ nI 122)))) w) : fX8_isLetter [.int x0] w K := by
  refine tX8_isLetter_0 ⟨fun z => ?_, fun z => ⟨fun z2 => ?_, fun z2 => ?_⟩⟩
  · rw [bI_f (fun q => Int32.not_lt.mpr q.1 z)] at h; exact h
  · rw [bI_f (fun q => Int32.not_lt.mpr q.2 z2)] at h; exact h
  · rw [bI_t ⟨Int32.not_lt.mp z, Int32.not_lt.mp z2⟩] at h; exact h
theorem sp_isDigit {x0 : Int32} {w : Wd} {K : Kt} (h : K (some (.int (bI (nI 48 ≤ x0 ∧ x0 ≤ nI 57)))) w) : fX8_isDigit [.int x0] w K := by
  refine tX8_isDigit_0 ⟨fun z => ?_, fun z => ⟨fun z2 => ?_, fun z2 => ?_⟩⟩
  · rw [bI_f (fun q => Int32.not_lt.mpr q.1 z)] at h; exact h
  · rw [bI_f (fun q => Int32.not_lt.mpr q.2 z2)] at h; exact h
  · rw [bI_t ⟨Int32.not_lt.mp z, Int32.not_lt.mp z2⟩] at h; exact h
theorem sp_lesser {x0 x1 : Int32} {w : Wd} {K : Kt} (h : K (some (.int (leI x0 x1))) w) : fX11_lesser [.int x0, .int x1] w K := by
  refine tX11_lesser_0 ⟨fun z => ?_, fun z => ?_⟩
  · rw [leI, if_pos z] at h; exact h
  · rw [leI, if_neg z] at h; exact h
theorem sp_unless {x0 : Int32} {w : Wd} {K : Kt} (h : K (some (.int (unI x0))) w) : fX11_unless [.int x0] w K := by
  refine tX11_unless_0 ⟨fun z => ?_, fun z => ?_⟩
  · rw [unI, if_pos z] at h; exact h
  · rw [unI, if_neg z] at h; exact h
theorem sp_unless2 {x0 x1 : Int32} {w : Wd} {K : Kt} (h : K (some (.int (un2 x0 x1))) w) : fX11_unless_ [.int x0, .int x1] w K := by
  refine tX11_unless__0 ⟨fun z => ⟨fun z2 => ?_, fun z2 => ?_⟩, fun z => ?_⟩
  · rw [un2, if_neg z, if_pos z2] at h; exact h
  · rw [un2, if_neg z, if_neg z2] at h; exact h
  · rw [un2, if_pos z] at h; exact h
theorem sp_isRefused {x1 : Int32} {w : Wd} {K : Kt} (h : K (some (.int (neI x1))) (rfs w x1)) : fX11_isRefused [.ref 41, .int x1] w K := by
  refine tX11_isRefused_0 ⟨fun z => ?_, fun z => ?_⟩
  · rw [neI, if_pos z] at h; exact h
  · rw [neI, if_neg z] at h; exact h
theorem sp_hasText {w : Wd} {K : Kt} (h : K (some (.int (bI (0 < w.1 13 4)))) w) : fX10_hasText [.ref 0] w K := by
  refine tX10_hasText_0 ⟨fun z => ?_, fun z => ?_⟩
  · rw [bI_f (Int32.not_lt.mpr z)] at h; exact h
  · rw [bI_t (Int32.not_le.mp z)] at h; exact h
theorem sp_hasOuting {x1 x2 : Int32} {w : Wd} {K : Kt} (hv : nI 0 ≤ x1 ∧ x1 ≤ w.1 13 4 - nI 1 → vp_in x1 20) (h : K (some (.int (bI ((nI 0 ≤ x1 ∧ x1 ≤ w.1 13 4 - nI 1) ∧ nI 0 ≤ x2 ∧ x2 ≤ rd w 22 x1 - nI 1)))) w) : fX10_hasOuting [.ref 0, .int x1, .int x2] w K := by
  refine tX10_hasOuting_0 ⟨fun z => ?_, fun z => ⟨hv z, fun z2 => ?_, fun z2 => ?_⟩⟩
  · rw [bI_f (fun q => z q.1)] at h; exact h
  · rw [bI_f (fun q => z2 q.2)] at h; exact h
  · rw [bI_t ⟨z, z2⟩] at h; exact h
theorem sp_above {x1 x2 : Int32} {w : Wd} {K : Kt} (hv : vp_in (nI 30 + x1) 256) (h : K (some (.int (abI (rd w 43 (nI 30 + x1)) x2))) w) : fX11_above [.ref 41, .int x1, .int x2] w K := by
  refine tX11_above_0 ⟨hv, fun z => ?_, fun z => ?_⟩
  · rw [abI, if_pos z] at h; exact h
  · rw [abI, if_neg z] at h; exact h
theorem sp_see {x1 : Int32} {w : Wd} {K : Kt} (hv : x1 < w.1 41 11 → vp_in x1 800) (h : K (some (.int (seI w x1))) w) : fX11_see [.ref 41, .int x1] w K := by
  refine tX11_see_0 ⟨fun z => ?_, fun z => ⟨hv (Int32.not_le.mp z), ?_⟩⟩
  · rw [seI, if_pos z] at h; exact h
  · rw [seI, if_neg z] at h; exact h
