/-! words -/
def wN : List (List Nat) := [[97, 114, 109], [108, 101, 102, 116], [114, 105, 103, 104, 116], [103, 97, 109, 101], [114, 101, 115, 116], [119, 101, 101, 107], [101, 100, 103, 101], [111, 117, 116]]
def wl (c : Nat) : Nat := (wN.getD (c - 200) []).length
def wb (c i : Nat) : Nat := (wN.getD (c - 200) []).getD i 0
def isW (T : Nat → Nat) (t : Tk) (c : Nat) : Prop := t.1 = 1 ∧ t.2.2 - t.2.1 = wl c ∧ ∀ i, i < wl c → T (t.2.1 + i) = wb c i
theorem chs_w : ∀ c, c < 8 → ∀ i, i < 5 → chS (200 + c) (nI i) = nI (wb (200 + c) i) := by decide
theorem wb_lt : ∀ c, c < 8 → ∀ i, i < 5 → wb (200 + c) i < 128 := by decide
theorem gk_1 : ∀ k, k < 5 → (gk k = 2 ↔ k = 1) := by decide
theorem gk_lt : ∀ k, k < 5 → gk k < 60 := by decide
section WORDS
variable {w : Wd} {K : Kt} {T : Nat → Nat} {t : Tk}
theorem c_isWord_arm (hT : ∀ j, T j < 256) (hb : BYc w T) (hk : TkC w T t) (hle : t.2.1 ≤ t.2.2) (h8 : t.2.2 ≤ 800) (h4 : t.1 ≤ 4) (h : ∀ v, isB v (isW T t 200) → K (some (.int v)) w) : fX8_isWord [.ref 1, .ref 200] w K := by
  obtain ⟨a3, a4, a5, -, -⟩ := hk
  have wL : wl 200 = 3 := rfl
  have M : ∀ (m i : Nat), i + m = 3 → t.2.2 = t.2.1 + 3 → t.1 = 1 → (∀ j, j < i → T (t.2.1 + j) = wb 200 j) → RR (tl K lX8_isWord) 28 [.ref 1, .ref 200, .int (nI i)] [] w := by
    intro m
    induction m with
    | zero =>
      intro i hi he h1 hj
      refine tX8_isWord_28_arm ⟨fun _ => h _ (Or.inl ⟨rfl, h1, by omega, fun j hj2 => hj j (by omega)⟩), fun q => absurd ?_ q⟩
      rw [a3, a5, nI_add, le_N (by omega) (by omega)]; omega
    | succ m ih =>
      intro i hi he h1 hj
      have f : rd w 2 (nI (t.2.1 + i)) = sg (T (t.2.1 + i)) := by rw [rd_N (by omega)]; exact hb _ (by omega)
      have e : chS 200 (nI i) = nI (wb 200 i) := chs_w 0 (by decide) i (by omega)
      have el : wb 200 i < 128 := wb_lt 0 (by decide) i (by omega)
      refine tX8_isWord_28_arm ⟨fun q => absurd q (by rw [a3, a5, nI_add, le_N (by omega) (by omega)]; omega), fun _ => ?_⟩
      rw [a5, nI_add t.2.1 i, f, e, sg_eq (hT _) el, nI_add i 1]
      refine ⟨vp_in_nI (by omega) (by decide), vp_in_nI (by omega) (by decide), fun q => ih (i + 1) (by omega) he h1 (fun j hj2 => ?_), fun q => h _ (Or.inr ⟨rfl, fun z => q (z.2.2 i (by omega))⟩)⟩
      by_cases c : j = i
      · rw [c]; exact q
      · exact hj j (by omega)
  refine tX8_isWord_0_arm ?_
  rw [a3, a4, a5, sub_N hle, show nI (sLen.getD (200 - 200) 0) = nI 3 from rfl, eq_N (by omega) (by omega), eq_N (by omega) (by omega)]
  exact ⟨fun q => h _ (Or.inr ⟨rfl, fun z => q z.1⟩), fun q => ⟨fun q2 => M 3 0 (by omega) (by omega) q (fun j hj => by omega), fun q2 => h _ (Or.inr ⟨rfl, fun z => q2 (by have := z.2.1; omega)⟩)⟩⟩
theorem g_isWord_arm (hT : ∀ j, T j < 256) (hb : BYg w T) (hk : TkG w T t) (hle : t.2.1 ≤ t.2.2) (h8 : t.2.2 ≤ 800) (h4 : t.1 ≤ 4) (h : ∀ v, isB v (isW T t 200) → K (some (.int v)) w) : fX11_isWord [.ref 41, .ref 200] w K := by
  obtain ⟨a3, a4, a5, -⟩ := hk
  have wL : wl 200 = 3 := rfl
  have M : ∀ (m i : Nat), i + m = 3 → t.2.2 = t.2.1 + 3 → t.1 = 1 → (∀ j, j < i → T (t.2.1 + j) = wb 200 j) → RR (tl K lX11_isWord) 28 [.ref 41, .ref 200, .int (nI i)] [] w := by
    intro m
    induction m with
    | zero =>
      intro i hi he h1 hj
      refine tX11_isWord_28_arm ⟨fun _ => h _ (Or.inl ⟨rfl, h1, by omega, fun j hj2 => hj j (by omega)⟩), fun q => absurd ?_ q⟩
      show nI 3 ≤ nI i
      rw [le_N (by omega) (by omega)]; omega
    | succ m ih =>
      intro i hi he h1 hj
      have f : rd w 42 (nI (t.2.1 + i)) = nI (T (t.2.1 + i)) := by rw [rd_N (by omega)]; exact hb _ (by omega)
      have e : chS 200 (nI i) = nI (wb 200 i) := chs_w 0 (by decide) i (by omega)
      have el : wb 200 i < 128 := wb_lt 0 (by decide) i (by omega)
      have tl1 := hT (t.2.1 + i)
      refine tX11_isWord_28_arm ⟨fun q => absurd (show nI 3 ≤ nI i from q) (by rw [le_N (by omega) (by omega)]; omega), fun _ => ?_⟩
      rw [a5, nI_add t.2.1 i, f, e, eq_N (by omega) (by omega), nI_add i 1]
      refine ⟨vp_in_nI (by omega) (by decide), vp_in_nI (by omega) (by decide), fun q => ih (i + 1) (by omega) he h1 (fun j hj2 => ?_), fun q => h _ (Or.inr ⟨rfl, fun z => q (z.2.2 i (by omega))⟩)⟩
      by_cases c : j = i
      · rw [c]; exact q
      · exact hj j (by omega)
  have g1 := gk_1 t.1 (by omega)
  have g2 := gk_lt t.1 (by omega)
  refine tX11_isWord_0_arm ?_
  rw [a3, a4, a5, sub_N hle, show nI (sLen.getD (200 - 200) 0) = nI 3 from rfl, eq_N (show gk t.1 < 2147483648 by omega) (by omega), g1, eq_N (by omega) (by omega)]
  exact ⟨fun q => h _ (Or.inr ⟨rfl, fun z => q z.1⟩), fun q => ⟨fun q2 => M 3 0 (by omega) (by omega) q (fun j hj => by omega), fun q2 => h _ (Or.inr ⟨rfl, fun z => q2 (by have := z.2.1; omega)⟩)⟩⟩
theorem c_isWord_left (hT : ∀ j, T j < 256) (hb : BYc w T) (hk : TkC w T t) (hle : t.2.1 ≤ t.2.2) (h8 : t.2.2 ≤ 800) (h4 : t.1 ≤ 4) (h : ∀ v, isB v (isW T t 201) → K (some (.int v)) w) : fX8_isWord [.ref 1, .ref 201] w K := by
  obtain ⟨a3, a4, a5, -, -⟩ := hk
  have wL : wl 201 = 4 := rfl
  have M : ∀ (m i : Nat), i + m = 4 → t.2.2 = t.2.1 + 4 → t.1 = 1 → (∀ j, j < i → T (t.2.1 + j) = wb 201 j) → RR (tl K lX8_isWord) 28 [.ref 1, .ref 201, .int (nI i)] [] w := by
    intro m
    induction m with
    | zero =>
      intro i hi he h1 hj
      refine tX8_isWord_28_left ⟨fun _ => h _ (Or.inl ⟨rfl, h1, by omega, fun j hj2 => hj j (by omega)⟩), fun q => absurd ?_ q⟩
      rw [a3, a5, nI_add, le_N (by omega) (by omega)]; omega
    | succ m ih =>
      intro i hi he h1 hj
      have f : rd w 2 (nI (t.2.1 + i)) = sg (T (t.2.1 + i)) := by rw [rd_N (by omega)]; exact hb _ (by omega)
      have e : chS 201 (nI i) = nI (wb 201 i) := chs_w 1 (by decide) i (by omega)
      have el : wb 201 i < 128 := wb_lt 1 (by decide) i (by omega)
      refine tX8_isWord_28_left ⟨fun q => absurd q (by rw [a3, a5, nI_add, le_N (by omega) (by omega)]; omega), fun _ => ?_⟩
      rw [a5, nI_add t.2.1 i, f, e, sg_eq (hT _) el, nI_add i 1]
      refine ⟨vp_in_nI (by omega) (by decide), vp_in_nI (by omega) (by decide), fun q => ih (i + 1) (by omega) he h1 (fun j hj2 => ?_), fun q => h _ (Or.inr ⟨rfl, fun z => q (z.2.2 i (by omega))⟩)⟩
      by_cases c : j = i
      · rw [c]; exact q
      · exact hj j (by omega)
  refine tX8_isWord_0_left ?_
  rw [a3, a4, a5, sub_N hle, show nI (sLen.getD (201 - 200) 0) = nI 4 from rfl, eq_N (by omega) (by omega), eq_N (by omega) (by omega)]
  exact ⟨fun q => h _ (Or.inr ⟨rfl, fun z => q z.1⟩), fun q => ⟨fun q2 => M 4 0 (by omega) (by omega) q (fun j hj => by omega), fun q2 => h _ (Or.inr ⟨rfl, fun z => q2 (by have := z.2.1; omega)⟩)⟩⟩
theorem g_isWord_left (hT : ∀ j, T j < 256) (hb : BYg w T) (hk : TkG w T t) (hle : t.2.1 ≤ t.2.2) (h8 : t.2.2 ≤ 800) (h4 : t.1 ≤ 4) (h : ∀ v, isB v (isW T t 201) → K (some (.int v)) w) : fX11_isWord [.ref 41, .ref 201] w K := by
  obtain ⟨a3, a4, a5, -⟩ := hk
  have wL : wl 201 = 4 := rfl
  have M : ∀ (m i : Nat), i + m = 4 → t.2.2 = t.2.1 + 4 → t.1 = 1 → (∀ j, j < i → T (t.2.1 + j) = wb 201 j) → RR (tl K lX11_isWord) 28 [.ref 41, .ref 201, .int (nI i)] [] w := by
    intro m
    induction m with
    | zero =>
      intro i hi he h1 hj
      refine tX11_isWord_28_left ⟨fun _ => h _ (Or.inl ⟨rfl, h1, by omega, fun j hj2 => hj j (by omega)⟩), fun q => absurd ?_ q⟩
      show nI 4 ≤ nI i
      rw [le_N (by omega) (by omega)]; omega
    | succ m ih =>
      intro i hi he h1 hj
      have f : rd w 42 (nI (t.2.1 + i)) = nI (T (t.2.1 + i)) := by rw [rd_N (by omega)]; exact hb _ (by omega)
      have e : chS 201 (nI i) = nI (wb 201 i) := chs_w 1 (by decide) i (by omega)
      have el : wb 201 i < 128 := wb_lt 1 (by decide) i (by omega)
      have tl1 := hT (t.2.1 + i)
      refine tX11_isWord_28_left ⟨fun q => absurd (show nI 4 ≤ nI i from q) (by rw [le_N (by omega) (by omega)]; omega), fun _ => ?_⟩
      rw [a5, nI_add t.2.1 i, f, e, eq_N (by omega) (by omega), nI_add i 1]
      refine ⟨vp_in_nI (by omega) (by decide), vp_in_nI (by omega) (by decide), fun q => ih (i + 1) (by omega) he h1 (fun j hj2 => ?_), fun q => h _ (Or.inr ⟨rfl, fun z => q (z.2.2 i (by omega))⟩)⟩
      by_cases c : j = i
      · rw [c]; exact q
      · exact hj j (by omega)
  have g1 := gk_1 t.1 (by omega)
  have g2 := gk_lt t.1 (by omega)
  refine tX11_isWord_0_left ?_
  rw [a3, a4, a5, sub_N hle, show nI (sLen.getD (201 - 200) 0) = nI 4 from rfl, eq_N (show gk t.1 < 2147483648 by omega) (by omega), g1, eq_N (by omega) (by omega)]
  exact ⟨fun q => h _ (Or.inr ⟨rfl, fun z => q z.1⟩), fun q => ⟨fun q2 => M 4 0 (by omega) (by omega) q (fun j hj => by omega), fun q2 => h _ (Or.inr ⟨rfl, fun z => q2 (by have := z.2.1; omega)⟩)⟩⟩
theorem c_isWord_right (hT : ∀ j, T j < 256) (hb : BYc w T) (hk : TkC w T t) (hle : t.2.1 ≤ t.2.2) (h8 : t.2.2 ≤ 800) (h4 : t.1 ≤ 4) (h : ∀ v, isB v (isW T t 202) → K (some (.int v)) w) : fX8_isWord [.ref 1, .ref 202] w K := by
  obtain ⟨a3, a4, a5, -, -⟩ := hk
  have wL : wl 202 = 5 := rfl
  have M : ∀ (m i : Nat), i + m = 5 → t.2.2 = t.2.1 + 5 → t.1 = 1 → (∀ j, j < i → T (t.2.1 + j) = wb 202 j) → RR (tl K lX8_isWord) 28 [.ref 1, .ref 202, .int (nI i)] [] w := by
    intro m
    induction m with
    | zero =>
      intro i hi he h1 hj
      refine tX8_isWord_28_right ⟨fun _ => h _ (Or.inl ⟨rfl, h1, by omega, fun j hj2 => hj j (by omega)⟩), fun q => absurd ?_ q⟩
      rw [a3, a5, nI_add, le_N (by omega) (by omega)]; omega
    | succ m ih =>
      intro i hi he h1 hj
      have f : rd w 2 (nI (t.2.1 + i)) = sg (T (t.2.1 + i)) := by rw [rd_N (by omega)]; exact hb _ (by omega)
      have e : chS 202 (nI i) = nI (wb 202 i) := chs_w 2 (by decide) i (by omega)
      have el : wb 202 i < 128 := wb_lt 2 (by decide) i (by omega)
      refine tX8_isWord_28_right ⟨fun q => absurd q (by rw [a3, a5, nI_add, le_N (by omega) (by omega)]; omega), fun _ => ?_⟩
      rw [a5, nI_add t.2.1 i, f, e, sg_eq (hT _) el, nI_add i 1]
      refine ⟨vp_in_nI (by omega) (by decide), vp_in_nI (by omega) (by decide), fun q => ih (i + 1) (by omega) he h1 (fun j hj2 => ?_), fun q => h _ (Or.inr ⟨rfl, fun z => q (z.2.2 i (by omega))⟩)⟩
      by_cases c : j = i
      · rw [c]; exact q
      · exact hj j (by omega)
  refine tX8_isWord_0_right ?_
  rw [a3, a4, a5, sub_N hle, show nI (sLen.getD (202 - 200) 0) = nI 5 from rfl, eq_N (by omega) (by omega), eq_N (by omega) (by omega)]
  exact ⟨fun q => h _ (Or.inr ⟨rfl, fun z => q z.1⟩), fun q => ⟨fun q2 => M 5 0 (by omega) (by omega) q (fun j hj => by omega), fun q2 => h _ (Or.inr ⟨rfl, fun z => q2 (by have := z.2.1; omega)⟩)⟩⟩
theorem g_isWord_right (hT : ∀ j, T j < 256) (hb : BYg w T) (hk : TkG w T t) (hle : t.2.1 ≤ t.2.2) (h8 : t.2.2 ≤ 800) (h4 : t.1 ≤ 4) (h : ∀ v, isB v (isW T t 202) → K (some (.int v)) w) : fX11_isWord [.ref 41, .ref 202] w K := by
  obtain ⟨a3, a4, a5, -⟩ := hk
  have wL : wl 202 = 5 := rfl
  have M : ∀ (m i : Nat), i + m = 5 → t.2.2 = t.2.1 + 5 → t.1 = 1 → (∀ j, j < i → T (t.2.1 + j) = wb 202 j) → RR (tl K lX11_isWord) 28 [.ref 41, .ref 202, .int (nI i)] [] w := by
    intro m
    induction m with
    | zero =>
      intro i hi he h1 hj
      refine tX11_isWord_28_right ⟨fun _ => h _ (Or.inl ⟨rfl, h1, by omega, fun j hj2 => hj j (by omega)⟩), fun q => absurd ?_ q⟩
      show nI 5 ≤ nI i
      rw [le_N (by omega) (by omega)]; omega
    | succ m ih =>
      intro i hi he h1 hj
      have f : rd w 42 (nI (t.2.1 + i)) = nI (T (t.2.1 + i)) := by rw [rd_N (by omega)]; exact hb _ (by omega)
      have e : chS 202 (nI i) = nI (wb 202 i) := chs_w 2 (by decide) i (by omega)
      have el : wb 202 i < 128 := wb_lt 2 (by decide) i (by omega)
      have tl1 := hT (t.2.1 + i)
      refine tX11_isWord_28_right ⟨fun q => absurd (show nI 5 ≤ nI i from q) (by rw [le_N (by omega) (by omega)]; omega), fun _ => ?_⟩
      rw [a5, nI_add t.2.1 i, f, e, eq_N (by omega) (by omega), nI_add i 1]
      refine ⟨vp_in_nI (by omega) (by decide), vp_in_nI (by omega) (by decide), fun q => ih (i + 1) (by omega) he h1 (fun j hj2 => ?_), fun q => h _ (Or.inr ⟨rfl, fun z => q (z.2.2 i (by omega))⟩)⟩
      by_cases c : j = i
      · rw [c]; exact q
      · exact hj j (by omega)
  have g1 := gk_1 t.1 (by omega)
  have g2 := gk_lt t.1 (by omega)
  refine tX11_isWord_0_right ?_
  rw [a3, a4, a5, sub_N hle, show nI (sLen.getD (202 - 200) 0) = nI 5 from rfl, eq_N (show gk t.1 < 2147483648 by omega) (by omega), g1, eq_N (by omega) (by omega)]
  exact ⟨fun q => h _ (Or.inr ⟨rfl, fun z => q z.1⟩), fun q => ⟨fun q2 => M 5 0 (by omega) (by omega) q (fun j hj => by omega), fun q2 => h _ (Or.inr ⟨rfl, fun z => q2 (by have := z.2.1; omega)⟩)⟩⟩
theorem c_isWord_game (hT : ∀ j, T j < 256) (hb : BYc w T) (hk : TkC w T t) (hle : t.2.1 ≤ t.2.2) (h8 : t.2.2 ≤ 800) (h4 : t.1 ≤ 4) (h : ∀ v, isB v (isW T t 203) → K (some (.int v)) w) : fX8_isWord [.ref 1, .ref 203] w K := by
  obtain ⟨a3, a4, a5, -, -⟩ := hk
  have wL : wl 203 = 4 := rfl
  have M : ∀ (m i : Nat), i + m = 4 → t.2.2 = t.2.1 + 4 → t.1 = 1 → (∀ j, j < i → T (t.2.1 + j) = wb 203 j) → RR (tl K lX8_isWord) 28 [.ref 1, .ref 203, .int (nI i)] [] w := by
    intro m
    induction m with
    | zero =>
      intro i hi he h1 hj
      refine tX8_isWord_28_game ⟨fun _ => h _ (Or.inl ⟨rfl, h1, by omega, fun j hj2 => hj j (by omega)⟩), fun q => absurd ?_ q⟩
      rw [a3, a5, nI_add, le_N (by omega) (by omega)]; omega
    | succ m ih =>
      intro i hi he h1 hj
      have f : rd w 2 (nI (t.2.1 + i)) = sg (T (t.2.1 + i)) := by rw [rd_N (by omega)]; exact hb _ (by omega)
      have e : chS 203 (nI i) = nI (wb 203 i) := chs_w 3 (by decide) i (by omega)
      have el : wb 203 i < 128 := wb_lt 3 (by decide) i (by omega)
      refine tX8_isWord_28_game ⟨fun q => absurd q (by rw [a3, a5, nI_add, le_N (by omega) (by omega)]; omega), fun _ => ?_⟩
      rw [a5, nI_add t.2.1 i, f, e, sg_eq (hT _) el, nI_add i 1]
      refine ⟨vp_in_nI (by omega) (by decide), vp_in_nI (by omega) (by decide), fun q => ih (i + 1) (by omega) he h1 (fun j hj2 => ?_), fun q => h _ (Or.inr ⟨rfl, fun z => q (z.2.2 i (by omega))⟩)⟩
      by_cases c : j = i
      · rw [c]; exact q
      · exact hj j (by omega)
  refine tX8_isWord_0_game ?_
  rw [a3, a4, a5, sub_N hle, show nI (sLen.getD (203 - 200) 0) = nI 4 from rfl, eq_N (by omega) (by omega), eq_N (by omega) (by omega)]
  exact ⟨fun q => h _ (Or.inr ⟨rfl, fun z => q z.1⟩), fun q => ⟨fun q2 => M 4 0 (by omega) (by omega) q (fun j hj => by omega), fun q2 => h _ (Or.inr ⟨rfl, fun z => q2 (by have := z.2.1; omega)⟩)⟩⟩
theorem g_isWord_game (hT : ∀ j, T j < 256) (hb : BYg w T) (hk : TkG w T t) (hle : t.2.1 ≤ t.2.2) (h8 : t.2.2 ≤ 800) (h4 : t.1 ≤ 4) (h : ∀ v, isB v (isW T t 203) → K (some (.int v)) w) : fX11_isWord [.ref 41, .ref 203] w K := by
  obtain ⟨a3, a4, a5, -⟩ := hk
  have wL : wl 203 = 4 := rfl
  have M : ∀ (m i : Nat), i + m = 4 → t.2.2 = t.2.1 + 4 → t.1 = 1 → (∀ j, j < i → T (t.2.1 + j) = wb 203 j) → RR (tl K lX11_isWord) 28 [.ref 41, .ref 203, .int (nI i)] [] w := by
    intro m
    induction m with
    | zero =>
      intro i hi he h1 hj
      refine tX11_isWord_28_game ⟨fun _ => h _ (Or.inl ⟨rfl, h1, by omega, fun j hj2 => hj j (by omega)⟩), fun q => absurd ?_ q⟩
      show nI 4 ≤ nI i
      rw [le_N (by omega) (by omega)]; omega
    | succ m ih =>
      intro i hi he h1 hj
      have f : rd w 42 (nI (t.2.1 + i)) = nI (T (t.2.1 + i)) := by rw [rd_N (by omega)]; exact hb _ (by omega)
      have e : chS 203 (nI i) = nI (wb 203 i) := chs_w 3 (by decide) i (by omega)
      have el : wb 203 i < 128 := wb_lt 3 (by decide) i (by omega)
      have tl1 := hT (t.2.1 + i)
      refine tX11_isWord_28_game ⟨fun q => absurd (show nI 4 ≤ nI i from q) (by rw [le_N (by omega) (by omega)]; omega), fun _ => ?_⟩
      rw [a5, nI_add t.2.1 i, f, e, eq_N (by omega) (by omega), nI_add i 1]
      refine ⟨vp_in_nI (by omega) (by decide), vp_in_nI (by omega) (by decide), fun q => ih (i + 1) (by omega) he h1 (fun j hj2 => ?_), fun q => h _ (Or.inr ⟨rfl, fun z => q (z.2.2 i (by omega))⟩)⟩
      by_cases c : j = i
      · rw [c]; exact q
      · exact hj j (by omega)
  have g1 := gk_1 t.1 (by omega)
  have g2 := gk_lt t.1 (by omega)
  refine tX11_isWord_0_game ?_
  rw [a3, a4, a5, sub_N hle, show nI (sLen.getD (203 - 200) 0) = nI 4 from rfl, eq_N (show gk t.1 < 2147483648 by omega) (by omega), g1, eq_N (by omega) (by omega)]
  exact ⟨fun q => h _ (Or.inr ⟨rfl, fun z => q z.1⟩), fun q => ⟨fun q2 => M 4 0 (by omega) (by omega) q (fun j hj => by omega), fun q2 => h _ (Or.inr ⟨rfl, fun z => q2 (by have := z.2.1; omega)⟩)⟩⟩
theorem c_isWord_rest (hT : ∀ j, T j < 256) (hb : BYc w T) (hk : TkC w T t) (hle : t.2.1 ≤ t.2.2) (h8 : t.2.2 ≤ 800) (h4 : t.1 ≤ 4) (h : ∀ v, isB v (isW T t 204) → K (some (.int v)) w) : fX8_isWord [.ref 1, .ref 204] w K := by
  obtain ⟨a3, a4, a5, -, -⟩ := hk
  have wL : wl 204 = 4 := rfl
  have M : ∀ (m i : Nat), i + m = 4 → t.2.2 = t.2.1 + 4 → t.1 = 1 → (∀ j, j < i → T (t.2.1 + j) = wb 204 j) → RR (tl K lX8_isWord) 28 [.ref 1, .ref 204, .int (nI i)] [] w := by
    intro m
    induction m with
    | zero =>
      intro i hi he h1 hj
      refine tX8_isWord_28_rest ⟨fun _ => h _ (Or.inl ⟨rfl, h1, by omega, fun j hj2 => hj j (by omega)⟩), fun q => absurd ?_ q⟩
      rw [a3, a5, nI_add, le_N (by omega) (by omega)]; omega
    | succ m ih =>
      intro i hi he h1 hj
      have f : rd w 2 (nI (t.2.1 + i)) = sg (T (t.2.1 + i)) := by rw [rd_N (by omega)]; exact hb _ (by omega)
      have e : chS 204 (nI i) = nI (wb 204 i) := chs_w 4 (by decide) i (by omega)
      have el : wb 204 i < 128 := wb_lt 4 (by decide) i (by omega)
      refine tX8_isWord_28_rest ⟨fun q => absurd q (by rw [a3, a5, nI_add, le_N (by omega) (by omega)]; omega), fun _ => ?_⟩
      rw [a5, nI_add t.2.1 i, f, e, sg_eq (hT _) el, nI_add i 1]
      refine ⟨vp_in_nI (by omega) (by decide), vp_in_nI (by omega) (by decide), fun q => ih (i + 1) (by omega) he h1 (fun j hj2 => ?_), fun q => h _ (Or.inr ⟨rfl, fun z => q (z.2.2 i (by omega))⟩)⟩
      by_cases c : j = i
      · rw [c]; exact q
      · exact hj j (by omega)
  refine tX8_isWord_0_rest ?_
  rw [a3, a4, a5, sub_N hle, show nI (sLen.getD (204 - 200) 0) = nI 4 from rfl, eq_N (by omega) (by omega), eq_N (by omega) (by omega)]
  exact ⟨fun q => h _ (Or.inr ⟨rfl, fun z => q z.1⟩), fun q => ⟨fun q2 => M 4 0 (by omega) (by omega) q (fun j hj => by omega), fun q2 => h _ (Or.inr ⟨rfl, fun z => q2 (by have := z.2.1; omega)⟩)⟩⟩
theorem g_isWord_rest (hT : ∀ j, T j < 256) (hb : BYg w T) (hk : TkG w T t) (hle : t.2.1 ≤ t.2.2) (h8 : t.2.2 ≤ 800) (h4 : t.1 ≤ 4) (h : ∀ v, isB v (isW T t 204) → K (some (.int v)) w) : fX11_isWord [.ref 41, .ref 204] w K := by
  obtain ⟨a3, a4, a5, -⟩ := hk
  have wL : wl 204 = 4 := rfl
  have M : ∀ (m i : Nat), i + m = 4 → t.2.2 = t.2.1 + 4 → t.1 = 1 → (∀ j, j < i → T (t.2.1 + j) = wb 204 j) → RR (tl K lX11_isWord) 28 [.ref 41, .ref 204, .int (nI i)] [] w := by
    intro m
    induction m with
    | zero =>
      intro i hi he h1 hj
      refine tX11_isWord_28_rest ⟨fun _ => h _ (Or.inl ⟨rfl, h1, by omega, fun j hj2 => hj j (by omega)⟩), fun q => absurd ?_ q⟩
      show nI 4 ≤ nI i
      rw [le_N (by omega) (by omega)]; omega
    | succ m ih =>
      intro i hi he h1 hj
      have f : rd w 42 (nI (t.2.1 + i)) = nI (T (t.2.1 + i)) := by rw [rd_N (by omega)]; exact hb _ (by omega)
      have e : chS 204 (nI i) = nI (wb 204 i) := chs_w 4 (by decide) i (by omega)
      have el : wb 204 i < 128 := wb_lt 4 (by decide) i (by omega)
      have tl1 := hT (t.2.1 + i)
      refine tX11_isWord_28_rest ⟨fun q => absurd (show nI 4 ≤ nI i from q) (by rw [le_N (by omega) (by omega)]; omega), fun _ => ?_⟩
      rw [a5, nI_add t.2.1 i, f, e, eq_N (by omega) (by omega), nI_add i 1]
      refine ⟨vp_in_nI (by omega) (by decide), vp_in_nI (by omega) (by decide), fun q => ih (i + 1) (by omega) he h1 (fun j hj2 => ?_), fun q => h _ (Or.inr ⟨rfl, fun z => q (z.2.2 i (by omega))⟩)⟩
      by_cases c : j = i
      · rw [c]; exact q
      · exact hj j (by omega)
  have g1 := gk_1 t.1 (by omega)
  have g2 := gk_lt t.1 (by omega)
  refine tX11_isWord_0_rest ?_
  rw [a3, a4, a5, sub_N hle, show nI (sLen.getD (204 - 200) 0) = nI 4 from rfl, eq_N (show gk t.1 < 2147483648 by omega) (by omega), g1, eq_N (by omega) (by omega)]
  exact ⟨fun q => h _ (Or.inr ⟨rfl, fun z => q z.1⟩), fun q => ⟨fun q2 => M 4 0 (by omega) (by omega) q (fun j hj => by omega), fun q2 => h _ (Or.inr ⟨rfl, fun z => q2 (by have := z.2.1; omega)⟩)⟩⟩
theorem c_isWord_week (hT : ∀ j, T j < 256) (hb : BYc w T) (hk : TkC w T t) (hle : t.2.1 ≤ t.2.2) (h8 : t.2.2 ≤ 800) (h4 : t.1 ≤ 4) (h : ∀ v, isB v (isW T t 205) → K (some (.int v)) w) : fX8_isWord [.ref 1, .ref 205] w K := by
  obtain ⟨a3, a4, a5, -, -⟩ := hk
  have wL : wl 205 = 4 := rfl
  have M : ∀ (m i : Nat), i + m = 4 → t.2.2 = t.2.1 + 4 → t.1 = 1 → (∀ j, j < i → T (t.2.1 + j) = wb 205 j) → RR (tl K lX8_isWord) 28 [.ref 1, .ref 205, .int (nI i)] [] w := by
    intro m
    induction m with
    | zero =>
      intro i hi he h1 hj
      refine tX8_isWord_28_week ⟨fun _ => h _ (Or.inl ⟨rfl, h1, by omega, fun j hj2 => hj j (by omega)⟩), fun q => absurd ?_ q⟩
      rw [a3, a5, nI_add, le_N (by omega) (by omega)]; omega
    | succ m ih =>
      intro i hi he h1 hj
      have f : rd w 2 (nI (t.2.1 + i)) = sg (T (t.2.1 + i)) := by rw [rd_N (by omega)]; exact hb _ (by omega)
      have e : chS 205 (nI i) = nI (wb 205 i) := chs_w 5 (by decide) i (by omega)
      have el : wb 205 i < 128 := wb_lt 5 (by decide) i (by omega)
      refine tX8_isWord_28_week ⟨fun q => absurd q (by rw [a3, a5, nI_add, le_N (by omega) (by omega)]; omega), fun _ => ?_⟩
      rw [a5, nI_add t.2.1 i, f, e, sg_eq (hT _) el, nI_add i 1]
      refine ⟨vp_in_nI (by omega) (by decide), vp_in_nI (by omega) (by decide), fun q => ih (i + 1) (by omega) he h1 (fun j hj2 => ?_), fun q => h _ (Or.inr ⟨rfl, fun z => q (z.2.2 i (by omega))⟩)⟩
      by_cases c : j = i
      · rw [c]; exact q
      · exact hj j (by omega)
  refine tX8_isWord_0_week ?_
  rw [a3, a4, a5, sub_N hle, show nI (sLen.getD (205 - 200) 0) = nI 4 from rfl, eq_N (by omega) (by omega), eq_N (by omega) (by omega)]
  exact ⟨fun q => h _ (Or.inr ⟨rfl, fun z => q z.1⟩), fun q => ⟨fun q2 => M 4 0 (by omega) (by omega) q (fun j hj => by omega), fun q2 => h _ (Or.inr ⟨rfl, fun z => q2 (by have := z.2.1; omega)⟩)⟩⟩
theorem g_isWord_week (hT : ∀ j, T j < 256) (hb : BYg w T) (hk : TkG w T t) (hle : t.2.1 ≤ t.2.2) (h8 : t.2.2 ≤ 800) (h4 : t.1 ≤ 4) (h : ∀ v, isB v (isW T t 205) → K (some (.int v)) w) : fX11_isWord [.ref 41, .ref 205] w K := by
  obtain ⟨a3, a4, a5, -⟩ := hk
  have wL : wl 205 = 4 := rfl
  have M : ∀ (m i : Nat), i + m = 4 → t.2.2 = t.2.1 + 4 → t.1 = 1 → (∀ j, j < i → T (t.2.1 + j) = wb 205 j) → RR (tl K lX11_isWord) 28 [.ref 41, .ref 205, .int (nI i)] [] w := by
    intro m
    induction m with
    | zero =>
      intro i hi he h1 hj
      refine tX11_isWord_28_week ⟨fun _ => h _ (Or.inl ⟨rfl, h1, by omega, fun j hj2 => hj j (by omega)⟩), fun q => absurd ?_ q⟩
      show nI 4 ≤ nI i
      rw [le_N (by omega) (by omega)]; omega
    | succ m ih =>
      intro i hi he h1 hj
      have f : rd w 42 (nI (t.2.1 + i)) = nI (T (t.2.1 + i)) := by rw [rd_N (by omega)]; exact hb _ (by omega)
      have e : chS 205 (nI i) = nI (wb 205 i) := chs_w 5 (by decide) i (by omega)
      have el : wb 205 i < 128 := wb_lt 5 (by decide) i (by omega)
      have tl1 := hT (t.2.1 + i)
      refine tX11_isWord_28_week ⟨fun q => absurd (show nI 4 ≤ nI i from q) (by rw [le_N (by omega) (by omega)]; omega), fun _ => ?_⟩
      rw [a5, nI_add t.2.1 i, f, e, eq_N (by omega) (by omega), nI_add i 1]
      refine ⟨vp_in_nI (by omega) (by decide), vp_in_nI (by omega) (by decide), fun q => ih (i + 1) (by omega) he h1 (fun j hj2 => ?_), fun q => h _ (Or.inr ⟨rfl, fun z => q (z.2.2 i (by omega))⟩)⟩
      by_cases c : j = i
      · rw [c]; exact q
      · exact hj j (by omega)
  have g1 := gk_1 t.1 (by omega)
  have g2 := gk_lt t.1 (by omega)
  refine tX11_isWord_0_week ?_
  rw [a3, a4, a5, sub_N hle, show nI (sLen.getD (205 - 200) 0) = nI 4 from rfl, eq_N (show gk t.1 < 2147483648 by omega) (by omega), g1, eq_N (by omega) (by omega)]
  exact ⟨fun q => h _ (Or.inr ⟨rfl, fun z => q z.1⟩), fun q => ⟨fun q2 => M 4 0 (by omega) (by omega) q (fun j hj => by omega), fun q2 => h _ (Or.inr ⟨rfl, fun z => q2 (by have := z.2.1; omega)⟩)⟩⟩
theorem c_isWord_edge (hT : ∀ j, T j < 256) (hb : BYc w T) (hk : TkC w T t) (hle : t.2.1 ≤ t.2.2) (h8 : t.2.2 ≤ 800) (h4 : t.1 ≤ 4) (h : ∀ v, isB v (isW T t 206) → K (some (.int v)) w) : fX8_isWord [.ref 1, .ref 206] w K := by
  obtain ⟨a3, a4, a5, -, -⟩ := hk
  have wL : wl 206 = 4 := rfl
  have M : ∀ (m i : Nat), i + m = 4 → t.2.2 = t.2.1 + 4 → t.1 = 1 → (∀ j, j < i → T (t.2.1 + j) = wb 206 j) → RR (tl K lX8_isWord) 28 [.ref 1, .ref 206, .int (nI i)] [] w := by
    intro m
    induction m with
    | zero =>
      intro i hi he h1 hj
      refine tX8_isWord_28_edge ⟨fun _ => h _ (Or.inl ⟨rfl, h1, by omega, fun j hj2 => hj j (by omega)⟩), fun q => absurd ?_ q⟩
      rw [a3, a5, nI_add, le_N (by omega) (by omega)]; omega
    | succ m ih =>
      intro i hi he h1 hj
      have f : rd w 2 (nI (t.2.1 + i)) = sg (T (t.2.1 + i)) := by rw [rd_N (by omega)]; exact hb _ (by omega)
      have e : chS 206 (nI i) = nI (wb 206 i) := chs_w 6 (by decide) i (by omega)
      have el : wb 206 i < 128 := wb_lt 6 (by decide) i (by omega)
      refine tX8_isWord_28_edge ⟨fun q => absurd q (by rw [a3, a5, nI_add, le_N (by omega) (by omega)]; omega), fun _ => ?_⟩
      rw [a5, nI_add t.2.1 i, f, e, sg_eq (hT _) el, nI_add i 1]
      refine ⟨vp_in_nI (by omega) (by decide), vp_in_nI (by omega) (by decide), fun q => ih (i + 1) (by omega) he h1 (fun j hj2 => ?_), fun q => h _ (Or.inr ⟨rfl, fun z => q (z.2.2 i (by omega))⟩)⟩
      by_cases c : j = i
      · rw [c]; exact q
      · exact hj j (by omega)
  refine tX8_isWord_0_edge ?_
  rw [a3, a4, a5, sub_N hle, show nI (sLen.getD (206 - 200) 0) = nI 4 from rfl, eq_N (by omega) (by omega), eq_N (by omega) (by omega)]
  exact ⟨fun q => h _ (Or.inr ⟨rfl, fun z => q z.1⟩), fun q => ⟨fun q2 => M 4 0 (by omega) (by omega) q (fun j hj => by omega), fun q2 => h _ (Or.inr ⟨rfl, fun z => q2 (by have := z.2.1; omega)⟩)⟩⟩
theorem g_isWord_edge (hT : ∀ j, T j < 256) (hb : BYg w T) (hk : TkG w T t) (hle : t.2.1 ≤ t.2.2) (h8 : t.2.2 ≤ 800) (h4 : t.1 ≤ 4) (h : ∀ v, isB v (isW T t 206) → K (some (.int v)) w) : fX11_isWord [.ref 41, .ref 206] w K := by
  obtain ⟨a3, a4, a5, -⟩ := hk
  have wL : wl 206 = 4 := rfl
  have M : ∀ (m i : Nat), i + m = 4 → t.2.2 = t.2.1 + 4 → t.1 = 1 → (∀ j, j < i → T (t.2.1 + j) = wb 206 j) → RR (tl K lX11_isWord) 28 [.ref 41, .ref 206, .int (nI i)] [] w := by
    intro m
    induction m with
    | zero =>
      intro i hi he h1 hj
      refine tX11_isWord_28_edge ⟨fun _ => h _ (Or.inl ⟨rfl, h1, by omega, fun j hj2 => hj j (by omega)⟩), fun q => absurd ?_ q⟩
      show nI 4 ≤ nI i
      rw [le_N (by omega) (by omega)]; omega
    | succ m ih =>
      intro i hi he h1 hj
      have f : rd w 42 (nI (t.2.1 + i)) = nI (T (t.2.1 + i)) := by rw [rd_N (by omega)]; exact hb _ (by omega)
      have e : chS 206 (nI i) = nI (wb 206 i) := chs_w 6 (by decide) i (by omega)
      have el : wb 206 i < 128 := wb_lt 6 (by decide) i (by omega)
      have tl1 := hT (t.2.1 + i)
      refine tX11_isWord_28_edge ⟨fun q => absurd (show nI 4 ≤ nI i from q) (by rw [le_N (by omega) (by omega)]; omega), fun _ => ?_⟩
      rw [a5, nI_add t.2.1 i, f, e, eq_N (by omega) (by omega), nI_add i 1]
      refine ⟨vp_in_nI (by omega) (by decide), vp_in_nI (by omega) (by decide), fun q => ih (i + 1) (by omega) he h1 (fun j hj2 => ?_), fun q => h _ (Or.inr ⟨rfl, fun z => q (z.2.2 i (by omega))⟩)⟩
      by_cases c : j = i
      · rw [c]; exact q
      · exact hj j (by omega)
  have g1 := gk_1 t.1 (by omega)
  have g2 := gk_lt t.1 (by omega)
  refine tX11_isWord_0_edge ?_
  rw [a3, a4, a5, sub_N hle, show nI (sLen.getD (206 - 200) 0) = nI 4 from rfl, eq_N (show gk t.1 < 2147483648 by omega) (by omega), g1, eq_N (by omega) (by omega)]
  exact ⟨fun q => h _ (Or.inr ⟨rfl, fun z => q z.1⟩), fun q => ⟨fun q2 => M 4 0 (by omega) (by omega) q (fun j hj => by omega), fun q2 => h _ (Or.inr ⟨rfl, fun z => q2 (by have := z.2.1; omega)⟩)⟩⟩
theorem c_isWord_out (hT : ∀ j, T j < 256) (hb : BYc w T) (hk : TkC w T t) (hle : t.2.1 ≤ t.2.2) (h8 : t.2.2 ≤ 800) (h4 : t.1 ≤ 4) (h : ∀ v, isB v (isW T t 207) → K (some (.int v)) w) : fX8_isWord [.ref 1, .ref 207] w K := by
  obtain ⟨a3, a4, a5, -, -⟩ := hk
  have wL : wl 207 = 3 := rfl
  have M : ∀ (m i : Nat), i + m = 3 → t.2.2 = t.2.1 + 3 → t.1 = 1 → (∀ j, j < i → T (t.2.1 + j) = wb 207 j) → RR (tl K lX8_isWord) 28 [.ref 1, .ref 207, .int (nI i)] [] w := by
    intro m
    induction m with
    | zero =>
      intro i hi he h1 hj
      refine tX8_isWord_28_out ⟨fun _ => h _ (Or.inl ⟨rfl, h1, by omega, fun j hj2 => hj j (by omega)⟩), fun q => absurd ?_ q⟩
      rw [a3, a5, nI_add, le_N (by omega) (by omega)]; omega
    | succ m ih =>
      intro i hi he h1 hj
      have f : rd w 2 (nI (t.2.1 + i)) = sg (T (t.2.1 + i)) := by rw [rd_N (by omega)]; exact hb _ (by omega)
      have e : chS 207 (nI i) = nI (wb 207 i) := chs_w 7 (by decide) i (by omega)
      have el : wb 207 i < 128 := wb_lt 7 (by decide) i (by omega)
      refine tX8_isWord_28_out ⟨fun q => absurd q (by rw [a3, a5, nI_add, le_N (by omega) (by omega)]; omega), fun _ => ?_⟩
      rw [a5, nI_add t.2.1 i, f, e, sg_eq (hT _) el, nI_add i 1]
      refine ⟨vp_in_nI (by omega) (by decide), vp_in_nI (by omega) (by decide), fun q => ih (i + 1) (by omega) he h1 (fun j hj2 => ?_), fun q => h _ (Or.inr ⟨rfl, fun z => q (z.2.2 i (by omega))⟩)⟩
      by_cases c : j = i
      · rw [c]; exact q
      · exact hj j (by omega)
  refine tX8_isWord_0_out ?_
  rw [a3, a4, a5, sub_N hle, show nI (sLen.getD (207 - 200) 0) = nI 3 from rfl, eq_N (by omega) (by omega), eq_N (by omega) (by omega)]
  exact ⟨fun q => h _ (Or.inr ⟨rfl, fun z => q z.1⟩), fun q => ⟨fun q2 => M 3 0 (by omega) (by omega) q (fun j hj => by omega), fun q2 => h _ (Or.inr ⟨rfl, fun z => q2 (by have := z.2.1; omega)⟩)⟩⟩
theorem g_isWord_out (hT : ∀ j, T j < 256) (hb : BYg w T) (hk : TkG w T t) (hle : t.2.1 ≤ t.2.2) (h8 : t.2.2 ≤ 800) (h4 : t.1 ≤ 4) (h : ∀ v, isB v (isW T t 207) → K (some (.int v)) w) : fX11_isWord [.ref 41, .ref 207] w K := by
  obtain ⟨a3, a4, a5, -⟩ := hk
  have wL : wl 207 = 3 := rfl
  have M : ∀ (m i : Nat), i + m = 3 → t.2.2 = t.2.1 + 3 → t.1 = 1 → (∀ j, j < i → T (t.2.1 + j) = wb 207 j) → RR (tl K lX11_isWord) 28 [.ref 41, .ref 207, .int (nI i)] [] w := by
    intro m
    induction m with
    | zero =>
      intro i hi he h1 hj
      refine tX11_isWord_28_out ⟨fun _ => h _ (Or.inl ⟨rfl, h1, by omega, fun j hj2 => hj j (by omega)⟩), fun q => absurd ?_ q⟩
      show nI 3 ≤ nI i
      rw [le_N (by omega) (by omega)]; omega
    | succ m ih =>
      intro i hi he h1 hj
      have f : rd w 42 (nI (t.2.1 + i)) = nI (T (t.2.1 + i)) := by rw [rd_N (by omega)]; exact hb _ (by omega)
      have e : chS 207 (nI i) = nI (wb 207 i) := chs_w 7 (by decide) i (by omega)
      have el : wb 207 i < 128 := wb_lt 7 (by decide) i (by omega)
      have tl1 := hT (t.2.1 + i)
      refine tX11_isWord_28_out ⟨fun q => absurd (show nI 3 ≤ nI i from q) (by rw [le_N (by omega) (by omega)]; omega), fun _ => ?_⟩
      rw [a5, nI_add t.2.1 i, f, e, eq_N (by omega) (by omega), nI_add i 1]
      refine ⟨vp_in_nI (by omega) (by decide), vp_in_nI (by omega) (by decide), fun q => ih (i + 1) (by omega) he h1 (fun j hj2 => ?_), fun q => h _ (Or.inr ⟨rfl, fun z => q (z.2.2 i (by omega))⟩)⟩
      by_cases c : j = i
      · rw [c]; exact q
      · exact hj j (by omega)
  have g1 := gk_1 t.1 (by omega)
  have g2 := gk_lt t.1 (by omega)
  refine tX11_isWord_0_out ?_
  rw [a3, a4, a5, sub_N hle, show nI (sLen.getD (207 - 200) 0) = nI 3 from rfl, eq_N (show gk t.1 < 2147483648 by omega) (by omega), g1, eq_N (by omega) (by omega)]
  exact ⟨fun q => h _ (Or.inr ⟨rfl, fun z => q z.1⟩), fun q => ⟨fun q2 => M 3 0 (by omega) (by omega) q (fun j hj => by omega), fun q2 => h _ (Or.inr ⟨rfl, fun z => q2 (by have := z.2.1; omega)⟩)⟩⟩
end WORDS
