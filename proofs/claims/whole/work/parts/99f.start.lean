/-! the start: what the Statement gives of it, the first world -/
theorem td1 {w : Cond} (h : w ∈ tables_1_1) : w ∈ lw_tbl := List.mem_append_right _ (List.mem_append_left _ h)
theorem td2 {w : Cond} (h : w ∈ tables_1_2) : w ∈ lw_tbl := List.mem_append_right _ (List.mem_append_right _ (List.mem_append_left _ h))
theorem td3 {w : Cond} (h : w ∈ tables_1_3) : w ∈ lw_tbl := List.mem_append_right _ (List.mem_append_right _ (List.mem_append_right _ (List.mem_append_left _ h)))
theorem td4 {w : Cond} (h : w ∈ tables_1_4) : w ∈ lw_tbl := List.mem_append_right _ (List.mem_append_right _ (List.mem_append_right _ (List.mem_append_right _ (List.mem_append_left _ h))))
theorem td5 {w : Cond} (h : w ∈ tables_1_5) : w ∈ lw_tbl := List.mem_append_right _ (List.mem_append_right _ (List.mem_append_right _ (List.mem_append_right _ (List.mem_append_right _ (List.mem_append_left _ h)))))
theorem td6 {w : Cond} (h : w ∈ tables_1_6) : w ∈ lw_tbl := List.mem_append_right _ (List.mem_append_right _ (List.mem_append_right _ (List.mem_append_right _ (List.mem_append_right _ (List.mem_append_right _ (List.mem_append_left _ h))))))
theorem td7 {w : Cond} (h : w ∈ tables_1_7) : w ∈ lw_tbl := List.mem_append_right _ (List.mem_append_right _ (List.mem_append_right _ (List.mem_append_right _ (List.mem_append_right _ (List.mem_append_right _ (List.mem_append_right _ (List.mem_append_left _ h)))))))
theorem td8 {w : Cond} (h : w ∈ tables_1_8) : w ∈ lw_tbl := List.mem_append_right _ (List.mem_append_right _ (List.mem_append_right _ (List.mem_append_right _ (List.mem_append_right _ (List.mem_append_right _ (List.mem_append_right _ (List.mem_append_right _ (h))))))))
theorem aL {args : Array Value} {s : State} {a b : Cond} (h : (Cond.and a b).before args s = true) : a.before args s = true := by
  rw [Cond.before_and, Bool.and_eq_true] at h
  exact h.1
theorem aR {args : Array Value} {s : State} {a b : Cond} (h : (Cond.and a b).before args s = true) : b.before args s = true := by
  rw [Cond.before_and, Bool.and_eq_true] at h
  exact h.2
theorem vk_S_ad {N : Nat} {len : List Nat} {byt : List (List Int32)} {adK adK2 adV : Nat → Nat} {B : Nat → Prop} {U : State} {H : Heap} (h : vk_S N len byt adK adV B U H) (e : ∀ i, i < N → adK2 i = adK i) : vk_S N len byt adK2 adV B U H := ⟨fun i hi => by rw [e i hi]; exact h.1 i hi, fun i j hi hj q => h.2 i j hi hj (by rw [← e i hi, ← e j hj]; exact q)⟩
section START
variable {s : State} {b : Nat} {A : Nat → Prop}
theorem st_a0 (hts : ∀ w ∈ lw_tbl, w.before #[Value.ref b] s = true) (hgv : (Jvm.Cond.and given_1 narrow_1).before #[Value.ref b] s = true) (hA : ∀ a : Nat, a < s.heap.size → ¬ A a) : ∃ t : Nat, va_Z "ThrowArms" (roN.getD 0 "") "[I" (.ref t) A s s.heap ∧ va_T .int t (roV.getD 0 []).length (fun j => .int ((roV.getD 0 []).getD j 0)) A s s.heap := by
  have hel : ∀ j : Nat, j < 4 → (Term.elem (.static "ThrowArms" "TRAIT_LOW" "[I") (.int (Int32.ofNat j))).eval #[Value.ref b] s none [] s = some (.int ((roV.getD 0 []).getD j 0)) := by
    intro j hj
    match j, hj with
    | 0, _ => exact va_eqt (aL (aL (aR (aR (aL (aL (aL (aL (aR hgv)))))))))
    | 1, _ => exact va_eqt (aL (aR (aL (aR (aR (aL (aL (aL (aL (aR hgv))))))))))
    | 2, _ => exact va_eqt (aR (aR (aL (aR (aR (aL (aL (aL (aL (aR hgv))))))))))
    | 3, _ => exact va_eqt (aL (aR (aR (aR (aL (aL (aL (aL (aR hgv)))))))))
    | z + 4, h => exact absurd h (by omega)
  obtain ⟨t, ht, hT⟩ := va_Tof (args := #[Value.ref b]) (s := s) (tm := .static "ThrowArms" "TRAIT_LOW" "[I") (ty := .int) (N := 4) (f := fun j => .int ((roV.getD 0 []).getD j 0)) (A := A) (by decide) (aL (aR (aR (aL (aR (aL (aL (aL (aL (aR hgv)))))))))) (va_eqt (aR (aR (aR (aL (aR (aL (aL (aL (aL (aR hgv))))))))))) hel hA
  exact ⟨t, va_Zref (hts _ (td3 (List.mem_of_getElem? (i := 67) rfl))) (hts _ (List.mem_filter.mp tw1_1).1) ht hA, hT⟩
theorem st_a1 (hts : ∀ w ∈ lw_tbl, w.before #[Value.ref b] s = true) (hgv : (Jvm.Cond.and given_1 narrow_1).before #[Value.ref b] s = true) (hA : ∀ a : Nat, a < s.heap.size → ¬ A a) : ∃ t : Nat, va_Z "ThrowArms" (roN.getD 1 "") "[I" (.ref t) A s s.heap ∧ va_T .int t (roV.getD 1 []).length (fun j => .int ((roV.getD 1 []).getD j 0)) A s s.heap := by
  have hel : ∀ j : Nat, j < 4 → (Term.elem (.static "ThrowArms" "TRAIT_HIGH" "[I") (.int (Int32.ofNat j))).eval #[Value.ref b] s none [] s = some (.int ((roV.getD 1 []).getD j 0)) := by
    intro j hj
    match j, hj with
    | 0, _ => exact va_eqt (aR (aL (aL (aL (aR (aL (aL (aL (aR hgv)))))))))
    | 1, _ => exact va_eqt (aL (aR (aL (aL (aR (aL (aL (aL (aR hgv)))))))))
    | 2, _ => exact va_eqt (aL (aR (aR (aL (aL (aR (aL (aL (aL (aR hgv))))))))))
    | 3, _ => exact va_eqt (aR (aR (aR (aL (aL (aR (aL (aL (aL (aR hgv))))))))))
    | z + 4, h => exact absurd h (by omega)
  obtain ⟨t, ht, hT⟩ := va_Tof (args := #[Value.ref b]) (s := s) (tm := .static "ThrowArms" "TRAIT_HIGH" "[I") (ty := .int) (N := 4) (f := fun j => .int ((roV.getD 1 []).getD j 0)) (A := A) (by decide) (aR (aR (aR (aR (aR (aL (aL (aL (aL (aR hgv)))))))))) (va_eqt (aL (aL (aL (aL (aR (aL (aL (aL (aR hgv)))))))))) hel hA
  exact ⟨t, va_Zref (hts _ (td3 (List.mem_of_getElem? (i := 77) rfl))) (hts _ (List.mem_filter.mp tw1_1).1) ht hA, hT⟩
theorem st_a2 (hts : ∀ w ∈ lw_tbl, w.before #[Value.ref b] s = true) (hgv : (Jvm.Cond.and given_1 narrow_1).before #[Value.ref b] s = true) (hA : ∀ a : Nat, a < s.heap.size → ¬ A a) : ∃ t : Nat, va_Z "ThrowArms" (roN.getD 2 "") "[I" (.ref t) A s s.heap ∧ va_T .int t (roV.getD 2 []).length (fun j => .int ((roV.getD 2 []).getD j 0)) A s s.heap := by
  have hel : ∀ j : Nat, j < 3 → (Term.elem (.static "ThrowArms" "FACT_LOW" "[I") (.int (Int32.ofNat j))).eval #[Value.ref b] s none [] s = some (.int ((roV.getD 2 []).getD j 0)) := by
    intro j hj
    match j, hj with
    | 0, _ => exact va_eqt (aL (aR (aR (aL (aR (aL (aL (aL (aR hgv)))))))))
    | 1, _ => exact va_eqt (aL (aR (aR (aR (aL (aR (aL (aL (aL (aR hgv))))))))))
    | 2, _ => exact va_eqt (aR (aR (aR (aR (aL (aR (aL (aL (aL (aR hgv))))))))))
    | z + 3, h => exact absurd h (by omega)
  obtain ⟨t, ht, hT⟩ := va_Tof (args := #[Value.ref b]) (s := s) (tm := .static "ThrowArms" "FACT_LOW" "[I") (ty := .int) (N := 3) (f := fun j => .int ((roV.getD 2 []).getD j 0)) (A := A) (by decide) (aL (aR (aL (aR (aL (aR (aL (aL (aL (aR hgv)))))))))) (va_eqt (aR (aR (aL (aR (aL (aR (aL (aL (aL (aR hgv))))))))))) hel hA
  exact ⟨t, va_Zref (hts _ (td3 (List.mem_of_getElem? (i := 96) rfl))) (hts _ (List.mem_filter.mp tw1_1).1) ht hA, hT⟩
theorem st_a3 (hts : ∀ w ∈ lw_tbl, w.before #[Value.ref b] s = true) (hgv : (Jvm.Cond.and given_1 narrow_1).before #[Value.ref b] s = true) (hA : ∀ a : Nat, a < s.heap.size → ¬ A a) : ∃ t : Nat, va_Z "ThrowArms" (roN.getD 3 "") "[I" (.ref t) A s s.heap ∧ va_T .int t (roV.getD 3 []).length (fun j => .int ((roV.getD 3 []).getD j 0)) A s s.heap := by
  have hel : ∀ j : Nat, j < 3 → (Term.elem (.static "ThrowArms" "FACT_HIGH" "[I") (.int (Int32.ofNat j))).eval #[Value.ref b] s none [] s = some (.int ((roV.getD 3 []).getD j 0)) := by
    intro j hj
    match j, hj with
    | 0, _ => exact va_eqt (aL (aR (aL (aR (aR (aL (aL (aL (aR hgv)))))))))
    | 1, _ => exact va_eqt (aL (aR (aR (aL (aR (aR (aL (aL (aL (aR hgv))))))))))
    | 2, _ => exact va_eqt (aR (aR (aR (aL (aR (aR (aL (aL (aL (aR hgv))))))))))
    | z + 3, h => exact absurd h (by omega)
  obtain ⟨t, ht, hT⟩ := va_Tof (args := #[Value.ref b]) (s := s) (tm := .static "ThrowArms" "FACT_HIGH" "[I") (ty := .int) (N := 3) (f := fun j => .int ((roV.getD 3 []).getD j 0)) (A := A) (by decide) (aL (aR (aL (aL (aR (aR (aL (aL (aL (aR hgv)))))))))) (va_eqt (aR (aR (aL (aL (aR (aR (aL (aL (aL (aR hgv))))))))))) hel hA
  exact ⟨t, va_Zref (hts _ (td3 (List.mem_of_getElem? (i := 98) rfl))) (hts _ (List.mem_filter.mp tw1_1).1) ht hA, hT⟩
theorem st_a4 (hts : ∀ w ∈ lw_tbl, w.before #[Value.ref b] s = true) (hgv : (Jvm.Cond.and given_1 narrow_1).before #[Value.ref b] s = true) (hA : ∀ a : Nat, a < s.heap.size → ¬ A a) : ∃ t : Nat, va_Z "ThrowArms" (roN.getD 4 "") "[I" (.ref t) A s s.heap ∧ va_T .int t (roV.getD 4 []).length (fun j => .int ((roV.getD 4 []).getD j 0)) A s s.heap := by
  have hel : ∀ j : Nat, j < 3 → (Term.elem (.static "ThrowArms" "BOUND_LOW" "[I") (.int (Int32.ofNat j))).eval #[Value.ref b] s none [] s = some (.int ((roV.getD 4 []).getD j 0)) := by
    intro j hj
    match j, hj with
    | 0, _ => exact va_eqt (aL (aR (aR (aR (aR (aL (aL (aL (aR hgv)))))))))
    | 1, _ => exact va_eqt (aL (aR (aR (aR (aR (aR (aL (aL (aL (aR hgv))))))))))
    | 2, _ => exact va_eqt (aR (aR (aR (aR (aR (aR (aL (aL (aL (aR hgv))))))))))
    | z + 3, h => exact absurd h (by omega)
  obtain ⟨t, ht, hT⟩ := va_Tof (args := #[Value.ref b]) (s := s) (tm := .static "ThrowArms" "BOUND_LOW" "[I") (ty := .int) (N := 3) (f := fun j => .int ((roV.getD 4 []).getD j 0)) (A := A) (by decide) (aL (aR (aL (aR (aR (aR (aL (aL (aL (aR hgv)))))))))) (va_eqt (aR (aR (aL (aR (aR (aR (aL (aL (aL (aR hgv))))))))))) hel hA
  exact ⟨t, va_Zref (hts _ (td3 (List.mem_of_getElem? (i := 108) rfl))) (hts _ (List.mem_filter.mp tw1_1).1) ht hA, hT⟩
theorem st_a5 (hts : ∀ w ∈ lw_tbl, w.before #[Value.ref b] s = true) (hgv : (Jvm.Cond.and given_1 narrow_1).before #[Value.ref b] s = true) (hA : ∀ a : Nat, a < s.heap.size → ¬ A a) : ∃ t : Nat, va_Z "ThrowArms" (roN.getD 5 "") "[I" (.ref t) A s s.heap ∧ va_T .int t (roV.getD 5 []).length (fun j => .int ((roV.getD 5 []).getD j 0)) A s s.heap := by
  have hel : ∀ j : Nat, j < 3 → (Term.elem (.static "ThrowArms" "BOUND_HIGH" "[I") (.int (Int32.ofNat j))).eval #[Value.ref b] s none [] s = some (.int ((roV.getD 5 []).getD j 0)) := by
    intro j hj
    match j, hj with
    | 0, _ => exact va_eqt (aL (aR (aR (aL (aL (aL (aR (aL (aL (aR hgv))))))))))
    | 1, _ => exact va_eqt (aR (aR (aR (aL (aL (aL (aR (aL (aL (aR hgv))))))))))
    | 2, _ => exact va_eqt (aL (aL (aR (aL (aL (aR (aL (aL (aR hgv)))))))))
    | z + 3, h => exact absurd h (by omega)
  obtain ⟨t, ht, hT⟩ := va_Tof (args := #[Value.ref b]) (s := s) (tm := .static "ThrowArms" "BOUND_HIGH" "[I") (ty := .int) (N := 3) (f := fun j => .int ((roV.getD 5 []).getD j 0)) (A := A) (by decide) (aR (aL (aL (aL (aL (aR (aL (aL (aR hgv))))))))) (va_eqt (aL (aR (aL (aL (aL (aR (aL (aL (aR hgv)))))))))) hel hA
  exact ⟨t, va_Zref (hts _ (td3 (List.mem_of_getElem? (i := 110) rfl))) (hts _ (List.mem_filter.mp tw1_1).1) ht hA, hT⟩
theorem st_a6 (hts : ∀ w ∈ lw_tbl, w.before #[Value.ref b] s = true) (hgv : (Jvm.Cond.and given_1 narrow_1).before #[Value.ref b] s = true) (hA : ∀ a : Nat, a < s.heap.size → ¬ A a) : ∃ t : Nat, va_Z "ThrowArms" (roN.getD 6 "") "[I" (.ref t) A s s.heap ∧ va_T .int t (roV.getD 6 []).length (fun j => .int ((roV.getD 6 []).getD j 0)) A s s.heap := by
  have hel : ∀ j : Nat, j < 3 → (Term.elem (.static "ThrowArms" "BOUND_WITHOUT" "[I") (.int (Int32.ofNat j))).eval #[Value.ref b] s none [] s = some (.int ((roV.getD 6 []).getD j 0)) := by
    intro j hj
    match j, hj with
    | 0, _ => exact va_eqt (aL (aL (aR (aL (aL (aL (aL (aL (aR hgv)))))))))
    | 1, _ => exact va_eqt (aL (aR (aL (aR (aL (aL (aL (aL (aL (aR hgv))))))))))
    | 2, _ => exact va_eqt (aR (aR (aL (aR (aL (aL (aL (aL (aL (aR hgv))))))))))
    | z + 3, h => exact absurd h (by omega)
  obtain ⟨t, ht, hT⟩ := va_Tof (args := #[Value.ref b]) (s := s) (tm := .static "ThrowArms" "BOUND_WITHOUT" "[I") (ty := .int) (N := 3) (f := fun j => .int ((roV.getD 6 []).getD j 0)) (A := A) (by decide) (aL (aR (aR (aL (aL (aL (aL (aL (aL (aR hgv)))))))))) (va_eqt (aR (aR (aR (aL (aL (aL (aL (aL (aL (aR hgv))))))))))) hel hA
  exact ⟨t, va_Zref (hts _ (td2 (List.mem_of_getElem? (i := 186) rfl))) (hts _ (List.mem_filter.mp tw1_1).1) ht hA, hT⟩
def tmS : Nat → Term := fun i => match i with
  | 0 => .string "ThrowArms$Reade\x72" 65
  | 1 => .string "ThrowArms$Reade\x72" 131
  | 2 => .string "ThrowArms$Reade\x72" 133
  | 3 => .string "ThrowArms$Reade\x72" 74
  | 4 => .string "ThrowArms$Reade\x72" 79
  | 5 => .string "ThrowArms$Reade\x72" 84
  | 6 => .string "ThrowArms$Reade\x72" 89
  | _ => .string "ThrowArms$Reade\x72" 91
theorem st_ne (hts : ∀ w ∈ lw_tbl, w.before #[Value.ref b] s = true) (hgv : (Jvm.Cond.and given_1 narrow_1).before #[Value.ref b] s = true) : ∀ j i : Nat, i < j → j < 8 → (Cond.not (Cond.eq (tmS i) (tmS j))).before #[Value.ref b] s = true := by
  intro j i h1 h2
  match j, h1, h2 with
  | 0, h1, _ => exact absurd h1 (Nat.not_lt_zero _)
  | 1, h1, _ =>
    match i, h1 with
    | 0, _ => exact (aR (aR (aL (aL (aR (aR (aR (aL (aL (aR hgv))))))))))
    | z + 1, h => exact absurd h (by omega)
  | 2, h1, _ =>
    match i, h1 with
    | 0, _ => exact (aL (aL (aL (aL (aL (aL (aR (aL (aR hgv)))))))))
    | 1, _ => exact (aR (aL (aL (aL (aL (aL (aR (aL (aR hgv)))))))))
    | z + 2, h => exact absurd h (by omega)
  | 3, h1, _ =>
    match i, h1 with
    | 0, _ => exact (aR (aR (aR (aR (aL (aL (aL (aR (aL (aR hgv))))))))))
    | 1, _ => exact (aL (aL (aL (aR (aL (aL (aR (aL (aR hgv)))))))))
    | 2, _ => exact (aR (aL (aL (aR (aL (aL (aR (aL (aR hgv)))))))))
    | z + 3, h => exact absurd h (by omega)
  | 4, h1, _ =>
    match i, h1 with
    | 0, _ => exact (aR (aR (aR (aR (aR (aL (aL (aR (aL (aR hgv))))))))))
    | 1, _ => exact (aL (aL (aL (aL (aR (aL (aR (aL (aR hgv)))))))))
    | 2, _ => exact (aR (aL (aL (aL (aR (aL (aR (aL (aR hgv)))))))))
    | 3, _ => exact (aL (aR (aL (aL (aR (aL (aR (aL (aR hgv)))))))))
    | z + 4, h => exact absurd h (by omega)
  | 5, h1, _ =>
    match i, h1 with
    | 0, _ => exact (aL (aL (aL (aR (aR (aL (aR (aL (aR hgv)))))))))
    | 1, _ => exact (aL (aR (aL (aL (aR (aR (aL (aR (aL (aR hgv))))))))))
    | 2, _ => exact (aR (aR (aL (aL (aR (aR (aL (aR (aL (aR hgv))))))))))
    | 3, _ => exact (aL (aR (aL (aR (aR (aL (aR (aL (aR hgv)))))))))
    | 4, _ => exact (aL (aR (aR (aL (aR (aR (aL (aR (aL (aR hgv))))))))))
    | z + 5, h => exact absurd h (by omega)
  | 6, h1, _ =>
    match i, h1 with
    | 0, _ => exact (aR (aL (aL (aL (aL (aR (aR (aL (aR hgv)))))))))
    | 1, _ => exact (aL (aR (aL (aL (aL (aR (aR (aL (aR hgv)))))))))
    | 2, _ => exact (aL (aR (aR (aL (aL (aL (aR (aR (aL (aR hgv))))))))))
    | 3, _ => exact (aR (aR (aR (aL (aL (aL (aR (aR (aL (aR hgv))))))))))
    | 4, _ => exact (aL (aL (aR (aL (aL (aR (aR (aL (aR hgv)))))))))
    | 5, _ => exact (aL (aR (aL (aR (aL (aL (aR (aR (aL (aR hgv))))))))))
    | z + 6, h => exact absurd h (by omega)
  | 7, h1, _ =>
    match i, h1 with
    | 0, _ => exact (aL (aR (aL (aR (aL (aR (aR (aL (aR hgv)))))))))
    | 1, _ => exact (aL (aR (aR (aL (aR (aL (aR (aR (aL (aR hgv))))))))))
    | 2, _ => exact (aR (aR (aR (aL (aR (aL (aR (aR (aL (aR hgv))))))))))
    | 3, _ => exact (aL (aL (aR (aR (aL (aR (aR (aL (aR hgv)))))))))
    | 4, _ => exact (aL (aR (aL (aR (aR (aL (aR (aR (aL (aR hgv))))))))))
    | 5, _ => exact (aR (aR (aL (aR (aR (aL (aR (aR (aL (aR hgv))))))))))
    | 6, _ => exact (aL (aR (aR (aR (aL (aR (aR (aL (aR hgv)))))))))
    | z + 7, h => exact absurd h (by omega)
  | z + 8, _, h => exact absurd h (by omega)
theorem st_S (hts : ∀ w ∈ lw_tbl, w.before #[Value.ref b] s = true) (hgv : (Jvm.Cond.and given_1 narrow_1).before #[Value.ref b] s = true) (hA : ∀ a : Nat, a < s.heap.size → ¬ A a) : ∃ adK adV : Nat → Nat, vk_S 8 sLen sByt adK adV A s s.heap ∧ ∀ i : Nat, i < 8 → (tmS i).eval #[Value.ref b] s none [] s = some (.ref (adK i)) := by
  refine vk_Sof (by decide +kernel) ?_ ?_ ?_ ?_ ?_ ?_ hA
  · intro i hi
    match i, hi with
    | 0, _ => exact (aL (aR (aR (aR (aR (aL (aR (aL (aL (aR hgv))))))))))
    | 1, _ => exact (aL (aL (aR (aL (aR (aR (aL (aL (aR hgv)))))))))
    | 2, _ => exact (aL (aR (aL (aR (aR (aR (aL (aL (aR hgv)))))))))
    | 3, _ => exact (aL (aR (aL (aL (aL (aL (aR (aL (aR hgv)))))))))
    | 4, _ => exact (aL (aR (aL (aR (aL (aL (aR (aL (aR hgv)))))))))
    | 5, _ => exact (aL (aR (aR (aL (aL (aR (aL (aR (aL (aR hgv))))))))))
    | 6, _ => exact (aR (aR (aR (aL (aR (aR (aL (aR (aL (aR hgv))))))))))
    | 7, _ => exact (aR (aR (aL (aR (aL (aL (aR (aR (aL (aR hgv))))))))))
    | z + 8, h => exact absurd h (by omega)
  · intro i hi
    match i, hi with
    | 0, _ => exact (aR (aR (aR (aR (aR (aL (aR (aL (aL (aR hgv))))))))))
    | 1, _ => exact (aL (aR (aL (aR (aL (aR (aR (aL (aL (aR hgv))))))))))
    | 2, _ => exact (aL (aR (aR (aL (aR (aR (aR (aL (aL (aR hgv))))))))))
    | 3, _ => exact (aL (aR (aR (aL (aL (aL (aL (aR (aL (aR hgv))))))))))
    | 4, _ => exact (aL (aR (aR (aL (aR (aL (aL (aR (aL (aR hgv))))))))))
    | 5, _ => exact (aR (aR (aR (aL (aL (aR (aL (aR (aL (aR hgv))))))))))
    | 6, _ => exact (aL (aL (aR (aR (aR (aL (aR (aL (aR hgv)))))))))
    | 7, _ => exact (aL (aR (aR (aL (aL (aR (aR (aL (aR hgv)))))))))
    | z + 8, h => exact absurd h (by omega)
  · intro i hi
    match i, hi with
    | 0, _ => exact (aL (aL (aL (aL (aR (aR (aL (aL (aR hgv)))))))))
    | 1, _ => exact (aR (aR (aL (aR (aL (aR (aR (aL (aL (aR hgv))))))))))
    | 2, _ => exact (aR (aR (aR (aL (aR (aR (aR (aL (aL (aR hgv))))))))))
    | 3, _ => exact (aR (aR (aR (aL (aL (aL (aL (aR (aL (aR hgv))))))))))
    | 4, _ => exact (aR (aR (aR (aL (aR (aL (aL (aR (aL (aR hgv))))))))))
    | 5, _ => exact (aL (aL (aR (aL (aR (aL (aR (aL (aR hgv)))))))))
    | 6, _ => exact (aL (aR (aL (aR (aR (aR (aL (aR (aL (aR hgv))))))))))
    | 7, _ => exact (aL (aR (aR (aR (aL (aL (aR (aR (aL (aR hgv))))))))))
    | z + 8, h => exact absurd h (by omega)
  · intro i hi
    match i, hi with
    | 0, _ => exact (aR (aL (aL (aL (aR (aR (aL (aL (aR hgv)))))))))
    | 1, _ => exact (aL (aR (aR (aL (aR (aR (aL (aL (aR hgv)))))))))
    | 2, _ => exact (aL (aL (aR (aR (aR (aR (aL (aL (aR hgv)))))))))
    | 3, _ => exact (aL (aL (aR (aL (aL (aL (aR (aL (aR hgv)))))))))
    | 4, _ => exact (aL (aL (aR (aR (aL (aL (aR (aL (aR hgv)))))))))
    | 5, _ => exact (aL (aR (aL (aR (aL (aR (aL (aR (aL (aR hgv))))))))))
    | 6, _ => exact (aR (aR (aL (aR (aR (aR (aL (aR (aL (aR hgv))))))))))
    | 7, _ => exact (aR (aR (aR (aR (aL (aL (aR (aR (aL (aR hgv))))))))))
    | z + 8, h => exact absurd h (by omega)
  · intro i hi j hj
    match i, hi, hj with
    | 0, _, hj =>
      match j, hj with
      | 0, _ => exact (aL (aR (aL (aL (aR (aR (aL (aL (aR hgv)))))))))
      | 1, _ => exact (aL (aR (aR (aL (aL (aR (aR (aL (aL (aR hgv))))))))))
      | 2, _ => exact (aR (aR (aR (aL (aL (aR (aR (aL (aL (aR hgv))))))))))
      | z + 3, h => exact absurd (show z + 3 < 3 from h) (by omega)
    | 1, _, hj =>
      match j, hj with
      | 0, _ => exact (aL (aR (aR (aR (aL (aR (aR (aL (aL (aR hgv))))))))))
      | 1, _ => exact (aR (aR (aR (aR (aL (aR (aR (aL (aL (aR hgv))))))))))
      | 2, _ => exact (aL (aL (aL (aR (aR (aR (aL (aL (aR hgv)))))))))
      | 3, _ => exact (aL (aR (aL (aL (aR (aR (aR (aL (aL (aR hgv))))))))))
      | z + 4, h => exact absurd (show z + 4 < 4 from h) (by omega)
    | 2, _, hj =>
      match j, hj with
      | 0, _ => exact (aL (aR (aL (aR (aR (aR (aR (aL (aL (aR hgv))))))))))
      | 1, _ => exact (aR (aR (aL (aR (aR (aR (aR (aL (aL (aR hgv))))))))))
      | 2, _ => exact (aL (aR (aR (aR (aR (aR (aL (aL (aR hgv)))))))))
      | 3, _ => exact (aL (aR (aR (aR (aR (aR (aR (aL (aL (aR hgv))))))))))
      | 4, _ => exact (aR (aR (aR (aR (aR (aR (aR (aL (aL (aR hgv))))))))))
      | z + 5, h => exact absurd (show z + 5 < 5 from h) (by omega)
    | 3, _, hj =>
      match j, hj with
      | 0, _ => exact (aL (aR (aL (aR (aL (aL (aL (aR (aL (aR hgv))))))))))
      | 1, _ => exact (aR (aR (aL (aR (aL (aL (aL (aR (aL (aR hgv))))))))))
      | 2, _ => exact (aL (aR (aR (aL (aL (aL (aR (aL (aR hgv)))))))))
      | 3, _ => exact (aL (aR (aR (aR (aL (aL (aL (aR (aL (aR hgv))))))))))
      | z + 4, h => exact absurd (show z + 4 < 4 from h) (by omega)
    | 4, _, hj =>
      match j, hj with
      | 0, _ => exact (aL (aR (aL (aR (aR (aL (aL (aR (aL (aR hgv))))))))))
      | 1, _ => exact (aR (aR (aL (aR (aR (aL (aL (aR (aL (aR hgv))))))))))
      | 2, _ => exact (aL (aR (aR (aR (aL (aL (aR (aL (aR hgv)))))))))
      | 3, _ => exact (aL (aR (aR (aR (aR (aL (aL (aR (aL (aR hgv))))))))))
      | z + 4, h => exact absurd (show z + 4 < 4 from h) (by omega)
    | 5, _, hj =>
      match j, hj with
      | 0, _ => exact (aR (aR (aL (aR (aL (aR (aL (aR (aL (aR hgv))))))))))
      | 1, _ => exact (aL (aR (aR (aL (aR (aL (aR (aL (aR hgv)))))))))
      | 2, _ => exact (aL (aR (aR (aR (aL (aR (aL (aR (aL (aR hgv))))))))))
      | 3, _ => exact (aR (aR (aR (aR (aL (aR (aL (aR (aL (aR hgv))))))))))
      | z + 4, h => exact absurd (show z + 4 < 4 from h) (by omega)
    | 6, _, hj =>
      match j, hj with
      | 0, _ => exact (aL (aR (aR (aR (aR (aL (aR (aL (aR hgv)))))))))
      | 1, _ => exact (aL (aR (aR (aR (aR (aR (aL (aR (aL (aR hgv))))))))))
      | 2, _ => exact (aR (aR (aR (aR (aR (aR (aL (aR (aL (aR hgv))))))))))
      | 3, _ => exact (aL (aL (aL (aL (aL (aR (aR (aL (aR hgv)))))))))
      | z + 4, h => exact absurd (show z + 4 < 4 from h) (by omega)
    | 7, _, hj =>
      match j, hj with
      | 0, _ => exact (aL (aL (aL (aR (aL (aR (aR (aL (aR hgv)))))))))
      | 1, _ => exact (aL (aR (aL (aL (aR (aL (aR (aR (aL (aR hgv))))))))))
      | 2, _ => exact (aR (aR (aL (aL (aR (aL (aR (aR (aL (aR hgv))))))))))
      | z + 3, h => exact absurd (show z + 3 < 3 from h) (by omega)
    | z + 8, h, _ => exact absurd h (by omega)
  · intro i j hi hj hij
    rcases Nat.lt_or_gt_of_ne hij with h | h
    · exact Or.inl (st_ne hts hgv j i h hj)
    · exact Or.inr (st_ne hts hgv i j h hi)
end START
theorem st_N {s : State} {b : Nat} (hts : ∀ w ∈ lw_tbl, w.before #[Value.ref b] s = true) : NW s := by
  unfold NW nMth
  exact List.forall_mem_cons.mpr ⟨va_Nw.of rfl (hts _ (td1 (List.mem_of_getElem? (i := 33) rfl))), List.forall_mem_cons.mpr ⟨va_Nw.of rfl (hts _ (td1 (List.mem_of_getElem? (i := 76) rfl))), List.forall_mem_cons.mpr ⟨va_Nw.of rfl (hts _ (td1 (List.mem_of_getElem? (i := 159) rfl))), List.forall_mem_cons.mpr ⟨va_Nw.of rfl (hts _ (td1 (List.mem_of_getElem? (i := 162) rfl))), List.forall_mem_cons.mpr ⟨va_Nw.of rfl (hts _ (td3 (List.mem_of_getElem? (i := 82) rfl))), List.forall_mem_cons.mpr ⟨va_Nw.of rfl (hts _ (td4 (List.mem_of_getElem? (i := 206) rfl))), fun _ h => absurd h List.not_mem_nil⟩⟩⟩⟩⟩⟩
theorem st_RO {s : State} {b : Nat} (hts : ∀ w ∈ lw_tbl, w.before #[Value.ref b] s = true) (hgv : (Jvm.Cond.and given_1 narrow_1).before #[Value.ref b] s = true) : ∃ (a0 adK adV : Nat → Nat) (sa : Nat), ∀ ad : Nat → Nat, (∀ c, c < 53 → s.heap.size ≤ ad c) → (∀ k, k < 7 → ad (100 + k) = a0 k) → (∀ i, i < 8 → ad (200 + i) = adK i) → RO ad adV s s.heap ∧ XI ad sa s := by
  have hA : ∀ a : Nat, a < s.heap.size → ¬ (fun q : Nat => s.heap.size ≤ q) a := fun a h z => absurd h (Nat.not_lt.mpr z)
  obtain ⟨t0, hz0, ht0⟩ := st_a0 hts hgv hA
  obtain ⟨t1, hz1, ht1⟩ := st_a1 hts hgv hA
  obtain ⟨t2, hz2, ht2⟩ := st_a2 hts hgv hA
  obtain ⟨t3, hz3, ht3⟩ := st_a3 hts hgv hA
  obtain ⟨t4, hz4, ht4⟩ := st_a4 hts hgv hA
  obtain ⟨t5, hz5, ht5⟩ := st_a5 hts hgv hA
  obtain ⟨t6, hz6, ht6⟩ := st_a6 hts hgv hA
  obtain ⟨adK, adV, hS, hE⟩ := st_S hts hgv hA
  obtain ⟨sa, c9, cell9, k9, e9, -⟩ := Cond.exactly_spec (args := #[Value.ref b]) (first := s) (o := none) (s := s) (idx := []) (t := .string "ThrowArms" 393) (cls := "java/lang/String") (aL (aR (aR (aR (aR (aL (aR (aR (aL (aR hgv))))))))))
  refine ⟨fun k => [t0, t1, t2, t3, t4, t5, t6].getD k 0, adK, adV, sa, fun ad hge h1 h2 => ?_⟩
  have hAA : ∀ q, AA ad q → (fun q : Nat => s.heap.size ≤ q) q := fun q h => by
    obtain ⟨c, hc, e⟩ := h
    rw [e]
    exact hge c hc
  refine ⟨⟨?_, ?_, ?_, ?_, ?_, ?_, ?_⟩, ?_, ?_, ?_, ?_⟩
  · intro k hk
    rw [h1 k hk]
    match k, hk with
    | 0, _ => exact ⟨hz0.narrow hAA, ht0.narrow hAA⟩
    | 1, _ => exact ⟨hz1.narrow hAA, ht1.narrow hAA⟩
    | 2, _ => exact ⟨hz2.narrow hAA, ht2.narrow hAA⟩
    | 3, _ => exact ⟨hz3.narrow hAA, ht3.narrow hAA⟩
    | 4, _ => exact ⟨hz4.narrow hAA, ht4.narrow hAA⟩
    | 5, _ => exact ⟨hz5.narrow hAA, ht5.narrow hAA⟩
    | 6, _ => exact ⟨hz6.narrow hAA, ht6.narrow hAA⟩
    | z + 7, h => exact absurd h (by omega)
  · exact vk_S_ad (hS.narrow hAA) (fun i hi => h2 i hi)
  · unfold sRef
    exact List.forall_mem_cons.mpr ⟨(by show vk_R _ _ _ (ad (200 + 0)) s; rw [h2 0 (by decide)]; exact vk_R.of (A := #[Value.ref b]) (hts _ (td2 (List.mem_of_getElem? (i := 222) rfl))) (hE 0 (by decide))), List.forall_mem_cons.mpr ⟨(by show vk_R _ _ _ (ad (200 + 1)) s; rw [h2 1 (by decide)]; exact vk_R.of (A := #[Value.ref b]) (hts _ (td3 (List.mem_of_getElem? (i := 51) rfl))) (hE 1 (by decide))), List.forall_mem_cons.mpr ⟨(by show vk_R _ _ _ (ad (200 + 2)) s; rw [h2 2 (by decide)]; exact vk_R.of (A := #[Value.ref b]) (hts _ (td3 (List.mem_of_getElem? (i := 52) rfl))) (hE 2 (by decide))), List.forall_mem_cons.mpr ⟨(by show vk_R _ _ _ (ad (200 + 3)) s; rw [h2 3 (by decide)]; exact vk_R.of (A := #[Value.ref b]) (hts _ (td3 (List.mem_of_getElem? (i := 53) rfl))) (hE 3 (by decide))), List.forall_mem_cons.mpr ⟨(by show vk_R _ _ _ (ad (200 + 4)) s; rw [h2 4 (by decide)]; exact vk_R.of (A := #[Value.ref b]) (hts _ (td3 (List.mem_of_getElem? (i := 54) rfl))) (hE 4 (by decide))), List.forall_mem_cons.mpr ⟨(by show vk_R _ _ _ (ad (200 + 5)) s; rw [h2 5 (by decide)]; exact vk_R.of (A := #[Value.ref b]) (hts _ (td3 (List.mem_of_getElem? (i := 55) rfl))) (hE 5 (by decide))), List.forall_mem_cons.mpr ⟨(by show vk_R _ _ _ (ad (200 + 6)) s; rw [h2 6 (by decide)]; exact vk_R.of (A := #[Value.ref b]) (hts _ (td3 (List.mem_of_getElem? (i := 56) rfl))) (hE 6 (by decide))), List.forall_mem_cons.mpr ⟨(by show vk_R _ _ _ (ad (200 + 7)) s; rw [h2 7 (by decide)]; exact vk_R.of (A := #[Value.ref b]) (hts _ (td3 (List.mem_of_getElem? (i := 57) rfl))) (hE 7 (by decide))), List.forall_mem_cons.mpr ⟨(by show vk_R _ _ _ (ad (200 + 0)) s; rw [h2 0 (by decide)]; exact vk_R.of (A := #[Value.ref b]) (hts _ (td6 (List.mem_of_getElem? (i := 138) rfl))) (va_eqR (aR (aR (aL (aR (aR (aL (aL (aL (aR (aR hgv)))))))))) (hE 0 (by decide)))), List.forall_mem_cons.mpr ⟨(by show vk_R _ _ _ (ad (200 + 1)) s; rw [h2 1 (by decide)]; exact vk_R.of (A := #[Value.ref b]) (hts _ (td6 (List.mem_of_getElem? (i := 157) rfl))) (va_eqR (aL (aR (aL (aR (aR (aL (aL (aR (aR hgv))))))))) (hE 1 (by decide)))), List.forall_mem_cons.mpr ⟨(by show vk_R _ _ _ (ad (200 + 2)) s; rw [h2 2 (by decide)]; exact vk_R.of (A := #[Value.ref b]) (hts _ (td6 (List.mem_of_getElem? (i := 158) rfl))) (va_eqR (aL (aL (aL (aR (aL (aR (aL (aR (aR hgv))))))))) (hE 2 (by decide)))), List.forall_mem_cons.mpr ⟨(by show vk_R _ _ _ (ad (200 + 3)) s; rw [h2 3 (by decide)]; exact vk_R.of (A := #[Value.ref b]) (hts _ (td6 (List.mem_of_getElem? (i := 159) rfl))) (va_eqR (aL (aR (aR (aL (aR (aR (aL (aR (aR hgv))))))))) (hE 3 (by decide)))), List.forall_mem_cons.mpr ⟨(by show vk_R _ _ _ (ad (200 + 4)) s; rw [h2 4 (by decide)]; exact vk_R.of (A := #[Value.ref b]) (hts _ (td6 (List.mem_of_getElem? (i := 160) rfl))) (va_eqR (aL (aR (aL (aR (aL (aL (aL (aR (aR (aR hgv)))))))))) (hE 4 (by decide)))), List.forall_mem_cons.mpr ⟨(by show vk_R _ _ _ (ad (200 + 5)) s; rw [h2 5 (by decide)]; exact vk_R.of (A := #[Value.ref b]) (hts _ (td6 (List.mem_of_getElem? (i := 161) rfl))) (va_eqR (aL (aR (aL (aR (aL (aR (aL (aR (aR (aR hgv)))))))))) (hE 5 (by decide)))), List.forall_mem_cons.mpr ⟨(by show vk_R _ _ _ (ad (200 + 6)) s; rw [h2 6 (by decide)]; exact vk_R.of (A := #[Value.ref b]) (hts _ (td6 (List.mem_of_getElem? (i := 162) rfl))) (va_eqR (aL (aR (aL (aR (aL (aL (aR (aR (aR (aR hgv)))))))))) (hE 6 (by decide)))), List.forall_mem_cons.mpr ⟨(by show vk_R _ _ _ (ad (200 + 7)) s; rw [h2 7 (by decide)]; exact vk_R.of (A := #[Value.ref b]) (hts _ (td6 (List.mem_of_getElem? (i := 163) rfl))) (va_eqR (aL (aR (aL (aR (aL (aR (aR (aR (aR (aR hgv)))))))))) (hE 7 (by decide)))), fun _ h => absurd h List.not_mem_nil⟩⟩⟩⟩⟩⟩⟩⟩⟩⟩⟩⟩⟩⟩⟩⟩
  · unfold nFld
    exact List.forall_mem_cons.mpr ⟨va_Nw.of rfl (hts _ (td2 (List.mem_of_getElem? (i := 185) rfl))), List.forall_mem_cons.mpr ⟨va_Nw.of rfl (hts _ (td3 (List.mem_of_getElem? (i := 66) rfl))), List.forall_mem_cons.mpr ⟨va_Nw.of rfl (hts _ (td3 (List.mem_of_getElem? (i := 76) rfl))), List.forall_mem_cons.mpr ⟨va_Nw.of rfl (hts _ (td3 (List.mem_of_getElem? (i := 95) rfl))), List.forall_mem_cons.mpr ⟨va_Nw.of rfl (hts _ (td3 (List.mem_of_getElem? (i := 97) rfl))), List.forall_mem_cons.mpr ⟨va_Nw.of rfl (hts _ (td3 (List.mem_of_getElem? (i := 107) rfl))), List.forall_mem_cons.mpr ⟨va_Nw.of rfl (hts _ (td3 (List.mem_of_getElem? (i := 109) rfl))), fun _ h => absurd h List.not_mem_nil⟩⟩⟩⟩⟩⟩⟩
  · exact st_N hts
  · exact va_Z.narrow (va_Zof (hts _ (td2 (List.mem_of_getElem? (i := 236) rfl))) (hts _ (List.mem_filter.mp tw1_15).1) (va_eqi (aL (aR (aR (aL (aL (aL (aL (aL (aR hgv)))))))))) hA) hAA
  · exact va_Zq.narrow (va_Zqof (hts _ (td3 (List.mem_of_getElem? (i := 12) rfl))) (hts _ (List.mem_filter.mp tw1_17).1) (aL (aR (aR (aR (aL (aL (aL (aL (aL (aR hgv)))))))))) hA) hAA
  · exact vx_Zq.narrow (vx_Zqof (C := "java/lang/Throwable") (n := "UNASSIGNED_STACK") (d := "[Ljava/lang/StackTraceElement;") (hts _ (td5 (List.mem_of_getElem? (i := 207) rfl))) (hts _ (List.mem_filter.mp tw1_19).1) (aL (aR (aL (aR (aL (aL (aR (aL (aL (aR hgv)))))))))) hA) hAA
  · exact vx_Zq.narrow (vx_Zqof (C := "java/lang/Throwable") (n := "SUPPRESSED_SENTINEL") (d := "Ljava/util/List;") (hts _ (td5 (List.mem_of_getElem? (i := 209) rfl))) (hts _ (List.mem_filter.mp tw1_19).1) (aR (aR (aL (aR (aL (aL (aR (aL (aL (aR hgv)))))))))) hA) hAA
  · exact vk_R.of (A := #[Value.ref b]) (hts _ (td5 (List.mem_of_getElem? (i := 219) rfl))) e9
  · unfold nxB
    exact List.forall_mem_cons.mpr ⟨va_Nw.of rfl (hts _ (td5 (List.mem_of_getElem? (i := 182) rfl))), List.forall_mem_cons.mpr ⟨va_Nw.of rfl (hts _ (td5 (List.mem_of_getElem? (i := 184) rfl))), List.forall_mem_cons.mpr ⟨va_Nw.of rfl (hts _ (td5 (List.mem_of_getElem? (i := 186) rfl))), List.forall_mem_cons.mpr ⟨va_Nw.of rfl (hts _ (td5 (List.mem_of_getElem? (i := 188) rfl))), fun _ h => absurd h List.not_mem_nil⟩⟩⟩⟩
def w0 : Wd := (fun c => match c with
  | 0 => fun j => if j = 12 then -1 else 0
  | 3 => fun j => if j = 4 then -1 else 0
  | 36 => fun j => if j = 2 ∨ j = 3 ∨ j = 4 then -2 else 0
  | 37 => fun j => if j = 7 then -2 else 0
  | 41 => fun j => if j = 3 then -1 else 0
  | _ => fun _ => 0, fun c => match c with
  | 37 => fun j => if j = 2 then 1 else 0
  | _ => fun _ => 0)
theorem LR_w0 : LR w0 := by
  have hW : WFr (fun _ => 0) := by
    exact ⟨fun _ => Nat.zero_le _, Nat.zero_le _, Nat.zero_le _, Nat.zero_le _, Nat.zero_le _, Nat.zero_le _, fun t _ => ⟨Nat.zero_le _, Nat.zero_le _, Nat.zero_le _, Nat.zero_le _, Nat.zero_le _⟩, fun g _ => ⟨Nat.zero_le _, Nat.zero_le _, Nat.zero_le _, Nat.zero_le _⟩, fun j _ => ⟨Nat.zero_le _, Nat.zero_le _⟩, fun i _ => ⟨Nat.zero_le _, Nat.zero_le _⟩⟩
  refine ⟨fun _ => 0, 0, fun _ => 0, fun _ _ => 0, ⟨⟨?_, ?_, ?_, hW, ?_, ?_, ?_, ?_⟩, 0, 0, fun _ _ => 0, ?_, ?_, ?_, ?_, ?_⟩, ?_, ?_, ?_, ?_, ?_⟩
  · intro i; rfl
  · exact ⟨rfl, rfl, rfl, fun t h => absurd h (Nat.not_lt_zero _), fun t h => absurd h (Nat.not_lt_zero _), ⟨rfl, rfl, rfl⟩, fun t h => absurd h (Nat.not_lt_zero _)⟩
  · exact ⟨fun g _ => rfl, fun g k _ h => absurd h (Nat.not_lt_zero _), fun t g _ _ => rfl⟩
  · exact ⟨fun g h _ q => absurd q (Nat.not_lt_zero _), fun g _ _ => rfl, fun g k _ h => absurd h (Nat.not_lt_zero _), fun g j k _ _ h => absurd h (Nat.not_lt_zero _), fun g _ => Nat.le_refl 0, fun t h => absurd h (Nat.not_lt_zero _), fun t h => absurd h (Nat.not_lt_zero _)⟩
  · decide
  · exact fun _ => ⟨rfl, rfl⟩
  · rfl
  · rfl
  · rfl
  · exact ⟨rfl, Nat.zero_le _, fun i j h => absurd h (Nat.not_lt_zero _)⟩
  · exact ⟨by decide, Nat.zero_le _, fun i h => absurd h (Nat.not_lt_zero _)⟩
  · exact fun i h => absurd h (Nat.not_lt_zero _)
  · exact ⟨rfl, fun j _ => rfl⟩
  · exact ⟨rfl, fun j _ => rfl⟩
  · exact ⟨fun j => (by decide : 0 < 256), Nat.zero_le _⟩
  · exact fun k h => absurd h (Nat.not_lt_zero _)
  · exact ⟨rfl, rfl, by decide⟩
/-- the first world's cells, at the addresses ad -/
def wsL (cA : Nat → ClassId) (ad : Nat → Nat) : va_W := [((ad 0), .inr (10, [.ref (ad 1), .ref (ad 3), .ref (ad 13), .ref (ad 21), .ref (ad 26), .ref (ad 27), .ref (ad 29), .ref (ad 36), .ref (ad 37), .ref (ad 39), .int 0, .int 0, .int (-1)])), ((ad 1), .inr (8, [.ref (ad 2), .int 0, .int 0, .int 0, .int 0, .int 0, .int 0, .long 0])), ((ad 2), .inl (cA 2, 800, .inl (fun _ => 0))), ((ad 3), .inr (6, [.ref (ad 1), .ref (ad 4), .ref (ad 5), .int 0, .int (-1)])), ((ad 4), .inl (cA 3, 3, .inl (fun _ => 0))), ((ad 5), .inr (9, [.int 0, .ref (ad 6), .ref (ad 7), .ref (ad 8), .int 0, .ref (ad 9), .ref (ad 10), .int 0, .ref (ad 11), .ref (ad 12)])), ((ad 6), .inl (cA 1, 8, .inr (.inl (fun _ => 0)))), ((ad 7), .inl (cA 0, 8, .inl (fun _ => 0))), ((ad 8), .inl (cA 0, 32, .inl (fun _ => 0))), ((ad 9), .inl (cA 0, 60, .inl (fun _ => 0))), ((ad 10), .inl (cA 0, 3, .inl (fun _ => 0))), ((ad 11), .inl (cA 0, 5, .inl (fun _ => 0))), ((ad 12), .inl (cA 0, 5, .inl (fun _ => 0))), ((ad 13), .inr (9, [.int 0, .ref (ad 14), .ref (ad 15), .ref (ad 16), .int 0, .ref (ad 17), .ref (ad 18), .int 0, .ref (ad 19), .ref (ad 20)])), ((ad 14), .inl (cA 1, 8, .inr (.inl (fun _ => 0)))), ((ad 15), .inl (cA 0, 8, .inl (fun _ => 0))), ((ad 16), .inl (cA 0, 32, .inl (fun _ => 0))), ((ad 17), .inl (cA 0, 60, .inl (fun _ => 0))), ((ad 18), .inl (cA 0, 3, .inl (fun _ => 0))), ((ad 19), .inl (cA 0, 5, .inl (fun _ => 0))), ((ad 20), .inl (cA 0, 5, .inl (fun _ => 0))), ((ad 21), .inr (5, [.ref (ad 22), .ref (ad 23), .ref (ad 24), .ref (ad 25)])), ((ad 22), .inl (cA 0, 20, .inl (fun _ => 0))), ((ad 23), .inl (cA 0, 60, .inl (fun _ => 0))), ((ad 24), .inl (cA 0, 60, .inl (fun _ => 0))), ((ad 25), .inl (cA 0, 160, .inl (fun _ => 0))), ((ad 26), .inr (1, [.ref (ad 13), .ref (ad 21)])), ((ad 27), .inr (3, [.ref (ad 26), .ref (ad 28), .int 0])), ((ad 28), .inl (cA 0, 20, .inl (fun _ => 0))), ((ad 29), .inr (0, [.ref (ad 26), .ref (ad 27), .int 0, .int 0, .ref (ad 30), .ref (ad 31), .ref (ad 32), .ref (ad 33), .ref (ad 34), .ref (ad 35), .int 0])), ((ad 30), .inl (cA 0, 8, .inl (fun _ => 0))), ((ad 31), .inl (cA 0, 8, .inl (fun _ => 0))), ((ad 32), .inl (cA 0, 40, .inl (fun _ => 0))), ((ad 33), .inl (cA 0, 6, .inl (fun _ => 0))), ((ad 34), .inl (cA 0, 5, .inl (fun _ => 0))), ((ad 35), .inl (cA 0, 5, .inl (fun _ => 0))), ((ad 36), .inr (2, [.ref (ad 26), .ref (ad 27), .int (-2), .int (-2), .int (-2), .int 0, .int 0, .int 0, .int 0])), ((ad 37), .inr (7, [.ref (ad 26), .ref (ad 38), .long 1, .int 0, .int 0, .int 0, .int 0, .int (-2)])), ((ad 38), .inl (cA 0, 8, .inl (fun _ => 0))), ((ad 39), .inr (4, [.ref (ad 13), .ref (ad 21), .ref (ad 40), .int 0, .int 0])), ((ad 40), .inl (cA 0, 1800, .inl (fun _ => 0))), ((ad 41), .inr (11, [.int 0, .int 0, .int 0, .int (-1), .ref (ad 42), .int 0, .int 0, .ref (ad 43), .ref (ad 44), .ref (ad 45), .ref (ad 46), .int 0, .int 0, .int 0, .int 0, .int 0, .int 0, .int 0, .int 0, .ref (ad 47), .ref (ad 48), .ref (ad 49), .ref (ad 50), .ref (ad 51), .int 0, .ref (ad 52), .int 0, .int 0])), ((ad 42), .inl (cA 0, 800, .inl (fun _ => 0))), ((ad 43), .inl (cA 0, 256, .inl (fun _ => 0))), ((ad 44), .inl (cA 0, 256, .inl (fun _ => 0))), ((ad 45), .inl (cA 0, 56, .inl (fun _ => 0))), ((ad 46), .inl (cA 0, 56, .inl (fun _ => 0))), ((ad 47), .inl (cA 0, 60, .inl (fun _ => 0))), ((ad 48), .inl (cA 0, 5, .inl (fun _ => 0))), ((ad 49), .inl (cA 0, 5, .inl (fun _ => 0))), ((ad 50), .inl (cA 0, 8, .inl (fun _ => 0))), ((ad 51), .inl (cA 0, 5, .inl (fun _ => 0))), ((ad 52), .inl (cA 0, 2560, .inl (fun _ => 0)))]
theorem wsL_0 {cA : Nat → ClassId} {ad : Nat → Nat} : (wsL cA ad)[0]? = (Cells ad cA w0)[0]? := (Cells_get (ad := ad) (cA := cA) (w := w0) (c := 0) rfl).symm
theorem wsL_1 {cA : Nat → ClassId} {ad : Nat → Nat} : (wsL cA ad)[1]? = (Cells ad cA w0)[1]? := (Cells_get (ad := ad) (cA := cA) (w := w0) (c := 1) rfl).symm
theorem wsL_2 {cA : Nat → ClassId} {ad : Nat → Nat} : (wsL cA ad)[2]? = (Cells ad cA w0)[2]? := (Cells_get (ad := ad) (cA := cA) (w := w0) (c := 2) rfl).symm
theorem wsL_3 {cA : Nat → ClassId} {ad : Nat → Nat} : (wsL cA ad)[3]? = (Cells ad cA w0)[3]? := (Cells_get (ad := ad) (cA := cA) (w := w0) (c := 3) rfl).symm
theorem wsL_4 {cA : Nat → ClassId} {ad : Nat → Nat} : (wsL cA ad)[4]? = (Cells ad cA w0)[4]? := (Cells_get (ad := ad) (cA := cA) (w := w0) (c := 4) rfl).symm
theorem wsL_5 {cA : Nat → ClassId} {ad : Nat → Nat} : (wsL cA ad)[5]? = (Cells ad cA w0)[5]? := (Cells_get (ad := ad) (cA := cA) (w := w0) (c := 5) rfl).symm
theorem wsL_6 {cA : Nat → ClassId} {ad : Nat → Nat} : (wsL cA ad)[6]? = (Cells ad cA w0)[6]? := (Cells_get (ad := ad) (cA := cA) (w := w0) (c := 6) rfl).symm
theorem wsL_7 {cA : Nat → ClassId} {ad : Nat → Nat} : (wsL cA ad)[7]? = (Cells ad cA w0)[7]? := (Cells_get (ad := ad) (cA := cA) (w := w0) (c := 7) rfl).symm
theorem wsL_8 {cA : Nat → ClassId} {ad : Nat → Nat} : (wsL cA ad)[8]? = (Cells ad cA w0)[8]? := (Cells_get (ad := ad) (cA := cA) (w := w0) (c := 8) rfl).symm
theorem wsL_9 {cA : Nat → ClassId} {ad : Nat → Nat} : (wsL cA ad)[9]? = (Cells ad cA w0)[9]? := (Cells_get (ad := ad) (cA := cA) (w := w0) (c := 9) rfl).symm
theorem wsL_10 {cA : Nat → ClassId} {ad : Nat → Nat} : (wsL cA ad)[10]? = (Cells ad cA w0)[10]? := (Cells_get (ad := ad) (cA := cA) (w := w0) (c := 10) rfl).symm
theorem wsL_11 {cA : Nat → ClassId} {ad : Nat → Nat} : (wsL cA ad)[11]? = (Cells ad cA w0)[11]? := (Cells_get (ad := ad) (cA := cA) (w := w0) (c := 11) rfl).symm
theorem wsL_12 {cA : Nat → ClassId} {ad : Nat → Nat} : (wsL cA ad)[12]? = (Cells ad cA w0)[12]? := (Cells_get (ad := ad) (cA := cA) (w := w0) (c := 12) rfl).symm
theorem wsL_13 {cA : Nat → ClassId} {ad : Nat → Nat} : (wsL cA ad)[13]? = (Cells ad cA w0)[13]? := (Cells_get (ad := ad) (cA := cA) (w := w0) (c := 13) rfl).symm
theorem wsL_14 {cA : Nat → ClassId} {ad : Nat → Nat} : (wsL cA ad)[14]? = (Cells ad cA w0)[14]? := (Cells_get (ad := ad) (cA := cA) (w := w0) (c := 14) rfl).symm
theorem wsL_15 {cA : Nat → ClassId} {ad : Nat → Nat} : (wsL cA ad)[15]? = (Cells ad cA w0)[15]? := (Cells_get (ad := ad) (cA := cA) (w := w0) (c := 15) rfl).symm
theorem wsL_16 {cA : Nat → ClassId} {ad : Nat → Nat} : (wsL cA ad)[16]? = (Cells ad cA w0)[16]? := (Cells_get (ad := ad) (cA := cA) (w := w0) (c := 16) rfl).symm
theorem wsL_17 {cA : Nat → ClassId} {ad : Nat → Nat} : (wsL cA ad)[17]? = (Cells ad cA w0)[17]? := (Cells_get (ad := ad) (cA := cA) (w := w0) (c := 17) rfl).symm
theorem wsL_18 {cA : Nat → ClassId} {ad : Nat → Nat} : (wsL cA ad)[18]? = (Cells ad cA w0)[18]? := (Cells_get (ad := ad) (cA := cA) (w := w0) (c := 18) rfl).symm
theorem wsL_19 {cA : Nat → ClassId} {ad : Nat → Nat} : (wsL cA ad)[19]? = (Cells ad cA w0)[19]? := (Cells_get (ad := ad) (cA := cA) (w := w0) (c := 19) rfl).symm
theorem wsL_20 {cA : Nat → ClassId} {ad : Nat → Nat} : (wsL cA ad)[20]? = (Cells ad cA w0)[20]? := (Cells_get (ad := ad) (cA := cA) (w := w0) (c := 20) rfl).symm
theorem wsL_21 {cA : Nat → ClassId} {ad : Nat → Nat} : (wsL cA ad)[21]? = (Cells ad cA w0)[21]? := (Cells_get (ad := ad) (cA := cA) (w := w0) (c := 21) rfl).symm
theorem wsL_22 {cA : Nat → ClassId} {ad : Nat → Nat} : (wsL cA ad)[22]? = (Cells ad cA w0)[22]? := (Cells_get (ad := ad) (cA := cA) (w := w0) (c := 22) rfl).symm
theorem wsL_23 {cA : Nat → ClassId} {ad : Nat → Nat} : (wsL cA ad)[23]? = (Cells ad cA w0)[23]? := (Cells_get (ad := ad) (cA := cA) (w := w0) (c := 23) rfl).symm
theorem wsL_24 {cA : Nat → ClassId} {ad : Nat → Nat} : (wsL cA ad)[24]? = (Cells ad cA w0)[24]? := (Cells_get (ad := ad) (cA := cA) (w := w0) (c := 24) rfl).symm
theorem wsL_25 {cA : Nat → ClassId} {ad : Nat → Nat} : (wsL cA ad)[25]? = (Cells ad cA w0)[25]? := (Cells_get (ad := ad) (cA := cA) (w := w0) (c := 25) rfl).symm
theorem wsL_26 {cA : Nat → ClassId} {ad : Nat → Nat} : (wsL cA ad)[26]? = (Cells ad cA w0)[26]? := (Cells_get (ad := ad) (cA := cA) (w := w0) (c := 26) rfl).symm
theorem wsL_27 {cA : Nat → ClassId} {ad : Nat → Nat} : (wsL cA ad)[27]? = (Cells ad cA w0)[27]? := (Cells_get (ad := ad) (cA := cA) (w := w0) (c := 27) rfl).symm
theorem wsL_28 {cA : Nat → ClassId} {ad : Nat → Nat} : (wsL cA ad)[28]? = (Cells ad cA w0)[28]? := (Cells_get (ad := ad) (cA := cA) (w := w0) (c := 28) rfl).symm
theorem wsL_29 {cA : Nat → ClassId} {ad : Nat → Nat} : (wsL cA ad)[29]? = (Cells ad cA w0)[29]? := (Cells_get (ad := ad) (cA := cA) (w := w0) (c := 29) rfl).symm
theorem wsL_30 {cA : Nat → ClassId} {ad : Nat → Nat} : (wsL cA ad)[30]? = (Cells ad cA w0)[30]? := (Cells_get (ad := ad) (cA := cA) (w := w0) (c := 30) rfl).symm
theorem wsL_31 {cA : Nat → ClassId} {ad : Nat → Nat} : (wsL cA ad)[31]? = (Cells ad cA w0)[31]? := (Cells_get (ad := ad) (cA := cA) (w := w0) (c := 31) rfl).symm
theorem wsL_32 {cA : Nat → ClassId} {ad : Nat → Nat} : (wsL cA ad)[32]? = (Cells ad cA w0)[32]? := (Cells_get (ad := ad) (cA := cA) (w := w0) (c := 32) rfl).symm
theorem wsL_33 {cA : Nat → ClassId} {ad : Nat → Nat} : (wsL cA ad)[33]? = (Cells ad cA w0)[33]? := (Cells_get (ad := ad) (cA := cA) (w := w0) (c := 33) rfl).symm
theorem wsL_34 {cA : Nat → ClassId} {ad : Nat → Nat} : (wsL cA ad)[34]? = (Cells ad cA w0)[34]? := (Cells_get (ad := ad) (cA := cA) (w := w0) (c := 34) rfl).symm
theorem wsL_35 {cA : Nat → ClassId} {ad : Nat → Nat} : (wsL cA ad)[35]? = (Cells ad cA w0)[35]? := (Cells_get (ad := ad) (cA := cA) (w := w0) (c := 35) rfl).symm
theorem wsL_36 {cA : Nat → ClassId} {ad : Nat → Nat} : (wsL cA ad)[36]? = (Cells ad cA w0)[36]? := (Cells_get (ad := ad) (cA := cA) (w := w0) (c := 36) rfl).symm
theorem wsL_37 {cA : Nat → ClassId} {ad : Nat → Nat} : (wsL cA ad)[37]? = (Cells ad cA w0)[37]? := (Cells_get (ad := ad) (cA := cA) (w := w0) (c := 37) rfl).symm
theorem wsL_38 {cA : Nat → ClassId} {ad : Nat → Nat} : (wsL cA ad)[38]? = (Cells ad cA w0)[38]? := (Cells_get (ad := ad) (cA := cA) (w := w0) (c := 38) rfl).symm
theorem wsL_39 {cA : Nat → ClassId} {ad : Nat → Nat} : (wsL cA ad)[39]? = (Cells ad cA w0)[39]? := (Cells_get (ad := ad) (cA := cA) (w := w0) (c := 39) rfl).symm
theorem wsL_40 {cA : Nat → ClassId} {ad : Nat → Nat} : (wsL cA ad)[40]? = (Cells ad cA w0)[40]? := (Cells_get (ad := ad) (cA := cA) (w := w0) (c := 40) rfl).symm
theorem wsL_41 {cA : Nat → ClassId} {ad : Nat → Nat} : (wsL cA ad)[41]? = (Cells ad cA w0)[41]? := by
  refine Eq.trans ?_ (Cells_get (ad := ad) (cA := cA) (w := w0) (c := 41) rfl).symm
  simp only [cellE, List.mapIdx_cons, List.mapIdx_nil]
  rfl
theorem wsL_42 {cA : Nat → ClassId} {ad : Nat → Nat} : (wsL cA ad)[42]? = (Cells ad cA w0)[42]? := (Cells_get (ad := ad) (cA := cA) (w := w0) (c := 42) rfl).symm
theorem wsL_43 {cA : Nat → ClassId} {ad : Nat → Nat} : (wsL cA ad)[43]? = (Cells ad cA w0)[43]? := (Cells_get (ad := ad) (cA := cA) (w := w0) (c := 43) rfl).symm
theorem wsL_44 {cA : Nat → ClassId} {ad : Nat → Nat} : (wsL cA ad)[44]? = (Cells ad cA w0)[44]? := (Cells_get (ad := ad) (cA := cA) (w := w0) (c := 44) rfl).symm
theorem wsL_45 {cA : Nat → ClassId} {ad : Nat → Nat} : (wsL cA ad)[45]? = (Cells ad cA w0)[45]? := (Cells_get (ad := ad) (cA := cA) (w := w0) (c := 45) rfl).symm
theorem wsL_46 {cA : Nat → ClassId} {ad : Nat → Nat} : (wsL cA ad)[46]? = (Cells ad cA w0)[46]? := (Cells_get (ad := ad) (cA := cA) (w := w0) (c := 46) rfl).symm
theorem wsL_47 {cA : Nat → ClassId} {ad : Nat → Nat} : (wsL cA ad)[47]? = (Cells ad cA w0)[47]? := (Cells_get (ad := ad) (cA := cA) (w := w0) (c := 47) rfl).symm
theorem wsL_48 {cA : Nat → ClassId} {ad : Nat → Nat} : (wsL cA ad)[48]? = (Cells ad cA w0)[48]? := (Cells_get (ad := ad) (cA := cA) (w := w0) (c := 48) rfl).symm
theorem wsL_49 {cA : Nat → ClassId} {ad : Nat → Nat} : (wsL cA ad)[49]? = (Cells ad cA w0)[49]? := (Cells_get (ad := ad) (cA := cA) (w := w0) (c := 49) rfl).symm
theorem wsL_50 {cA : Nat → ClassId} {ad : Nat → Nat} : (wsL cA ad)[50]? = (Cells ad cA w0)[50]? := (Cells_get (ad := ad) (cA := cA) (w := w0) (c := 50) rfl).symm
theorem wsL_51 {cA : Nat → ClassId} {ad : Nat → Nat} : (wsL cA ad)[51]? = (Cells ad cA w0)[51]? := (Cells_get (ad := ad) (cA := cA) (w := w0) (c := 51) rfl).symm
theorem wsL_52 {cA : Nat → ClassId} {ad : Nat → Nat} : (wsL cA ad)[52]? = (Cells ad cA w0)[52]? := (Cells_get (ad := ad) (cA := cA) (w := w0) (c := 52) rfl).symm
theorem wsL_eq {cA : Nat → ClassId} {ad : Nat → Nat} : wsL cA ad = Cells ad cA w0 := by
  have h1 : (wsL cA ad).length = 53 := rfl
  have h2 : (Cells ad cA w0).length = 53 := by simp only [Cells, List.length_mapIdx]; rfl
  refine List.ext_getElem? (fun k => ?_)
  by_cases hk : k < 53
  · match k, hk with
    | 0, _ => exact wsL_0
    | 1, _ => exact wsL_1
    | 2, _ => exact wsL_2
    | 3, _ => exact wsL_3
    | 4, _ => exact wsL_4
    | 5, _ => exact wsL_5
    | 6, _ => exact wsL_6
    | 7, _ => exact wsL_7
    | 8, _ => exact wsL_8
    | 9, _ => exact wsL_9
    | 10, _ => exact wsL_10
    | 11, _ => exact wsL_11
    | 12, _ => exact wsL_12
    | 13, _ => exact wsL_13
    | 14, _ => exact wsL_14
    | 15, _ => exact wsL_15
    | 16, _ => exact wsL_16
    | 17, _ => exact wsL_17
    | 18, _ => exact wsL_18
    | 19, _ => exact wsL_19
    | 20, _ => exact wsL_20
    | 21, _ => exact wsL_21
    | 22, _ => exact wsL_22
    | 23, _ => exact wsL_23
    | 24, _ => exact wsL_24
    | 25, _ => exact wsL_25
    | 26, _ => exact wsL_26
    | 27, _ => exact wsL_27
    | 28, _ => exact wsL_28
    | 29, _ => exact wsL_29
    | 30, _ => exact wsL_30
    | 31, _ => exact wsL_31
    | 32, _ => exact wsL_32
    | 33, _ => exact wsL_33
    | 34, _ => exact wsL_34
    | 35, _ => exact wsL_35
    | 36, _ => exact wsL_36
    | 37, _ => exact wsL_37
    | 38, _ => exact wsL_38
    | 39, _ => exact wsL_39
    | 40, _ => exact wsL_40
    | 41, _ => exact wsL_41
    | 42, _ => exact wsL_42
    | 43, _ => exact wsL_43
    | 44, _ => exact wsL_44
    | 45, _ => exact wsL_45
    | 46, _ => exact wsL_46
    | 47, _ => exact wsL_47
    | 48, _ => exact wsL_48
    | 49, _ => exact wsL_49
    | 50, _ => exact wsL_50
    | 51, _ => exact wsL_51
    | 52, _ => exact wsL_52
    | z + 53, h => exact absurd h (by omega)
  · rw [List.getElem?_eq_none (by omega), List.getElem?_eq_none (by omega)]
theorem st_fin {D : va_G} {A : Nat → Prop} {ad : Nat → Nat} {cA : Nat → ClassId} {ql : Nat} {H : Heap} (hP : va_P D vwCl (Cells ad cA w0 ++ [(ql, .inl (cA 1, 1, .inr (.inl (fun _ => 0))))]) H) (hD : va_D A (Cells ad cA w0 ++ [(ql, .inl (cA 1, 1, .inr (.inl (fun _ => 0))))])) : va_P D vwCl (Cells ad cA w0) H ∧ H[ql]? = some (cellL cA (fun _ => 0)) ∧ Inj ad ∧ (∀ c, c < 53 → A (ad c)) ∧ A ql ∧ ¬ AA ad ql := by
  have hlen : (Cells ad cA w0).length = 53 := by simp only [Cells, List.length_mapIdx]; rfl
  have hs : shp.length = 53 := rfl
  have get : ∀ c, c < 53 → ∃ E, (Cells ad cA w0 ++ [(ql, .inl (cA 1, 1, .inr (.inl (fun _ => 0))))])[c]? = some (ad c, E) := fun c hc => by
    obtain ⟨sh, hsh⟩ : ∃ sh, shp[c]? = some sh := ⟨_, List.getElem?_eq_getElem (by omega)⟩
    exact ⟨_, by rw [List.getElem?_append_left (by omega)]; exact Cells_get hsh⟩
  have last : (Cells ad cA w0 ++ [(ql, .inl (cA 1, 1, .inr (.inl (fun _ => 0))))])[53]? = some (ql, .inl (cA 1, 1, .inr (.inl (fun _ => 0)))) := by
    rw [List.getElem?_append_right (by omega), hlen]
    rfl
  refine ⟨fun k q hk => hP k q ?_, hP 53 _ last, fun i j hi hj e => ?_, fun c hc => ?_, hD.2 53 _ last, ?_⟩
  · have hk2 := (List.getElem?_eq_some_iff.mp hk).1
    rw [List.getElem?_append_left hk2]
    exact hk
  · obtain ⟨E1, g1⟩ := get i hi
    obtain ⟨E2, g2⟩ := get j hj
    exact hD.1 i j _ _ g1 g2 e
  · obtain ⟨E1, g1⟩ := get c hc
    exact hD.2 c _ g1
  · rintro ⟨c, hc, e⟩
    obtain ⟨E1, g1⟩ := get c hc
    have := hD.1 53 c _ _ last g1 e
    omega
theorem st_K {s : State} {args : Array Value} (hts : ∀ w ∈ TT, w.before args s = true) : ∃ (D : va_G) (cA : Nat → ClassId), va_K D vwCl (tysL cA) s := by
  obtain ⟨c0, i0, k0⟩ := u_known (C := RX0) (T := TX0) (N := 11) (n := 11) hts inX0 (hts _ tw1_221)
  obtain ⟨c1, i1, k1⟩ := u_known (C := RX1) (T := TX1) (N := 2) (n := 2) hts inX1 (hts _ tw1_185)
  obtain ⟨c2, i2, k2⟩ := u_known (C := RX2) (T := TX2) (N := 9) (n := 9) hts inX2 (hts _ tw2_23)
  obtain ⟨c3, i3, k3⟩ := u_known (C := RX3) (T := TX3) (N := 3) (n := 3) hts inX3 (hts _ tw1_205)
  obtain ⟨c4, i4, k4⟩ := u_known (C := RX4) (T := TX4) (N := 5) (n := 5) hts inX4 (hts _ tw2_96)
  obtain ⟨c5, i5, k5⟩ := u_known (C := RX5) (T := TX5) (N := 4) (n := 4) hts inX5 (hts _ tw1_161)
  obtain ⟨c6, i6, k6⟩ := u_known (C := RX6) (T := TX6) (N := 5) (n := 5) hts inX6 (hts _ tw1_69)
  obtain ⟨c7, i7, k7⟩ := u_known (C := RX7) (T := TX7) (N := 8) (n := 8) hts inX7 (hts _ tw2_60)
  obtain ⟨c8, i8, k8⟩ := u_known (C := RX8) (T := TX8) (N := 8) (n := 8) hts inX8 (hts _ tw1_32)
  obtain ⟨c9, i9, k9⟩ := u_known (C := RX9) (T := TX9) (N := 10) (n := 10) hts inX9 (hts _ tw1_75)
  obtain ⟨c10, i10, k10⟩ := u_known (C := RX10) (T := TX10) (N := 13) (n := 13) hts inX10 (hts _ tw1_24)
  obtain ⟨c11, i11, k11⟩ := u_known (C := RX11) (T := TX11) (N := 28) (n := 28) hts inX11 (hts _ tw6_6)
  obtain ⟨e0, f0, g0, p0, q0, r0⟩ := Cond.arrayClass_spec (type := .int) (hts _ tw1_138)
  obtain ⟨e1, f1, g1, p1, q1, r1⟩ := Cond.arrayClass_spec (type := .long) (hts _ tw1_137)
  obtain ⟨e2, f2, g2, p2, q2, r2⟩ := Cond.arrayClass_spec (type := .byte) (hts _ tw1_67)
  obtain ⟨e3, f3, g3, p3, q3, r3⟩ := Cond.arrayClass_spec (type := .boolean) (hts _ tw1_136)
  refine ⟨(fun k => [c0, c1, c2, c3, c4, c5, c6, c7, c8, c9, c10, c11].getD k c0, fun k => [i0, i1, i2, i3, i4, i5, i6, i7, i8, i9, i10, i11].getD k i0), fun k => [e0, e1, e2, e3].getD k e0, fun k q hq => ?_, fun k q hq => ?_⟩
  · match k, hq with
    | 0, hq => have e : (RX0, TX0, 11) = q := Option.some.inj hq; subst e; exact k0
    | 1, hq => have e : (RX1, TX1, 2) = q := Option.some.inj hq; subst e; exact k1
    | 2, hq => have e : (RX2, TX2, 9) = q := Option.some.inj hq; subst e; exact k2
    | 3, hq => have e : (RX3, TX3, 3) = q := Option.some.inj hq; subst e; exact k3
    | 4, hq => have e : (RX4, TX4, 5) = q := Option.some.inj hq; subst e; exact k4
    | 5, hq => have e : (RX5, TX5, 4) = q := Option.some.inj hq; subst e; exact k5
    | 6, hq => have e : (RX6, TX6, 5) = q := Option.some.inj hq; subst e; exact k6
    | 7, hq => have e : (RX7, TX7, 8) = q := Option.some.inj hq; subst e; exact k7
    | 8, hq => have e : (RX8, TX8, 8) = q := Option.some.inj hq; subst e; exact k8
    | 9, hq => have e : (RX9, TX9, 10) = q := Option.some.inj hq; subst e; exact k9
    | 10, hq => have e : (RX10, TX10, 13) = q := Option.some.inj hq; subst e; exact k10
    | 11, hq => have e : (RX11, TX11, 28) = q := Option.some.inj hq; subst e; exact k11
    | z + 12, hq => exact absurd (List.getElem?_eq_some_iff.mp hq).1 (by show ¬ z + 12 < 12; omega)
  · match k, hq with
    | 0, hq => have e : (e0, FieldType.int) = q := Option.some.inj hq; subst e; exact ⟨fun n z => ⟨fun k h => (by cases h), f0, q0, g0, r0⟩, p0⟩
    | 1, hq => have e : (e1, FieldType.long) = q := Option.some.inj hq; subst e; exact ⟨fun n z => ⟨fun k h => (by cases h), f1, q1, g1, r1⟩, p1⟩
    | 2, hq => have e : (e2, FieldType.byte) = q := Option.some.inj hq; subst e; exact ⟨fun n z => ⟨fun k h => (by cases h), f2, q2, g2, r2⟩, p2⟩
    | 3, hq => have e : (e3, FieldType.boolean) = q := Option.some.inj hq; subst e; exact ⟨fun n z => ⟨fun k h => (by cases h), f3, q3, g3, r3⟩, p3⟩
    | z + 4, hq => exact absurd (List.getElem?_eq_some_iff.mp hq).1 (by show ¬ z + 4 < 4; omega)
