/-! The pure world of both objects after their constructors: ints and longs by cell and place; references never change. An abstract frame: pc, the listed values of the variables, the operand stack, the world. An operation is a predicate on frames turned backwards; a method's meaning is the least predicate that its operations close. -/
abbrev Wd : Type := (Nat → Nat → Int32) × (Nat → Nat → Int64)
abbrev Fr : Type := Nat → List Value → List Value → Wd → Prop
abbrev Op : Type := Fr → List Value → List Value → Wd → Prop
abbrev Kt : Type := Option Value → Wd → Prop
abbrev Mf : Type := List Value → Wd → Kt → Prop
abbrev Shp : Type := (Nat × Nat) ⊕ (Nat × List Nat)
def shp : List Shp := [.inr (10, [3, 5, 15, 23, 28, 29, 31, 38, 39, 41, 0, 0, 0]), .inr (8, [4, 0, 0, 0, 0, 0, 0, 1]), .inl (2, 800), .inr (6, [3, 6, 7, 0, 0]), .inl (3, 3), .inr (9, [0, 8, 9, 10, 0, 11, 12, 0, 13, 14]), .inl (1, 8), .inl (0, 8), .inl (0, 32), .inl (0, 60), .inl (0, 3), .inl (0, 5), .inl (0, 5), .inr (9, [0, 16, 17, 18, 0, 19, 20, 0, 21, 22]), .inl (1, 8), .inl (0, 8), .inl (0, 32), .inl (0, 60), .inl (0, 3), .inl (0, 5), .inl (0, 5), .inr (5, [24, 25, 26, 27]), .inl (0, 20), .inl (0, 60), .inl (0, 60), .inl (0, 160), .inr (1, [15, 23]), .inr (3, [28, 30, 0]), .inl (0, 20), .inr (0, [28, 29, 0, 0, 32, 33, 34, 35, 36, 37, 0]), .inl (0, 8), .inl (0, 8), .inl (0, 40), .inl (0, 6), .inl (0, 5), .inl (0, 5), .inr (2, [28, 29, 0, 0, 0, 0, 0, 0, 0]), .inr (7, [28, 40, 1, 0, 0, 0, 0, 0]), .inl (0, 8), .inr (4, [15, 23, 42, 0, 0]), .inl (0, 1800), .inr (11, [0, 0, 0, 0, 44, 0, 0, 45, 46, 47, 48, 0, 0, 0, 0, 0, 0, 0, 0, 49, 50, 51, 52, 53, 0, 54, 0, 0]), .inl (0, 800), .inl (0, 256), .inl (0, 256), .inl (0, 56), .inl (0, 56), .inl (0, 60), .inl (0, 5), .inl (0, 5), .inl (0, 8), .inl (0, 5), .inl (0, 2560)]
def roN : List String := ["TRAIT_LOW", "TRAIT_HIGH", "FACT_LOW", "FACT_HIGH", "BOUND_LOW", "BOUND_HIGH", "BOUND_WITHOUT"]
def roV : List (List Int32) := [[1, 1, 0, 0], [99, 120, 120, 9], [0, 0, 1], [59, 9, 200], [0, 0, 1], [500, 9, 60], [0, 0, 15]]
def sLen : List Nat := [3, 4, 5, 4, 4, 4, 4, 3]
def sByt : List (List Int32) := [[97, 114, 109], [108, 101, 102, 116], [114, 105, 103, 104, 116], [103, 97, 109, 101], [114, 101, 115, 116], [119, 101, 101, 107], [101, 100, 103, 101], [111, 117, 116]]
def sRef : List (String × Nat × String × Nat) := [("ThrowArms$Reade\x72", 65, "arm", 0), ("ThrowArms$Reade\x72", 131, "left", 1), ("ThrowArms$Reade\x72", 133, "right", 2), ("ThrowArms$Reade\x72", 74, "game", 3), ("ThrowArms$Reade\x72", 79, "rest", 4), ("ThrowArms$Reade\x72", 84, "week", 5), ("ThrowArms$Reade\x72", 89, "edge", 6), ("ThrowArms$Reade\x72", 91, "out", 7), ("ThrowArmsModel", 99, "arm", 0), ("ThrowArmsModel", 105, "left", 1), ("ThrowArmsModel", 107, "right", 2), ("ThrowArmsModel", 109, "game", 3), ("ThrowArmsModel", 111, "rest", 4), ("ThrowArmsModel", 113, "week", 5), ("ThrowArmsModel", 115, "edge", 6), ("ThrowArmsModel", 117, "out", 7)]
def nFld : List (String × Nat × String × String × String × String) := [("ThrowArms$Told", 44, "ThrowArms", "BOUND_WITHOUT", "[I", "ThrowArms"), ("ThrowArms$Reade\x72", 99, "ThrowArms", "TRAIT_LOW", "[I", "ThrowArms"), ("ThrowArms$Told", 57, "ThrowArms", "TRAIT_HIGH", "[I", "ThrowArms"), ("ThrowArms$Reade\x72", 141, "ThrowArms", "FACT_LOW", "[I", "ThrowArms"), ("ThrowArms$Reade\x72", 144, "ThrowArms", "FACT_HIGH", "[I", "ThrowArms"), ("ThrowArms$Reade\x72", 159, "ThrowArms", "BOUND_LOW", "[I", "ThrowArms"), ("ThrowArms$Reade\x72", 162, "ThrowArms", "BOUND_HIGH", "[I", "ThrowArms")]
def nMth : List (String × Nat × MethodName × String) := [("ThrowArms", 11, ⟨"ThrowArms$Tape", "<init>", "()V"⟩, "ThrowArms"), ("ThrowArms$Reade\x72", 17, ⟨"ThrowArms$Told", "<init>", "()V"⟩, "ThrowArms"), ("ThrowArms", 27, ⟨"ThrowArms$Told", "<init>", "()V"⟩, "ThrowArms"), ("ThrowArms", 34, ⟨"ThrowArms$Plan", "<init>", "()V"⟩, "ThrowArms"), ("ThrowArms$Reade\x72", 168, ⟨"ThrowArms", "within", "(III)Z"⟩, "ThrowArms"), ("ThrowArms$Book", 78, ⟨"ThrowArms", "within", "(III)Z"⟩, "ThrowArms")]
def upI (w : Wd) (c j : Nat) (v : Int32) : Wd := (fun a b => if a = c ∧ b = j then v else w.1 a b, w.2)
def upL (w : Wd) (c j : Nat) (v : Int64) : Wd := (w.1, fun a b => if a = c ∧ b = j then v else w.2 a b)
def cpI (w : Wd) (c : Nat) (f : Nat → Int32) (sp dp n : Nat) : Wd := (fun a b => if a = c then va_cpy f (w.1 c) sp dp n b else w.1 a b, w.2)
def cpL (w : Wd) (c : Nat) (f : Nat → Int64) (sp dp n : Nat) : Wd := (w.1, fun a b => if a = c then va_cpy f (w.2 c) sp dp n b else w.2 a b)
def vl (ad : Nat → Nat) (v : Value) : Value := match v with
  | .ref c => .ref (ad c)
  | u => u
def fvA (w : Wd) (c j k : Nat) : Value := match k with
  | 0 => .int (w.1 c j)
  | 1 => .long (w.2 c j)
  | d + 2 => .ref d
def arE (w : Wd) (c t : Nat) : (Nat → Int32) ⊕ (Nat → Int64) ⊕ (Nat → UInt32) ⊕ (Nat → UInt64) ⊕ (Nat → Option Nat) := match t with
  | 1 => .inr (.inl (w.2 c))
  | _ => .inl (w.1 c)
def cellE (ad : Nat → Nat) (cA : Nat → ClassId) (w : Wd) (c : Nat) (sh : Shp) : va_E := match sh with
  | .inl q => .inl (cA q.1, q.2, arE w c q.1)
  | .inr q => .inr (q.1, q.2.mapIdx (fun j k => vl ad (fvA w c j k)))
def Cells (ad : Nat → Nat) (cA : Nat → ClassId) (w : Wd) : va_W := shp.mapIdx (fun c sh => (ad c, cellE ad cA w c sh))
theorem Cells_get {ad : Nat → Nat} {cA : Nat → ClassId} {w : Wd} {c : Nat} {sh : Shp} (h : shp[c]? = some sh) : (Cells ad cA w)[c]? = some (ad c, cellE ad cA w c sh) := by
  simp [Cells, List.getElem?_mapIdx, h]
theorem Cells_back {ad : Nat → Nat} {cA : Nat → ClassId} {w : Wd} {c : Nat} {q : Nat × va_E} (h : (Cells ad cA w)[c]? = some q) : c < 53 ∧ q.1 = ad c := by
  simp only [Cells, List.getElem?_mapIdx] at h
  cases hs : shp[c]? with
  | none => rw [hs] at h; cases h
  | some sh =>
    rw [hs] at h
    have h1 := (List.getElem?_eq_some_iff.mp hs).1
    have h2 : shp.length = 53 := rfl
    simp at h
    rw [← h]
    exact ⟨by omega, rfl⟩
theorem cellE_congr {ad : Nat → Nat} {cA : Nat → ClassId} {w w' : Wd} {k : Nat} (h1 : w'.1 k = w.1 k) (h2 : w'.2 k = w.2 k) (sh : Shp) : cellE ad cA w' k sh = cellE ad cA w k sh := by
  cases sh with
  | inl q =>
    show Sum.inl (cA q.1, q.2, arE w' k q.1) = Sum.inl (cA q.1, q.2, arE w k q.1)
    have e : arE w' k q.1 = arE w k q.1 := by
      unfold arE
      split
      · rw [h2]
      · rw [h1]
    rw [e]
  | inr q =>
    show Sum.inr (q.1, q.2.mapIdx (fun j kd => vl ad (fvA w' k j kd))) = Sum.inr (q.1, q.2.mapIdx (fun j kd => vl ad (fvA w k j kd)))
    have e : (fun j kd => vl ad (fvA w' k j kd)) = (fun j kd => vl ad (fvA w k j kd)) := by
      funext j kd
      have : fvA w' k j kd = fvA w k j kd := by
        unfold fvA
        split
        · rw [h1]
        · rw [h2]
        · rfl
      rw [this]
    rw [e]
theorem Cells_set {ad : Nat → Nat} {cA : Nat → ClassId} {w w' : Wd} {c : Nat} {sh : Shp} {E : va_E} (h : shp[c]? = some sh) (ho : ∀ a, a ≠ c → w'.1 a = w.1 a ∧ w'.2 a = w.2 a) (hE : E = cellE ad cA w' c sh) : (Cells ad cA w).set c (ad c, E) = Cells ad cA w' := by
  subst hE
  apply List.ext_getElem?
  intro k
  rw [List.getElem?_set]
  by_cases hk : c = k
  · subst hk
    have hl : c < (Cells ad cA w).length := by simp [Cells]; exact (List.getElem?_eq_some_iff.mp h).1
    rw [if_pos rfl, if_pos hl]
    exact (Cells_get h).symm
  · rw [if_neg hk]
    simp only [Cells, List.getElem?_mapIdx]
    cases hs : shp[k]? with
    | none => rfl
    | some q =>
      have e := cellE_congr (ad := ad) (cA := cA) (ho k (Ne.symm hk)).1 (ho k (Ne.symm hk)).2 q
      simp [e]
def tysL (cA : Nat → ClassId) : List (ClassId × FieldType) := [(cA 0, .int), (cA 1, .long), (cA 2, .byte), (cA 3, .boolean)]
def AA (ad : Nat → Nat) : Nat → Prop := fun q => ∃ c, c < 53 ∧ q = ad c
def Inj (ad : Nat → Nat) : Prop := ∀ i j, i < 53 → j < 53 → ad i = ad j → i = j
theorem Cells_D {ad : Nat → Nat} {cA : Nat → ClassId} {w : Wd} (hi : Inj ad) : va_D (AA ad) (Cells ad cA w) := by
  refine ⟨fun i j p q h1 h2 h3 => ?_, fun k q h => ?_⟩
  · have a := Cells_back h1
    have b := Cells_back h2
    exact hi i j a.1 b.1 (by rw [← a.2, ← b.2]; exact h3)
  · have a := Cells_back h
    exact ⟨k, a.1, a.2⟩
/-- what isn't of the world: static arrays, texts, links among nest mates -/
def RO (ad adV : Nat → Nat) (U : State) (H : Heap) : Prop :=
  (∀ k, k < 7 → va_Z "ThrowArms" (roN.getD k "") "[I" (.ref (ad (100 + k))) (AA ad) U H ∧ va_T .int (ad (100 + k)) (roV.getD k []).length (fun j => .int ((roV.getD k []).getD j 0)) (AA ad) U H) ∧
  vk_S 8 sLen sByt (fun i => ad (200 + i)) adV (AA ad) U H ∧
  (∀ q ∈ sRef, vk_R q.1 q.2.1 q.2.2.1 (ad (200 + q.2.2.2)) U) ∧
  (∀ q ∈ nFld, va_Nw (.fieldLinkNest q.1 q.2.1 q.2.2.1 q.2.2.2.1 q.2.2.2.2.1 q.2.2.2.2.2) U) ∧
  (∀ q ∈ nMth, va_Nw (.methodLinkNest q.1 q.2.1 q.2.2.1 q.2.2.2) U) ∧
  va_Z "java/lang/String" "COMPACT_STRINGS" "Z" (.int 1) (AA ad) U H ∧ va_Zq "jdk/internal/util/Preconditions" "SIOOBE_FORMATTER" "Ljava/util/function/BiFunction;" (AA ad) U H
theorem RO.same {ad adV : Nat → Nat} {u U : State} {H : Heap} (hv : u.vm = U.vm) (ha : u.vm.Alike U.vm) (h : RO ad adV u H) : RO ad adV U H :=
  ⟨fun k hk => ⟨va_Z.moved ha (h.1 k hk).1, va_T.moved ha (h.1 k hk).2⟩, vk_S.moved ha h.2.1, fun q hq => vk_R.same hv.symm (h.2.2.1 q hq), fun q hq => va_Nw.same rfl hv (h.2.2.2.1 q hq), fun q hq => va_Nw.same rfl hv (h.2.2.2.2.1 q hq), va_Z.moved ha h.2.2.2.2.2.1, va_Zq.moved ha h.2.2.2.2.2.2⟩
theorem RO.warm {ad adV : Nat → Nat} {u U : State} {H : Heap} (hW : u.WarmedH U.vm) (h : RO ad adV u H) : RO ad adV U H :=
  ⟨fun k hk => ⟨va_Z.moved hW.alike (h.1 k hk).1, va_T.moved hW.alike (h.1 k hk).2⟩, vk_S.moved hW.alike h.2.1, fun q hq => vk_R.warm hW (h.2.2.1 q hq), fun q hq => va_Nw.warmF hW (h.2.2.2.1 q hq), fun q hq => va_Nw.warmM hW (h.2.2.2.2.1 q hq), va_Z.moved hW.alike h.2.2.2.2.2.1, va_Zq.moved hW.alike h.2.2.2.2.2.2⟩
theorem RO.kept {ad adV : Nat → Nat} {U : State} {H H1 : Heap} (hq : ∀ a : Nat, a < H.size → ¬ AA ad a → H1[a]? = H[a]?) (h : RO ad adV U H) : RO ad adV U H1 :=
  ⟨fun k hk => ⟨(h.1 k hk).1.kept hq, (h.1 k hk).2.kept hq⟩, h.2.1.kept hq, h.2.2.1, h.2.2.2.1, h.2.2.2.2.1, h.2.2.2.2.2.1.kept hq, h.2.2.2.2.2.2.kept hq⟩
def Inv (D : va_G) (ad adV : Nat → Nat) (cA : Nat → ClassId) (w : Wd) (U : State) : Prop := va_P D vwCl (Cells ad cA w) U.heap ∧ va_K D vwCl (tysL cA) U ∧ Inj ad ∧ RO ad adV U U.heap
def QQ (D : va_G) (ad : Nat → Nat) (cA : Nat → ClassId) (K : Kt) : Array Value → State → Outcome → State → Prop := fun _ st oc t => ∃ (r : Option Value) (w' : Wd), K r w' ∧ oc = .returned (r.map (vl ad)) ∧ va_P D vwCl (Cells ad cA w') t.heap ∧ va_F (AA ad) st t
def rmd (d : Nat) : Room := { frames := d, cells := 0, slots := 0, locals := 40 * d }
/-- the machine's method meets the meaning f -/
def Okm (l : Launch) (y : MethodName) (cc : ByteArray) (maxL : Nat) (ret : Option FieldType) (d : Nat) (f : Mf) : Prop :=
  ∀ (D : va_G) (ad adV : Nat → Nat) (cA : Nat → ClassId) (As : List Value) (w : Wd) (K : Kt), f As w K → Met l y (.code y cc maxL ret :: TT) (rmd d) (va_Pc (As.map (vl ad)) (Inv D ad adV cA w)) (QQ D ad cA K) 0 0 (AA ad)
/-! variables -/
def hasL (ad : Nat → Nat) (ls : Array Slot) (nL : Nat) (L : List Value) : Prop := ls.size = nL ∧ lv_wf ls ∧ ∀ (i : Nat) (v : Value), L[i]? = some v → v ≠ .null → ls[i]? = some (.val (vl ad v))
def lvs (ad : Nat → Nat) (L : List Value) : List (Nat × Value) := (L.zipIdx.filter (fun q => decide (q.1 ≠ .null))).map (fun q => (q.2, vl ad q.1))
theorem lvs_mem {ad : Nat → Nat} {L : List Value} {q : Nat × Value} : q ∈ lvs ad L ↔ ∃ u, L[q.1]? = some u ∧ u ≠ .null ∧ q.2 = vl ad u := by
  obtain ⟨i, v⟩ := q
  simp only [lvs, List.mem_map, List.mem_filter, decide_eq_true_eq]
  constructor
  · rintro ⟨⟨u, j⟩, ⟨h1, h2⟩, h3⟩
    cases h3
    exact ⟨u, by simpa [List.mem_zipIdx_iff_getElem?] using h1, h2, rfl⟩
  · rintro ⟨u, h1, h2, rfl⟩
    exact ⟨(u, i), ⟨by simpa [List.mem_zipIdx_iff_getElem?] using h1, h2⟩, rfl⟩
theorem hasL_lv {ad : Nat → Nat} {ls : Array Slot} {nL : Nat} {L : List Value} (h : hasL ad ls nL L) : lv_has ls nL (lvs ad L) := by
  refine ⟨h.1, h.2.1, fun q hq => ?_⟩
  obtain ⟨u, h1, h2, h3⟩ := lvs_mem.mp hq
  rw [h3]
  exact h.2.2 q.1 u h1 h2
theorem hasL_get {ad : Nat → Nat} {ls : Array Slot} {nL : Nat} {L : List Value} (h : hasL ad ls nL L) {i : Nat} {v : Value} (e : L.getD i .null = v) (hn : v ≠ .null) : ls[i]? = some (.val (vl ad v)) := by
  refine h.2.2 i v ?_ hn
  rw [List.getD_eq_getElem?_getD] at e
  cases hs : L[i]? with
  | none => rw [hs] at e; exact absurd e.symm hn
  | some u => rw [hs] at e; simpa using e
def prevL (L : List Value) (i : Nat) : List Value := bif (L.getD (i - 1) .null).category == 2 then L.set (i - 1) .null else L
def stI (L : List Value) (i : Nat) (v : Value) : List Value := (prevL L i).set i v
def stL (L : List Value) (i : Nat) (v : Value) : List Value := ((prevL L i).set (i + 1) .null).set i v
theorem vl_cat (ad : Nat → Nat) (v : Value) : (vl ad v).category = v.category := by
  cases v <;> rfl
theorem prevL_get {L : List Value} {i j : Nat} {u : Value} (hj : j ≠ i) (h : (prevL L i)[j]? = some u) (hn : u ≠ .null) : L[j]? = some u ∧ ¬ (j + 1 = i ∧ u.category = 2) := by
  unfold prevL at h
  cases hc : ((L.getD (i - 1) .null).category == 2) with
  | true =>
    rw [hc] at h
    simp only [cond_true] at h
    rw [List.getElem?_set] at h
    by_cases e : i - 1 = j
    · rw [if_pos e] at h
      split at h
      · exact absurd (Option.some.inj h).symm hn
      · cases h
    · rw [if_neg e] at h
      exact ⟨h, fun z => e (by omega)⟩
  | false =>
    rw [hc] at h
    simp only [cond_false] at h
    refine ⟨h, fun z => ?_⟩
    have e : i - 1 = j := by omega
    rw [e, List.getD_eq_getElem?_getD, h] at hc
    simp [z.2] at hc
theorem hasL_stI {ad : Nat → Nat} {ls' : Array Slot} {nL : Nat} {L : List Value} {i : Nat} {v : Value} (h : lv_has ls' nL ((i, vl ad v) :: (lvs ad L).filter (fun q => !(q.1 == i) && !(q.1 + 1 == i && q.2.category == 2)))) : hasL ad ls' nL (stI L i v) := by
  refine ⟨h.1, h.2.1, fun j u hj hu => ?_⟩
  unfold stI at hj
  rw [List.getElem?_set] at hj
  by_cases e : i = j
  · subst e
    rw [if_pos rfl] at hj
    split at hj
    · rw [← Option.some.inj hj]
      exact h.2.2 (i, vl ad v) List.mem_cons_self
    · cases hj
  · rw [if_neg e] at hj
    obtain ⟨h1, h2⟩ := prevL_get (Ne.symm e) hj hu
    refine h.2.2 (j, vl ad u) (List.mem_cons_of_mem _ (List.mem_filter.mpr ⟨lvs_mem.mpr ⟨u, h1, hu, rfl⟩, ?_⟩))
    have e1 : (j == i) = false := by simp; exact Ne.symm e
    simp only [e1, vl_cat, Bool.not_false, Bool.true_and]
    cases h3 : (j + 1 == i && u.category == 2) with
    | false => rfl
    | true => exact absurd (by simpa using h3) h2
theorem hasL_stL {ad : Nat → Nat} {ls' : Array Slot} {nL : Nat} {L : List Value} {i : Nat} {v : Value} (h : lv_has ls' nL ((i, vl ad v) :: (lvs ad L).filter (fun q => !(q.1 == i) && (!(q.1 == i + 1) && !(q.1 + 1 == i && q.2.category == 2))))) : hasL ad ls' nL (stL L i v) := by
  refine ⟨h.1, h.2.1, fun j u hj hu => ?_⟩
  unfold stL at hj
  rw [List.getElem?_set] at hj
  by_cases e : i = j
  · subst e
    rw [if_pos rfl] at hj
    split at hj
    · rw [← Option.some.inj hj]
      exact h.2.2 (i, vl ad v) List.mem_cons_self
    · cases hj
  · rw [if_neg e] at hj
    rw [List.getElem?_set] at hj
    by_cases e2 : i + 1 = j
    · rw [if_pos e2] at hj
      split at hj
      · exact absurd (Option.some.inj hj).symm hu
      · cases hj
    · rw [if_neg e2] at hj
      obtain ⟨h1, h2⟩ := prevL_get (Ne.symm e) hj hu
      refine h.2.2 (j, vl ad u) (List.mem_cons_of_mem _ (List.mem_filter.mpr ⟨lvs_mem.mpr ⟨u, h1, hu, rfl⟩, ?_⟩))
      have e1 : (j == i) = false := by simp; exact Ne.symm e
      have e3 : (j == i + 1) = false := by simp; exact Ne.symm e2
      simp only [e1, e3, vl_cat, Bool.not_false, Bool.true_and]
      cases h3 : (j + 1 == i && u.category == 2) with
      | false => rfl
      | true => exact absurd (by simpa using h3) h2
/-! the least predicate -/
def RR (tab : Nat → Op) : Fr := fun pc L st w => ∀ P : Fr, (∀ pc L st w, tab pc P L st w → P pc L st w) → P pc L st w
def Mono (op : Op) : Prop := ∀ P Q : Fr, (∀ pc L st w, P pc L st w → Q pc L st w) → ∀ L st w, op P L st w → op Q L st w
theorem RR.step {tab : Nat → Op} {pc : Nat} {op : Op} (ht : tab pc = op) (hm : Mono op) {L st : List Value} {w : Wd} (h : op (RR tab) L st w) : RR tab pc L st w := by
  intro P hP
  refine hP pc L st w ?_
  rw [ht]
  exact hm (RR tab) P (fun pc L st w hr => hr P hP) L st w h
/-- the frame of a method at a pc, over any heap that holds the world -/
def Gd (p : Program) (l : Launch) (e : Env) (R : Room) (s : State) (m : MethodId) (args : Array Value) (below : List Frame) (meth : Method) (c : Code) (Q : State → Prop) (D : va_G) (ad : Nat → Nat) (cA : Nat → ClassId) (nL : Nat) : Fr := fun pc L st w =>
  ∀ (H : Heap) (locs : List Loc) (ls : Array Slot), va_P D vwCl (Cells ad cA w) H → va_S (AA ad) s.heap H locs → hasL ad ls nL L → W p l e R s m args below meth c H locs 0 0 Q (F0 m pc ls (st.map (vl ad)))
def Sd (p : Program) (l : Launch) (e : Env) (R : Room) (s : State) (m : MethodId) (args : Array Value) (below : List Frame) (meth : Method) (c : Code) (Q : State → Prop) (D : va_G) (ad : Nat → Nat) (cA : Nat → ClassId) (nL : Nat) (pc : Nat) (op : Op) : Prop :=
  ∀ (L st : List Value) (w : Wd), op (Gd p l e R s m args below meth c Q D ad cA nL) L st w → Gd p l e R s m args below meth c Q D ad cA nL pc L st w
def Cx (p : Program) (s : State) (m : MethodId) (args : Array Value) (meth : Method) (c : Code) (D : va_G) (ad adV : Nat → Nat) (cA : Nat → ClassId) (cc : ByteArray) (nL : Nat) (own : String) : Prop :=
  p.tables.exec = Jvm.exec ∧ c.code = cc ∧ c.maxLocals = nL ∧ s.vm.findClass own = some m.cls ∧ (∀ w ∈ TT, w.before args s = true) ∧ va_K D vwCl (tysL cA) s ∧ Inj ad ∧ RO ad adV s s.heap ∧ meth.locks = false
