def opOf (K : Kt) : Op ⊕ Nat → Op
  | .inl o => o
  | .inr 0 => o_iret K
  | .inr 1 => o_zret K
  | .inr 2 => o_lret K
  | .inr _ => o_vret K
def tl (K : Kt) : List (Nat × (Op ⊕ Nat)) → Nat → Op
  | [], _ => o_bot
  | q :: r, pc => bif Nat.beq q.1 pc then opOf K q.2 else tl K r pc
theorem opOf_le {K K1 : Kt} (hk : ∀ r w1, K r w1 → K1 r w1) (o : Op ⊕ Nat) (P : Fr) (L st : List Value) (w : Wd) (h : opOf K o P L st w) : opOf K1 o P L st w := by
  match o, h with
  | .inl _, h => exact h
  | .inr 0, h =>
    revert h; show o_iret K P L st w → o_iret K1 P L st w
    unfold o_iret; split
    · exact hk _ _
    · exact id
  | .inr 1, h =>
    revert h; show o_zret K P L st w → o_zret K1 P L st w
    unfold o_zret; split
    · exact fun h => ⟨h.1, hk _ _ h.2⟩
    · exact id
  | .inr 2, h =>
    revert h; show o_lret K P L st w → o_lret K1 P L st w
    unfold o_lret; split
    · exact hk _ _
    · exact id
  | .inr (n + 3), h =>
    revert h; show o_vret K P L st w → o_vret K1 P L st w
    unfold o_vret; split
    · exact hk _ _
    · exact id
theorem tl_le {K K1 : Kt} (hk : ∀ r w1, K r w1 → K1 r w1) (lst : List (Nat × (Op ⊕ Nat))) (pc : Nat) (P : Fr) (L st : List Value) (w : Wd) (h : tl K lst pc P L st w) : tl K1 lst pc P L st w := by
  induction lst with
  | nil => exact h
  | cons q r ih =>
    revert h
    show (bif Nat.beq q.1 pc then opOf K q.2 else tl K r pc) P L st w → (bif Nat.beq q.1 pc then opOf K1 q.2 else tl K1 r pc) P L st w
    cases Nat.beq q.1 pc
    · exact ih
    · exact opOf_le hk q.2 P L st w
theorem mono_f (n : Nat) (lst : List (Nat × (Op ⊕ Nat))) : MonoF (mf n (fun K => tl K lst)) := mf_mono (fun _ _ hk pc P L st w h => tl_le hk lst pc P L st w h)
theorem Okm_tl {l : Launch} {y : MethodName} {cc : ByteArray} {maxL d : Nat} {ret : Option FieldType} {lst : List (Nat × (Op ⊕ Nat))} {own : String} (hy : plainName y.cls = true) (ho : y.cls = own)
    (hs : ∀ {p : Program} {e : Env} {s : State} {m : MethodId} {args : Array Value} {below : List Frame} {meth : Method} {c : Code} {D : va_G} {ad adV : Nat → Nat} {cA : Nat → ClassId} {K : Kt}, Cx p s m args meth c D ad adV cA cc maxL own → meth.sig.returnType = ret → ∀ q ∈ lst, Sd p l e (rmd d) s m args below meth c (MQ below (QQ D ad cA K) args s 0 0 (AA ad)) D ad cA maxL q.1 (opOf K q.2)) : Okm l y cc maxL ret d (mf maxL (fun K => tl K lst)) := by
  refine Okm_of hy ho (fun p e s m args below meth c D ad adV cA K C0 hr pc => ?_)
  have h := hs (p := p) (e := e) (s := s) (m := m) (args := args) (below := below) (meth := meth) (c := c) (K := K) C0 hr
  clear hs
  induction lst with
  | nil => exact s_bot C0
  | cons q r ih =>
    show Sd p l e (rmd d) s m args below meth c _ D ad cA maxL pc (bif Nat.beq q.1 pc then opOf K q.2 else tl K r pc)
    cases hb : Nat.beq q.1 pc with
    | true =>
      have e1 : q.1 = pc := Nat.eq_of_beq_eq_true hb
      rw [← e1]
      exact h q List.mem_cons_self
    | false => exact ih (fun q hq => h q (List.mem_cons_of_mem _ hq))
theorem inX0 : ∀ w ∈ u_ws RX0 TX0 11, w ∈ TT := by
  intro w h
  obtain ⟨k, hk, rfl⟩ := List.mem_map.mp h
  have hk := List.mem_range.mp hk
  match k, hk with
  | 0, _ => exact tw1_239
  | 1, _ => exact tw2_1
  | 2, _ => exact tw2_3
  | 3, _ => exact tw2_5
  | 4, _ => exact tw2_7
  | 5, _ => exact tw2_9
  | 6, _ => exact tw2_11
  | 7, _ => exact tw2_13
  | 8, _ => exact tw2_15
  | 9, _ => exact tw2_17
  | 10, _ => exact tw2_19
  | k + 11, h => exact absurd h (by omega)
theorem inX1 : ∀ w ∈ u_ws RX1 TX1 2, w ∈ TT := by
  intro w h
  obtain ⟨k, hk, rfl⟩ := List.mem_map.mp h
  have hk := List.mem_range.mp hk
  match k, hk with
  | 0, _ => exact tw1_199
  | 1, _ => exact tw1_201
  | k + 2, h => exact absurd h (by omega)
theorem inX2 : ∀ w ∈ u_ws RX2 TX2 9, w ∈ TT := by
  intro w h
  obtain ⟨k, hk, rfl⟩ := List.mem_map.mp h
  have hk := List.mem_range.mp hk
  match k, hk with
  | 0, _ => exact tw2_40
  | 1, _ => exact tw2_42
  | 2, _ => exact tw2_44
  | 3, _ => exact tw2_46
  | 4, _ => exact tw2_48
  | 5, _ => exact tw2_50
  | 6, _ => exact tw2_52
  | 7, _ => exact tw2_54
  | 8, _ => exact tw2_56
  | k + 9, h => exact absurd h (by omega)
theorem inX3 : ∀ w ∈ u_ws RX3 TX3 3, w ∈ TT := by
  intro w h
  obtain ⟨k, hk, rfl⟩ := List.mem_map.mp h
  have hk := List.mem_range.mp hk
  match k, hk with
  | 0, _ => exact tw1_213
  | 1, _ => exact tw1_215
  | 2, _ => exact tw1_217
  | k + 3, h => exact absurd h (by omega)
theorem inX4 : ∀ w ∈ u_ws RX4 TX4 5, w ∈ TT := by
  intro w h
  obtain ⟨k, hk, rfl⟩ := List.mem_map.mp h
  have hk := List.mem_range.mp hk
  match k, hk with
  | 0, _ => exact tw2_107
  | 1, _ => exact tw2_109
  | 2, _ => exact tw2_111
  | 3, _ => exact tw2_113
  | 4, _ => exact tw2_115
  | k + 5, h => exact absurd h (by omega)
theorem inX5 : ∀ w ∈ u_ws RX5 TX5 4, w ∈ TT := by
  intro w h
  obtain ⟨k, hk, rfl⟩ := List.mem_map.mp h
  have hk := List.mem_range.mp hk
  match k, hk with
  | 0, _ => exact tw1_175
  | 1, _ => exact tw1_177
  | 2, _ => exact tw1_179
  | 3, _ => exact tw1_181
  | k + 4, h => exact absurd h (by omega)
theorem inX6 : ∀ w ∈ u_ws RX6 TX6 5, w ∈ TT := by
  intro w h
  obtain ⟨k, hk, rfl⟩ := List.mem_map.mp h
  have hk := List.mem_range.mp hk
  match k, hk with
  | 0, _ => exact tw1_147
  | 1, _ => exact tw1_149
  | 2, _ => exact tw1_151
  | 3, _ => exact tw1_153
  | 4, _ => exact tw1_155
  | k + 5, h => exact absurd h (by omega)
theorem inX7 : ∀ w ∈ u_ws RX7 TX7 8, w ∈ TT := by
  intro w h
  obtain ⟨k, hk, rfl⟩ := List.mem_map.mp h
  have hk := List.mem_range.mp hk
  match k, hk with
  | 0, _ => exact tw2_78
  | 1, _ => exact tw2_80
  | 2, _ => exact tw2_82
  | 3, _ => exact tw2_84
  | 4, _ => exact tw2_86
  | 5, _ => exact tw2_88
  | 6, _ => exact tw2_90
  | 7, _ => exact tw2_92
  | k + 8, h => exact absurd h (by omega)
theorem inX8 : ∀ w ∈ u_ws RX8 TX8 8, w ∈ TT := by
  intro w h
  obtain ⟨k, hk, rfl⟩ := List.mem_map.mp h
  have hk := List.mem_range.mp hk
  match k, hk with
  | 0, _ => exact tw1_50
  | 1, _ => exact tw1_52
  | 2, _ => exact tw1_54
  | 3, _ => exact tw1_56
  | 4, _ => exact tw1_58
  | 5, _ => exact tw1_60
  | 6, _ => exact tw1_62
  | 7, _ => exact tw1_64
  | k + 8, h => exact absurd h (by omega)
theorem inX9 : ∀ w ∈ u_ws RX9 TX9 10, w ∈ TT := by
  intro w h
  obtain ⟨k, hk, rfl⟩ := List.mem_map.mp h
  have hk := List.mem_range.mp hk
  match k, hk with
  | 0, _ => exact tw1_115
  | 1, _ => exact tw1_117
  | 2, _ => exact tw1_119
  | 3, _ => exact tw1_121
  | 4, _ => exact tw1_123
  | 5, _ => exact tw1_125
  | 6, _ => exact tw1_127
  | 7, _ => exact tw1_129
  | 8, _ => exact tw1_131
  | 9, _ => exact tw1_133
  | k + 10, h => exact absurd h (by omega)
theorem inX10 : ∀ w ∈ u_ws RX10 TX10 13, w ∈ TT := by
  intro w h
  obtain ⟨k, hk, rfl⟩ := List.mem_map.mp h
  have hk := List.mem_range.mp hk
  match k, hk with
  | 0, _ => exact tw2_131
  | 1, _ => exact tw2_133
  | 2, _ => exact tw2_135
  | 3, _ => exact tw2_137
  | 4, _ => exact tw2_139
  | 5, _ => exact tw2_141
  | 6, _ => exact tw2_143
  | 7, _ => exact tw2_145
  | 8, _ => exact tw2_147
  | 9, _ => exact tw2_149
  | 10, _ => exact tw2_151
  | 11, _ => exact tw2_153
  | 12, _ => exact tw2_155
  | k + 13, h => exact absurd h (by omega)
theorem inX11 : ∀ w ∈ u_ws RX11 TX11 28, w ∈ TT := by
  intro w h
  obtain ⟨k, hk, rfl⟩ := List.mem_map.mp h
  have hk := List.mem_range.mp hk
  match k, hk with
  | 0, _ => exact tw6_39
  | 1, _ => exact tw6_41
  | 2, _ => exact tw6_43
  | 3, _ => exact tw6_45
  | 4, _ => exact tw6_47
  | 5, _ => exact tw6_49
  | 6, _ => exact tw6_51
  | 7, _ => exact tw6_53
  | 8, _ => exact tw6_55
  | 9, _ => exact tw6_57
  | 10, _ => exact tw6_59
  | 11, _ => exact tw6_61
  | 12, _ => exact tw6_63
  | 13, _ => exact tw6_65
  | 14, _ => exact tw6_67
  | 15, _ => exact tw6_69
  | 16, _ => exact tw6_71
  | 17, _ => exact tw6_73
  | 18, _ => exact tw6_75
  | 19, _ => exact tw6_77
  | 20, _ => exact tw6_79
  | 21, _ => exact tw6_81
  | 22, _ => exact tw6_83
  | 23, _ => exact tw6_85
  | 24, _ => exact tw6_87
  | 25, _ => exact tw6_89
  | 26, _ => exact tw6_91
  | 27, _ => exact tw6_93
  | k + 28, h => exact absurd h (by omega)
theorem twm_max : Cond.code Lib.Math.max.name Lib.Math.max.code 2 (some .int) ∈ TT := tw2_199
theorem twm_min : Cond.code Lib.Math.min.name Lib.Math.min.code 2 (some .int) ∈ TT := tw2_196
