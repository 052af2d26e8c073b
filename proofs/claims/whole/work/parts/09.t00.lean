theorem dX9_trait_0 : decode cX9_trait 0 = .ok (.aload_n 0, 1) := by decide +kernel
theorem dX9_trait_1 : decode cX9_trait 1 = .ok (.getfield 23, 3) := by decide +kernel
theorem dX9_trait_4 : decode cX9_trait 4 = .ok (.iload_n 1, 1) := by decide +kernel
theorem dX9_trait_5 : decode cX9_trait 5 = .ok (.iconst 4, 1) := by decide +kernel
theorem dX9_trait_6 : decode cX9_trait 6 = .ok (.imul, 1) := by decide +kernel
theorem dX9_trait_7 : decode cX9_trait 7 = .ok (.iload_n 2, 1) := by decide +kernel
theorem dX9_trait_8 : decode cX9_trait 8 = .ok (.iadd, 1) := by decide +kernel
theorem dX9_trait_9 : decode cX9_trait 9 = .ok (.iaload, 1) := by decide +kernel
theorem dX9_trait_10 : decode cX9_trait 10 = .ok (.ireturn, 1) := by decide +kernel
def lX9_trait : List (Nat × (Op ⊕ Nat)) := [(0, .inl (o_aload 0 1)), (1, .inl (o_get 9 3 4)), (4, .inl (o_iload 1 5)), (5, .inl (o_pushI (nI 4) 6)), (6, .inl (o_imul 7)), (7, .inl (o_iload 2 8)), (8, .inl (o_iadd 9)), (9, .inl (o_iald 10)), (10, .inr 0)]
theorem qX9_trait : yX9_trait.cls = RX9 ∧ yX9_trait.cls ≠ "java/lang/invoke/MethodHandle" ∧ yX9_trait.cls ≠ "java/lang/invoke/VarHandle" ∧ (parseMethodDescriptor yX9_trait.desc).map (fun d => d.parameters.length) = some 2 := by decide +kernel
set_option maxRecDepth 10000 in
theorem hX9_trait_0 (l : Launch) {p : Program} {e : Env} {s : State} {m : MethodId} {args : Array Value} {below : List Frame} {meth : Method} {c : Code} {D : va_G} {ad adV : Nat → Nat} {cA : Nat → ClassId} {K : Kt} (C0 : Cx p s m args meth c D ad adV cA cX9_trait 3 RX9) (hr : meth.sig.returnType = (some .int)) : ∀ q ∈ lX9_trait, Sd p l e (rmd 0) s m args below meth c (MQ below (QQ D ad cA K) args s 0 0 (AA ad)) D ad cA 3 q.1 (opOf K q.2) := List.forall_mem_cons.mpr ⟨s_aload_n C0 dX9_trait_0 rfl, List.forall_mem_cons.mpr ⟨s_get (ci := 9) (k := 3) C0 dX9_trait_1 inX9 rfl (by decide) tw1_91, List.forall_mem_cons.mpr ⟨s_iload_n C0 dX9_trait_4 rfl, List.forall_mem_cons.mpr ⟨s_iconst C0 dX9_trait_5 rfl, List.forall_mem_cons.mpr ⟨s_imul C0 dX9_trait_6, List.forall_mem_cons.mpr ⟨s_iload_n C0 dX9_trait_7 rfl, List.forall_mem_cons.mpr ⟨s_iadd C0 dX9_trait_8, List.forall_mem_cons.mpr ⟨s_iald C0 dX9_trait_9, List.forall_mem_cons.mpr ⟨s_iret C0 hr dX9_trait_10, fun _ h => absurd h List.not_mem_nil⟩⟩⟩⟩⟩⟩⟩⟩⟩
def fX9_trait : Mf := mf 3 (fun K => tl K lX9_trait)
theorem kX9_trait (l : Launch) : Okm l yX9_trait cX9_trait 3 (some .int) 0 fX9_trait := Okm_tl (own := RX9) (by decide +kernel) rfl (fun C0 hr => hX9_trait_0 l C0 hr)
theorem dX9_fact_0 : decode cX9_fact 0 = .ok (.aload_n 0, 1) := by decide +kernel
theorem dX9_fact_1 : decode cX9_fact 1 = .ok (.getfield 29, 3) := by decide +kernel
theorem dX9_fact_4 : decode cX9_fact 4 = .ok (.iload_n 1, 1) := by decide +kernel
theorem dX9_fact_5 : decode cX9_fact 5 = .ok (.iconst 3, 1) := by decide +kernel
theorem dX9_fact_6 : decode cX9_fact 6 = .ok (.imul, 1) := by decide +kernel
theorem dX9_fact_7 : decode cX9_fact 7 = .ok (.iload_n 2, 1) := by decide +kernel
theorem dX9_fact_8 : decode cX9_fact 8 = .ok (.iadd, 1) := by decide +kernel
theorem dX9_fact_9 : decode cX9_fact 9 = .ok (.iaload, 1) := by decide +kernel
theorem dX9_fact_10 : decode cX9_fact 10 = .ok (.ireturn, 1) := by decide +kernel
def lX9_fact : List (Nat × (Op ⊕ Nat)) := [(0, .inl (o_aload 0 1)), (1, .inl (o_get 9 5 4)), (4, .inl (o_iload 1 5)), (5, .inl (o_pushI (nI 3) 6)), (6, .inl (o_imul 7)), (7, .inl (o_iload 2 8)), (8, .inl (o_iadd 9)), (9, .inl (o_iald 10)), (10, .inr 0)]
theorem qX9_fact : yX9_fact.cls = RX9 ∧ yX9_fact.cls ≠ "java/lang/invoke/MethodHandle" ∧ yX9_fact.cls ≠ "java/lang/invoke/VarHandle" ∧ (parseMethodDescriptor yX9_fact.desc).map (fun d => d.parameters.length) = some 2 := by decide +kernel
set_option maxRecDepth 10000 in
theorem hX9_fact_0 (l : Launch) {p : Program} {e : Env} {s : State} {m : MethodId} {args : Array Value} {below : List Frame} {meth : Method} {c : Code} {D : va_G} {ad adV : Nat → Nat} {cA : Nat → ClassId} {K : Kt} (C0 : Cx p s m args meth c D ad adV cA cX9_fact 3 RX9) (hr : meth.sig.returnType = (some .int)) : ∀ q ∈ lX9_fact, Sd p l e (rmd 0) s m args below meth c (MQ below (QQ D ad cA K) args s 0 0 (AA ad)) D ad cA 3 q.1 (opOf K q.2) := List.forall_mem_cons.mpr ⟨s_aload_n C0 dX9_fact_0 rfl, List.forall_mem_cons.mpr ⟨s_get (ci := 9) (k := 5) C0 dX9_fact_1 inX9 rfl (by decide) tw1_99, List.forall_mem_cons.mpr ⟨s_iload_n C0 dX9_fact_4 rfl, List.forall_mem_cons.mpr ⟨s_iconst C0 dX9_fact_5 rfl, List.forall_mem_cons.mpr ⟨s_imul C0 dX9_fact_6, List.forall_mem_cons.mpr ⟨s_iload_n C0 dX9_fact_7 rfl, List.forall_mem_cons.mpr ⟨s_iadd C0 dX9_fact_8, List.forall_mem_cons.mpr ⟨s_iald C0 dX9_fact_9, List.forall_mem_cons.mpr ⟨s_iret C0 hr dX9_fact_10, fun _ h => absurd h List.not_mem_nil⟩⟩⟩⟩⟩⟩⟩⟩⟩
def fX9_fact : Mf := mf 3 (fun K => tl K lX9_fact)
theorem kX9_fact (l : Launch) : Okm l yX9_fact cX9_fact 3 (some .int) 0 fX9_fact := Okm_tl (own := RX9) (by decide +kernel) rfl (fun C0 hr => hX9_fact_0 l C0 hr)
theorem dX1_fullThrows_0 : decode cX1_fullThrows 0 = .ok (.aload_n 0, 1) := by decide +kernel
theorem dX1_fullThrows_1 : decode cX1_fullThrows 1 = .ok (.getfield 9, 3) := by decide +kernel
theorem dX1_fullThrows_4 : decode cX1_fullThrows 4 = .ok (.iload_n 1, 1) := by decide +kernel
theorem dX1_fullThrows_5 : decode cX1_fullThrows 5 = .ok (.iconst 1, 1) := by decide +kernel
theorem dX1_fullThrows_6 : decode cX1_fullThrows 6 = .ok (.invokevirtual 29, 3) := by decide +kernel
theorem dX1_fullThrows_9 : decode cX1_fullThrows 9 = .ok (.aload_n 0, 1) := by decide +kernel
theorem dX1_fullThrows_10 : decode cX1_fullThrows 10 = .ok (.getfield 9, 3) := by decide +kernel
theorem dX1_fullThrows_13 : decode cX1_fullThrows 13 = .ok (.iload_n 2, 1) := by decide +kernel
theorem dX1_fullThrows_14 : decode cX1_fullThrows 14 = .ok (.iconst 2, 1) := by decide +kernel
theorem dX1_fullThrows_15 : decode cX1_fullThrows 15 = .ok (.invokevirtual 19, 3) := by decide +kernel
theorem dX1_fullThrows_18 : decode cX1_fullThrows 18 = .ok (.invokestatic 40, 3) := by decide +kernel
theorem dX1_fullThrows_21 : decode cX1_fullThrows 21 = .ok (.ireturn, 1) := by decide +kernel
def lX1_fullThrows : List (Nat × (Op ⊕ Nat)) := [(0, .inl (o_aload 0 1)), (1, .inl (o_get 1 0 4)), (4, .inl (o_iload 1 5)), (5, .inl (o_pushI (nI 1) 6)), (6, .inl (o_callV fX9_trait 2 9 9)), (9, .inl (o_aload 0 10)), (10, .inl (o_get 1 0 13)), (13, .inl (o_iload 2 14)), (14, .inl (o_pushI (nI 2) 15)), (15, .inl (o_callV fX9_fact 2 9 18)), (18, .inl (o_min 21)), (21, .inr 0)]
theorem qX1_fullThrows : yX1_fullThrows.cls = RX1 ∧ yX1_fullThrows.cls ≠ "java/lang/invoke/MethodHandle" ∧ yX1_fullThrows.cls ≠ "java/lang/invoke/VarHandle" ∧ (parseMethodDescriptor yX1_fullThrows.desc).map (fun d => d.parameters.length) = some 2 := by decide +kernel
set_option maxRecDepth 10000 in
theorem hX1_fullThrows_0 (l : Launch) {p : Program} {e : Env} {s : State} {m : MethodId} {args : Array Value} {below : List Frame} {meth : Method} {c : Code} {D : va_G} {ad adV : Nat → Nat} {cA : Nat → ClassId} {K : Kt} (C0 : Cx p s m args meth c D ad adV cA cX1_fullThrows 3 RX1) (hr : meth.sig.returnType = (some .int)) : ∀ q ∈ lX1_fullThrows, Sd p l e (rmd 1) s m args below meth c (MQ below (QQ D ad cA K) args s 0 0 (AA ad)) D ad cA 3 q.1 (opOf K q.2) := List.forall_mem_cons.mpr ⟨s_aload_n C0 dX1_fullThrows_0 rfl, List.forall_mem_cons.mpr ⟨s_get (ci := 1) (k := 0) C0 dX1_fullThrows_1 inX1 rfl (by decide) tw1_190, List.forall_mem_cons.mpr ⟨s_iload_n C0 dX1_fullThrows_4 rfl, List.forall_mem_cons.mpr ⟨s_iconst C0 dX1_fullThrows_5 rfl, List.forall_mem_cons.mpr ⟨s_callV (ci := 9) C0 (kX9_trait l) dX1_fullThrows_6 rfl qX9_trait tw3_205 tw3_73 tw3_74 tw1_4 tw3_75 rfl (by decide) (by decide), List.forall_mem_cons.mpr ⟨s_aload_n C0 dX1_fullThrows_9 rfl, List.forall_mem_cons.mpr ⟨s_get (ci := 1) (k := 0) C0 dX1_fullThrows_10 inX1 rfl (by decide) tw1_190, List.forall_mem_cons.mpr ⟨s_iload_n C0 dX1_fullThrows_13 rfl, List.forall_mem_cons.mpr ⟨s_iconst C0 dX1_fullThrows_14 rfl, List.forall_mem_cons.mpr ⟨s_callV (ci := 9) C0 (kX9_fact l) dX1_fullThrows_15 rfl qX9_fact tw3_211 tw3_92 tw3_93 tw1_4 tw3_94 rfl (by decide) (by decide), List.forall_mem_cons.mpr ⟨s_min C0 dX1_fullThrows_18 tw3_206 tw2_195 tw1_14 twm_min rfl (by decide), List.forall_mem_cons.mpr ⟨s_iret C0 hr dX1_fullThrows_21, fun _ h => absurd h List.not_mem_nil⟩⟩⟩⟩⟩⟩⟩⟩⟩⟩⟩⟩
def fX1_fullThrows : Mf := mf 3 (fun K => tl K lX1_fullThrows)
theorem kX1_fullThrows (l : Launch) : Okm l yX1_fullThrows cX1_fullThrows 3 (some .int) 1 fX1_fullThrows := Okm_tl (own := RX1) (by decide +kernel) rfl (fun C0 hr => hX1_fullThrows_0 l C0 hr)
theorem dX1_pointsOf_0 : decode cX1_pointsOf 0 = .ok (.aload_n 0, 1) := by decide +kernel
theorem dX1_pointsOf_1 : decode cX1_pointsOf 1 = .ok (.getfield 9, 3) := by decide +kernel
theorem dX1_pointsOf_4 : decode cX1_pointsOf 4 = .ok (.iload_n 2, 1) := by decide +kernel
theorem dX1_pointsOf_5 : decode cX1_pointsOf 5 = .ok (.iconst 1, 1) := by decide +kernel
theorem dX1_pointsOf_6 : decode cX1_pointsOf 6 = .ok (.invokevirtual 19, 3) := by decide +kernel
theorem dX1_pointsOf_9 : decode cX1_pointsOf 9 = .ok (.istore_n 3, 1) := by decide +kernel
theorem dX1_pointsOf_10 : decode cX1_pointsOf 10 = .ok (.bipush 9, 2) := by decide +kernel
theorem dX1_pointsOf_12 : decode cX1_pointsOf 12 = .ok (.iload_n 3, 1) := by decide +kernel
theorem dX1_pointsOf_13 : decode cX1_pointsOf 13 = .ok (.isub, 1) := by decide +kernel
theorem dX1_pointsOf_14 : decode cX1_pointsOf 14 = .ok (.istore 4, 2) := by decide +kernel
theorem dX1_pointsOf_16 : decode cX1_pointsOf 16 = .ok (.aload_n 0, 1) := by decide +kernel
theorem dX1_pointsOf_17 : decode cX1_pointsOf 17 = .ok (.getfield 9, 3) := by decide +kernel
theorem dX1_pointsOf_20 : decode cX1_pointsOf 20 = .ok (.getfield 25, 3) := by decide +kernel
theorem dX1_pointsOf_23 : decode cX1_pointsOf 23 = .ok (.iload_n 1, 1) := by decide +kernel
theorem dX1_pointsOf_24 : decode cX1_pointsOf 24 = .ok (.iaload, 1) := by decide +kernel
theorem dX1_pointsOf_25 : decode cX1_pointsOf 25 = .ok (.iconst 1, 1) := by decide +kernel
theorem dX1_pointsOf_26 : decode cX1_pointsOf 26 = .ok (.if_icmp .ne 10, 3) := by decide +kernel
theorem dX1_pointsOf_29 : decode cX1_pointsOf 29 = .ok (.iload 4, 2) := by decide +kernel
theorem dX1_pointsOf_31 : decode cX1_pointsOf 31 = .ok (.iload_n 3, 1) := by decide +kernel
theorem dX1_pointsOf_32 : decode cX1_pointsOf 32 = .ok (.isub, 1) := by decide +kernel
theorem dX1_pointsOf_33 : decode cX1_pointsOf 33 = .ok (.goto 7, 3) := by decide +kernel
theorem dX1_pointsOf_36 : decode cX1_pointsOf 36 = .ok (.iload_n 3, 1) := by decide +kernel
theorem dX1_pointsOf_37 : decode cX1_pointsOf 37 = .ok (.iload 4, 2) := by decide +kernel
theorem dX1_pointsOf_39 : decode cX1_pointsOf 39 = .ok (.isub, 1) := by decide +kernel
theorem dX1_pointsOf_40 : decode cX1_pointsOf 40 = .ok (.istore 5, 2) := by decide +kernel
theorem dX1_pointsOf_42 : decode cX1_pointsOf 42 = .ok (.iconst 0, 1) := by decide +kernel
theorem dX1_pointsOf_43 : decode cX1_pointsOf 43 = .ok (.aload_n 0, 1) := by decide +kernel
theorem dX1_pointsOf_44 : decode cX1_pointsOf 44 = .ok (.getfield 9, 3) := by decide +kernel
theorem dX1_pointsOf_47 : decode cX1_pointsOf 47 = .ok (.iload_n 1, 1) := by decide +kernel
theorem dX1_pointsOf_48 : decode cX1_pointsOf 48 = .ok (.iconst 0, 1) := by decide +kernel
theorem dX1_pointsOf_49 : decode cX1_pointsOf 49 = .ok (.invokevirtual 29, 3) := by decide +kernel
theorem dX1_pointsOf_52 : decode cX1_pointsOf 52 = .ok (.aload_n 0, 1) := by decide +kernel
theorem dX1_pointsOf_53 : decode cX1_pointsOf 53 = .ok (.getfield 9, 3) := by decide +kernel
theorem dX1_pointsOf_56 : decode cX1_pointsOf 56 = .ok (.getfield 32, 3) := by decide +kernel
theorem dX1_pointsOf_59 : decode cX1_pointsOf 59 = .ok (.iconst 1, 1) := by decide +kernel
theorem dX1_pointsOf_60 : decode cX1_pointsOf 60 = .ok (.iaload, 1) := by decide +kernel
theorem dX1_pointsOf_61 : decode cX1_pointsOf 61 = .ok (.iload 5, 2) := by decide +kernel
theorem dX1_pointsOf_63 : decode cX1_pointsOf 63 = .ok (.imul, 1) := by decide +kernel
theorem dX1_pointsOf_64 : decode cX1_pointsOf 64 = .ok (.iadd, 1) := by decide +kernel
theorem dX1_pointsOf_65 : decode cX1_pointsOf 65 = .ok (.invokestatic 35, 3) := by decide +kernel
theorem dX1_pointsOf_68 : decode cX1_pointsOf 68 = .ok (.ireturn, 1) := by decide +kernel
def lX1_pointsOf_0 : List (Nat × (Op ⊕ Nat)) := [(0, .inl (o_aload 0 1)), (1, .inl (o_get 1 0 4)), (4, .inl (o_iload 2 5)), (5, .inl (o_pushI (nI 1) 6)), (6, .inl (o_callV fX9_fact 2 9 9)), (9, .inl (o_istore 3 10)), (10, .inl (o_pushI (nI 9) 12)), (12, .inl (o_iload 3 13)), (13, .inl (o_isub 14)), (14, .inl (o_istore 4 16)), (16, .inl (o_aload 0 17)), (17, .inl (o_get 1 0 20)), (20, .inl (o_get 9 2 23)), (23, .inl (o_iload 1 24)), (24, .inl (o_iald 25)), (25, .inl (o_pushI (nI 1) 26)), (26, .inl (o_icmp_ne 36 29)), (29, .inl (o_iload 4 31)), (31, .inl (o_iload 3 32)), (32, .inl (o_isub 33)), (33, .inl (o_goto 40)), (36, .inl (o_iload 3 37)), (37, .inl (o_iload 4 39)), (39, .inl (o_isub 40)), (40, .inl (o_istore 5 42)), (42, .inl (o_pushI (nI 0) 43)), (43, .inl (o_aload 0 44)), (44, .inl (o_get 1 0 47)), (47, .inl (o_iload 1 48)), (48, .inl (o_pushI (nI 0) 49)), (49, .inl (o_callV fX9_trait 2 9 52)), (52, .inl (o_aload 0 53)), (53, .inl (o_get 1 0 56)), (56, .inl (o_get 9 6 59)), (59, .inl (o_pushI (nI 1) 60)), (60, .inl (o_iald 61)), (61, .inl (o_iload 5 63)), (63, .inl (o_imul 64)), (64, .inl (o_iadd 65)), (65, .inl (o_max 68))]
def lX1_pointsOf_1 : List (Nat × (Op ⊕ Nat)) := [(68, .inr 0)]
def lX1_pointsOf : List (Nat × (Op ⊕ Nat)) := lX1_pointsOf_0 ++ (lX1_pointsOf_1)
theorem qX1_pointsOf : yX1_pointsOf.cls = RX1 ∧ yX1_pointsOf.cls ≠ "java/lang/invoke/MethodHandle" ∧ yX1_pointsOf.cls ≠ "java/lang/invoke/VarHandle" ∧ (parseMethodDescriptor yX1_pointsOf.desc).map (fun d => d.parameters.length) = some 2 := by decide +kernel
set_option maxRecDepth 10000 in
theorem hX1_pointsOf_0 (l : Launch) {p : Program} {e : Env} {s : State} {m : MethodId} {args : Array Value} {below : List Frame} {meth : Method} {c : Code} {D : va_G} {ad adV : Nat → Nat} {cA : Nat → ClassId} {K : Kt} (C0 : Cx p s m args meth c D ad adV cA cX1_pointsOf 6 RX1) (hr : meth.sig.returnType = (some .int)) : ∀ q ∈ lX1_pointsOf_0, Sd p l e (rmd 1) s m args below meth c (MQ below (QQ D ad cA K) args s 0 0 (AA ad)) D ad cA 6 q.1 (opOf K q.2) := List.forall_mem_cons.mpr ⟨s_aload_n C0 dX1_pointsOf_0 rfl, List.forall_mem_cons.mpr ⟨s_get (ci := 1) (k := 0) C0 dX1_pointsOf_1 inX1 rfl (by decide) tw1_190, List.forall_mem_cons.mpr ⟨s_iload_n C0 dX1_pointsOf_4 rfl, List.forall_mem_cons.mpr ⟨s_iconst C0 dX1_pointsOf_5 rfl, List.forall_mem_cons.mpr ⟨s_callV (ci := 9) C0 (kX9_fact l) dX1_pointsOf_6 rfl qX9_fact tw3_211 tw3_92 tw3_93 tw1_4 tw3_94 rfl (by decide) (by decide), List.forall_mem_cons.mpr ⟨s_istore_n C0 dX1_pointsOf_9 rfl (by decide), List.forall_mem_cons.mpr ⟨s_bipush C0 dX1_pointsOf_10 (by decide +kernel), List.forall_mem_cons.mpr ⟨s_iload_n C0 dX1_pointsOf_12 rfl, List.forall_mem_cons.mpr ⟨s_isub C0 dX1_pointsOf_13, List.forall_mem_cons.mpr ⟨s_istore C0 dX1_pointsOf_14 (by decide), List.forall_mem_cons.mpr ⟨s_aload_n C0 dX1_pointsOf_16 rfl, List.forall_mem_cons.mpr ⟨s_get (ci := 1) (k := 0) C0 dX1_pointsOf_17 inX1 rfl (by decide) tw1_190, List.forall_mem_cons.mpr ⟨s_get (ci := 9) (k := 2) C0 dX1_pointsOf_20 inX9 rfl (by decide) tw1_88, List.forall_mem_cons.mpr ⟨s_iload_n C0 dX1_pointsOf_23 rfl, List.forall_mem_cons.mpr ⟨s_iald C0 dX1_pointsOf_24, List.forall_mem_cons.mpr ⟨s_iconst C0 dX1_pointsOf_25 rfl, List.forall_mem_cons.mpr ⟨s_icmp_ne C0 dX1_pointsOf_26 rfl, List.forall_mem_cons.mpr ⟨s_iload C0 dX1_pointsOf_29, List.forall_mem_cons.mpr ⟨s_iload_n C0 dX1_pointsOf_31 rfl, List.forall_mem_cons.mpr ⟨s_isub C0 dX1_pointsOf_32, List.forall_mem_cons.mpr ⟨s_goto C0 dX1_pointsOf_33 rfl, List.forall_mem_cons.mpr ⟨s_iload_n C0 dX1_pointsOf_36 rfl, List.forall_mem_cons.mpr ⟨s_iload C0 dX1_pointsOf_37, List.forall_mem_cons.mpr ⟨s_isub C0 dX1_pointsOf_39, List.forall_mem_cons.mpr ⟨s_istore C0 dX1_pointsOf_40 (by decide), List.forall_mem_cons.mpr ⟨s_iconst C0 dX1_pointsOf_42 rfl, List.forall_mem_cons.mpr ⟨s_aload_n C0 dX1_pointsOf_43 rfl, List.forall_mem_cons.mpr ⟨s_get (ci := 1) (k := 0) C0 dX1_pointsOf_44 inX1 rfl (by decide) tw1_190, List.forall_mem_cons.mpr ⟨s_iload_n C0 dX1_pointsOf_47 rfl, List.forall_mem_cons.mpr ⟨s_iconst C0 dX1_pointsOf_48 rfl, List.forall_mem_cons.mpr ⟨s_callV (ci := 9) C0 (kX9_trait l) dX1_pointsOf_49 rfl qX9_trait tw3_205 tw3_73 tw3_74 tw1_4 tw3_75 rfl (by decide) (by decide), List.forall_mem_cons.mpr ⟨s_aload_n C0 dX1_pointsOf_52 rfl, List.forall_mem_cons.mpr ⟨s_get (ci := 1) (k := 0) C0 dX1_pointsOf_53 inX1 rfl (by decide) tw1_190, List.forall_mem_cons.mpr ⟨s_get (ci := 9) (k := 6) C0 dX1_pointsOf_56 inX9 rfl (by decide) tw1_102, List.forall_mem_cons.mpr ⟨s_iconst C0 dX1_pointsOf_59 rfl, List.forall_mem_cons.mpr ⟨s_iald C0 dX1_pointsOf_60, List.forall_mem_cons.mpr ⟨s_iload C0 dX1_pointsOf_61, List.forall_mem_cons.mpr ⟨s_imul C0 dX1_pointsOf_63, List.forall_mem_cons.mpr ⟨s_iadd C0 dX1_pointsOf_64, List.forall_mem_cons.mpr ⟨s_max C0 dX1_pointsOf_65 tw3_212 tw2_198 tw1_14 twm_max rfl (by decide), fun _ h => absurd h List.not_mem_nil⟩⟩⟩⟩⟩⟩⟩⟩⟩⟩⟩⟩⟩⟩⟩⟩⟩⟩⟩⟩⟩⟩⟩⟩⟩⟩⟩⟩⟩⟩⟩⟩⟩⟩⟩⟩⟩⟩⟩⟩
set_option maxRecDepth 10000 in
theorem hX1_pointsOf_1 (l : Launch) {p : Program} {e : Env} {s : State} {m : MethodId} {args : Array Value} {below : List Frame} {meth : Method} {c : Code} {D : va_G} {ad adV : Nat → Nat} {cA : Nat → ClassId} {K : Kt} (C0 : Cx p s m args meth c D ad adV cA cX1_pointsOf 6 RX1) (hr : meth.sig.returnType = (some .int)) : ∀ q ∈ lX1_pointsOf_1, Sd p l e (rmd 1) s m args below meth c (MQ below (QQ D ad cA K) args s 0 0 (AA ad)) D ad cA 6 q.1 (opOf K q.2) := List.forall_mem_cons.mpr ⟨s_iret C0 hr dX1_pointsOf_68, fun _ h => absurd h List.not_mem_nil⟩
def fX1_pointsOf : Mf := mf 6 (fun K => tl K lX1_pointsOf)
theorem kX1_pointsOf (l : Launch) : Okm l yX1_pointsOf cX1_pointsOf 6 (some .int) 1 fX1_pointsOf := Okm_tl (own := RX1) (by decide +kernel) rfl (fun C0 hr => List.forall_mem_append.mpr ⟨hX1_pointsOf_0 l C0 hr, hX1_pointsOf_1 l C0 hr⟩)
theorem dX1_valueOf_0 : decode cX1_valueOf 0 = .ok (.iload_n 3, 1) := by decide +kernel
theorem dX1_valueOf_1 : decode cX1_valueOf 1 = .ok (.aload_n 0, 1) := by decide +kernel
theorem dX1_valueOf_2 : decode cX1_valueOf 2 = .ok (.getfield 9, 3) := by decide +kernel
theorem dX1_valueOf_5 : decode cX1_valueOf 5 = .ok (.iload_n 1, 1) := by decide +kernel
theorem dX1_valueOf_6 : decode cX1_valueOf 6 = .ok (.iconst 2, 1) := by decide +kernel
theorem dX1_valueOf_7 : decode cX1_valueOf 7 = .ok (.invokevirtual 29, 3) := by decide +kernel
theorem dX1_valueOf_10 : decode cX1_valueOf 10 = .ok (.invokestatic 40, 3) := by decide +kernel
theorem dX1_valueOf_13 : decode cX1_valueOf 13 = .ok (.istore 4, 2) := by decide +kernel
theorem dX1_valueOf_15 : decode cX1_valueOf 15 = .ok (.aload_n 0, 1) := by decide +kernel
theorem dX1_valueOf_16 : decode cX1_valueOf 16 = .ok (.iload_n 1, 1) := by decide +kernel
theorem dX1_valueOf_17 : decode cX1_valueOf 17 = .ok (.iload_n 2, 1) := by decide +kernel
theorem dX1_valueOf_18 : decode cX1_valueOf 18 = .ok (.invokevirtual 43, 3) := by decide +kernel
theorem dX1_valueOf_21 : decode cX1_valueOf 21 = .ok (.istore 5, 2) := by decide +kernel
theorem dX1_valueOf_23 : decode cX1_valueOf 23 = .ok (.iload 5, 2) := by decide +kernel
theorem dX1_valueOf_25 : decode cX1_valueOf 25 = .ok (.iload 4, 2) := by decide +kernel
theorem dX1_valueOf_27 : decode cX1_valueOf 27 = .ok (.imul, 1) := by decide +kernel
theorem dX1_valueOf_28 : decode cX1_valueOf 28 = .ok (.iload 5, 2) := by decide +kernel
theorem dX1_valueOf_30 : decode cX1_valueOf 30 = .ok (.iload_n 3, 1) := by decide +kernel
theorem dX1_valueOf_31 : decode cX1_valueOf 31 = .ok (.iload 4, 2) := by decide +kernel
theorem dX1_valueOf_33 : decode cX1_valueOf 33 = .ok (.isub, 1) := by decide +kernel
theorem dX1_valueOf_34 : decode cX1_valueOf 34 = .ok (.imul, 1) := by decide +kernel
theorem dX1_valueOf_35 : decode cX1_valueOf 35 = .ok (.iconst 2, 1) := by decide +kernel
theorem dX1_valueOf_36 : decode cX1_valueOf 36 = .ok (.idiv, 1) := by decide +kernel
theorem dX1_valueOf_37 : decode cX1_valueOf 37 = .ok (.iadd, 1) := by decide +kernel
theorem dX1_valueOf_38 : decode cX1_valueOf 38 = .ok (.ireturn, 1) := by decide +kernel
def lX1_valueOf : List (Nat × (Op ⊕ Nat)) := [(0, .inl (o_iload 3 1)), (1, .inl (o_aload 0 2)), (2, .inl (o_get 1 0 5)), (5, .inl (o_iload 1 6)), (6, .inl (o_pushI (nI 2) 7)), (7, .inl (o_callV fX9_trait 2 9 10)), (10, .inl (o_min 13)), (13, .inl (o_istore 4 15)), (15, .inl (o_aload 0 16)), (16, .inl (o_iload 1 17)), (17, .inl (o_iload 2 18)), (18, .inl (o_callV fX1_pointsOf 2 1 21)), (21, .inl (o_istore 5 23)), (23, .inl (o_iload 5 25)), (25, .inl (o_iload 4 27)), (27, .inl (o_imul 28)), (28, .inl (o_iload 5 30)), (30, .inl (o_iload 3 31)), (31, .inl (o_iload 4 33)), (33, .inl (o_isub 34)), (34, .inl (o_imul 35)), (35, .inl (o_pushI (nI 2) 36)), (36, .inl (o_idiv 37)), (37, .inl (o_iadd 38)), (38, .inr 0)]
theorem qX1_valueOf : yX1_valueOf.cls = RX1 ∧ yX1_valueOf.cls ≠ "java/lang/invoke/MethodHandle" ∧ yX1_valueOf.cls ≠ "java/lang/invoke/VarHandle" ∧ (parseMethodDescriptor yX1_valueOf.desc).map (fun d => d.parameters.length) = some 3 := by decide +kernel
set_option maxRecDepth 10000 in
theorem hX1_valueOf_0 (l : Launch) {p : Program} {e : Env} {s : State} {m : MethodId} {args : Array Value} {below : List Frame} {meth : Method} {c : Code} {D : va_G} {ad adV : Nat → Nat} {cA : Nat → ClassId} {K : Kt} (C0 : Cx p s m args meth c D ad adV cA cX1_valueOf 6 RX1) (hr : meth.sig.returnType = (some .int)) : ∀ q ∈ lX1_valueOf, Sd p l e (rmd 2) s m args below meth c (MQ below (QQ D ad cA K) args s 0 0 (AA ad)) D ad cA 6 q.1 (opOf K q.2) := List.forall_mem_cons.mpr ⟨s_iload_n C0 dX1_valueOf_0 rfl, List.forall_mem_cons.mpr ⟨s_aload_n C0 dX1_valueOf_1 rfl, List.forall_mem_cons.mpr ⟨s_get (ci := 1) (k := 0) C0 dX1_valueOf_2 inX1 rfl (by decide) tw1_190, List.forall_mem_cons.mpr ⟨s_iload_n C0 dX1_valueOf_5 rfl, List.forall_mem_cons.mpr ⟨s_iconst C0 dX1_valueOf_6 rfl, List.forall_mem_cons.mpr ⟨s_callV (ci := 9) C0 (kX9_trait l) dX1_valueOf_7 rfl qX9_trait tw3_205 tw3_73 tw3_74 tw1_4 tw3_75 rfl (by decide) (by decide), List.forall_mem_cons.mpr ⟨s_min C0 dX1_valueOf_10 tw3_206 tw2_195 tw1_14 twm_min rfl (by decide), List.forall_mem_cons.mpr ⟨s_istore C0 dX1_valueOf_13 (by decide), List.forall_mem_cons.mpr ⟨s_aload_n C0 dX1_valueOf_15 rfl, List.forall_mem_cons.mpr ⟨s_iload_n C0 dX1_valueOf_16 rfl, List.forall_mem_cons.mpr ⟨s_iload_n C0 dX1_valueOf_17 rfl, List.forall_mem_cons.mpr ⟨s_callV (ci := 1) C0 (kX1_pointsOf l) dX1_valueOf_18 rfl qX1_pointsOf tw3_207 tw3_208 tw3_209 tw1_6 tw3_210 rfl (by decide) (by decide), List.forall_mem_cons.mpr ⟨s_istore C0 dX1_valueOf_21 (by decide), List.forall_mem_cons.mpr ⟨s_iload C0 dX1_valueOf_23, List.forall_mem_cons.mpr ⟨s_iload C0 dX1_valueOf_25, List.forall_mem_cons.mpr ⟨s_imul C0 dX1_valueOf_27, List.forall_mem_cons.mpr ⟨s_iload C0 dX1_valueOf_28, List.forall_mem_cons.mpr ⟨s_iload_n C0 dX1_valueOf_30 rfl, List.forall_mem_cons.mpr ⟨s_iload C0 dX1_valueOf_31, List.forall_mem_cons.mpr ⟨s_isub C0 dX1_valueOf_33, List.forall_mem_cons.mpr ⟨s_imul C0 dX1_valueOf_34, List.forall_mem_cons.mpr ⟨s_iconst C0 dX1_valueOf_35 rfl, List.forall_mem_cons.mpr ⟨s_idiv C0 dX1_valueOf_36, List.forall_mem_cons.mpr ⟨s_iadd C0 dX1_valueOf_37, List.forall_mem_cons.mpr ⟨s_iret C0 hr dX1_valueOf_38, fun _ h => absurd h List.not_mem_nil⟩⟩⟩⟩⟩⟩⟩⟩⟩⟩⟩⟩⟩⟩⟩⟩⟩⟩⟩⟩⟩⟩⟩⟩⟩
def fX1_valueOf : Mf := mf 6 (fun K => tl K lX1_valueOf)
theorem kX1_valueOf (l : Launch) : Okm l yX1_valueOf cX1_valueOf 6 (some .int) 2 fX1_valueOf := Okm_tl (own := RX1) (by decide +kernel) rfl (fun C0 hr => hX1_valueOf_0 l C0 hr)
theorem dX5_copyLoads_0 : decode cX5_copyLoads 0 = .ok (.aload_n 0, 1) := by decide +kernel
theorem dX5_copyLoads_1 : decode cX5_copyLoads 1 = .ok (.getfield 21, 3) := by decide +kernel
theorem dX5_copyLoads_4 : decode cX5_copyLoads 4 = .ok (.iload_n 1, 1) := by decide +kernel
theorem dX5_copyLoads_5 : decode cX5_copyLoads 5 = .ok (.bipush 20, 2) := by decide +kernel
theorem dX5_copyLoads_7 : decode cX5_copyLoads 7 = .ok (.imul, 1) := by decide +kernel
theorem dX5_copyLoads_8 : decode cX5_copyLoads 8 = .ok (.aload_n 2, 1) := by decide +kernel
theorem dX5_copyLoads_9 : decode cX5_copyLoads 9 = .ok (.iconst 0, 1) := by decide +kernel
theorem dX5_copyLoads_10 : decode cX5_copyLoads 10 = .ok (.bipush 20, 2) := by decide +kernel
theorem dX5_copyLoads_12 : decode cX5_copyLoads 12 = .ok (.invokestatic 28, 3) := by decide +kernel
theorem dX5_copyLoads_15 : decode cX5_copyLoads 15 = .ok (.return_, 1) := by decide +kernel
def lX5_copyLoads : List (Nat × (Op ⊕ Nat)) := [(0, .inl (o_aload 0 1)), (1, .inl (o_get 5 3 4)), (4, .inl (o_iload 1 5)), (5, .inl (o_pushI (nI 20) 7)), (7, .inl (o_imul 8)), (8, .inl (o_aload 2 9)), (9, .inl (o_pushI (nI 0) 10)), (10, .inl (o_pushI (nI 20) 12)), (12, .inl (o_copyI 15)), (15, .inr 3)]
theorem qX5_copyLoads : yX5_copyLoads.cls = RX5 ∧ yX5_copyLoads.cls ≠ "java/lang/invoke/MethodHandle" ∧ yX5_copyLoads.cls ≠ "java/lang/invoke/VarHandle" ∧ (parseMethodDescriptor yX5_copyLoads.desc).map (fun d => d.parameters.length) = some 2 := by decide +kernel
set_option maxRecDepth 10000 in
theorem hX5_copyLoads_0 (l : Launch) {p : Program} {e : Env} {s : State} {m : MethodId} {args : Array Value} {below : List Frame} {meth : Method} {c : Code} {D : va_G} {ad adV : Nat → Nat} {cA : Nat → ClassId} {K : Kt} (C0 : Cx p s m args meth c D ad adV cA cX5_copyLoads 3 RX5) (hr : meth.sig.returnType = none) : ∀ q ∈ lX5_copyLoads, Sd p l e (rmd 1) s m args below meth c (MQ below (QQ D ad cA K) args s 0 0 (AA ad)) D ad cA 3 q.1 (opOf K q.2) := List.forall_mem_cons.mpr ⟨s_aload_n C0 dX5_copyLoads_0 rfl, List.forall_mem_cons.mpr ⟨s_get (ci := 5) (k := 3) C0 dX5_copyLoads_1 inX5 rfl (by decide) tw1_174, List.forall_mem_cons.mpr ⟨s_iload_n C0 dX5_copyLoads_4 rfl, List.forall_mem_cons.mpr ⟨s_bipush C0 dX5_copyLoads_5 (by decide +kernel), List.forall_mem_cons.mpr ⟨s_imul C0 dX5_copyLoads_7, List.forall_mem_cons.mpr ⟨s_aload_n C0 dX5_copyLoads_8 rfl, List.forall_mem_cons.mpr ⟨s_iconst C0 dX5_copyLoads_9 rfl, List.forall_mem_cons.mpr ⟨s_bipush C0 dX5_copyLoads_10 (by decide +kernel), List.forall_mem_cons.mpr ⟨s_copyI C0 dX5_copyLoads_12 tw4_49 tw2_189 tw2_188 tw1_13 rfl (by decide), List.forall_mem_cons.mpr ⟨s_vret C0 hr dX5_copyLoads_15, fun _ h => absurd h List.not_mem_nil⟩⟩⟩⟩⟩⟩⟩⟩⟩⟩
def fX5_copyLoads : Mf := mf 3 (fun K => tl K lX5_copyLoads)
theorem kX5_copyLoads (l : Launch) : Okm l yX5_copyLoads cX5_copyLoads 3 none 1 fX5_copyLoads := Okm_tl (own := RX5) (by decide +kernel) rfl (fun C0 hr => hX5_copyLoads_0 l C0 hr)
theorem dX3_open_0 : decode cX3_open 0 = .ok (.aload_n 0, 1) := by decide +kernel
theorem dX3_open_1 : decode cX3_open 1 = .ok (.iload_n 1, 1) := by decide +kernel
theorem dX3_open_2 : decode cX3_open 2 = .ok (.putfield 15, 3) := by decide +kernel
theorem dX3_open_5 : decode cX3_open 5 = .ok (.aload_n 0, 1) := by decide +kernel
theorem dX3_open_6 : decode cX3_open 6 = .ok (.getfield 19, 3) := by decide +kernel
theorem dX3_open_9 : decode cX3_open 9 = .ok (.getfield 23, 3) := by decide +kernel
theorem dX3_open_12 : decode cX3_open 12 = .ok (.iload_n 1, 1) := by decide +kernel
theorem dX3_open_13 : decode cX3_open 13 = .ok (.aload_n 0, 1) := by decide +kernel
theorem dX3_open_14 : decode cX3_open 14 = .ok (.getfield 9, 3) := by decide +kernel
theorem dX3_open_17 : decode cX3_open 17 = .ok (.invokevirtual 29, 3) := by decide +kernel
theorem dX3_open_20 : decode cX3_open 20 = .ok (.return_, 1) := by decide +kernel
def lX3_open : List (Nat × (Op ⊕ Nat)) := [(0, .inl (o_aload 0 1)), (1, .inl (o_iload 1 2)), (2, .inl (o_putI 3 2 5)), (5, .inl (o_aload 0 6)), (6, .inl (o_get 3 0 9)), (9, .inl (o_get 1 1 12)), (12, .inl (o_iload 1 13)), (13, .inl (o_aload 0 14)), (14, .inl (o_get 3 1 17)), (17, .inl (o_callV fX5_copyLoads 2 5 20)), (20, .inr 3)]
theorem qX3_open : yX3_open.cls = RX3 ∧ yX3_open.cls ≠ "java/lang/invoke/MethodHandle" ∧ yX3_open.cls ≠ "java/lang/invoke/VarHandle" ∧ (parseMethodDescriptor yX3_open.desc).map (fun d => d.parameters.length) = some 1 := by decide +kernel
set_option maxRecDepth 10000 in
theorem hX3_open_0 (l : Launch) {p : Program} {e : Env} {s : State} {m : MethodId} {args : Array Value} {below : List Frame} {meth : Method} {c : Code} {D : va_G} {ad adV : Nat → Nat} {cA : Nat → ClassId} {K : Kt} (C0 : Cx p s m args meth c D ad adV cA cX3_open 2 RX3) (hr : meth.sig.returnType = none) : ∀ q ∈ lX3_open, Sd p l e (rmd 2) s m args below meth c (MQ below (QQ D ad cA K) args s 0 0 (AA ad)) D ad cA 2 q.1 (opOf K q.2) := List.forall_mem_cons.mpr ⟨s_aload_n C0 dX3_open_0 rfl, List.forall_mem_cons.mpr ⟨s_iload_n C0 dX3_open_1 rfl, List.forall_mem_cons.mpr ⟨s_putI (ci := 3) (k := 2) C0 dX3_open_2 inX3 tyX3_ok nmX3 rfl (by decide) rfl rfl tw1_212, List.forall_mem_cons.mpr ⟨s_aload_n C0 dX3_open_5 rfl, List.forall_mem_cons.mpr ⟨s_get (ci := 3) (k := 0) C0 dX3_open_6 inX3 rfl (by decide) tw1_210, List.forall_mem_cons.mpr ⟨s_get (ci := 1) (k := 1) C0 dX3_open_9 inX1 rfl (by decide) tw1_196, List.forall_mem_cons.mpr ⟨s_iload_n C0 dX3_open_12 rfl, List.forall_mem_cons.mpr ⟨s_aload_n C0 dX3_open_13 rfl, List.forall_mem_cons.mpr ⟨s_get (ci := 3) (k := 1) C0 dX3_open_14 inX3 rfl (by decide) tw1_211, List.forall_mem_cons.mpr ⟨s_callV (ci := 5) C0 (kX5_copyLoads l) dX3_open_17 rfl qX5_copyLoads tw4_45 tw4_46 tw4_47 tw1_5 tw4_48 rfl (by decide) (by decide), List.forall_mem_cons.mpr ⟨s_vret C0 hr dX3_open_20, fun _ h => absurd h List.not_mem_nil⟩⟩⟩⟩⟩⟩⟩⟩⟩⟩⟩
def fX3_open : Mf := mf 2 (fun K => tl K lX3_open)
theorem kX3_open (l : Launch) : Okm l yX3_open cX3_open 2 none 2 fX3_open := Okm_tl (own := RX3) (by decide +kernel) rfl (fun C0 hr => hX3_open_0 l C0 hr)
theorem dX3_write_0 : decode cX3_write 0 = .ok (.aload_n 0, 1) := by decide +kernel
theorem dX3_write_1 : decode cX3_write 1 = .ok (.getfield 9, 3) := by decide +kernel
theorem dX3_write_4 : decode cX3_write 4 = .ok (.iload_n 1, 1) := by decide +kernel
theorem dX3_write_5 : decode cX3_write 5 = .ok (.iload_n 2, 1) := by decide +kernel
theorem dX3_write_6 : decode cX3_write 6 = .ok (.iastore, 1) := by decide +kernel
theorem dX3_write_7 : decode cX3_write 7 = .ok (.return_, 1) := by decide +kernel
def lX3_write : List (Nat × (Op ⊕ Nat)) := [(0, .inl (o_aload 0 1)), (1, .inl (o_get 3 1 4)), (4, .inl (o_iload 1 5)), (5, .inl (o_iload 2 6)), (6, .inl (o_iast 7)), (7, .inr 3)]
theorem qX3_write : yX3_write.cls = RX3 ∧ yX3_write.cls ≠ "java/lang/invoke/MethodHandle" ∧ yX3_write.cls ≠ "java/lang/invoke/VarHandle" ∧ (parseMethodDescriptor yX3_write.desc).map (fun d => d.parameters.length) = some 2 := by decide +kernel
set_option maxRecDepth 10000 in
theorem hX3_write_0 (l : Launch) {p : Program} {e : Env} {s : State} {m : MethodId} {args : Array Value} {below : List Frame} {meth : Method} {c : Code} {D : va_G} {ad adV : Nat → Nat} {cA : Nat → ClassId} {K : Kt} (C0 : Cx p s m args meth c D ad adV cA cX3_write 3 RX3) (hr : meth.sig.returnType = none) : ∀ q ∈ lX3_write, Sd p l e (rmd 0) s m args below meth c (MQ below (QQ D ad cA K) args s 0 0 (AA ad)) D ad cA 3 q.1 (opOf K q.2) := List.forall_mem_cons.mpr ⟨s_aload_n C0 dX3_write_0 rfl, List.forall_mem_cons.mpr ⟨s_get (ci := 3) (k := 1) C0 dX3_write_1 inX3 rfl (by decide) tw1_211, List.forall_mem_cons.mpr ⟨s_iload_n C0 dX3_write_4 rfl, List.forall_mem_cons.mpr ⟨s_iload_n C0 dX3_write_5 rfl, List.forall_mem_cons.mpr ⟨s_iast C0 dX3_write_6, List.forall_mem_cons.mpr ⟨s_vret C0 hr dX3_write_7, fun _ h => absurd h List.not_mem_nil⟩⟩⟩⟩⟩⟩
def fX3_write : Mf := mf 3 (fun K => tl K lX3_write)
theorem kX3_write (l : Launch) : Okm l yX3_write cX3_write 3 none 0 fX3_write := Okm_tl (own := RX3) (by decide +kernel) rfl (fun C0 hr => hX3_write_0 l C0 hr)
theorem dX0_mayHave_0 : decode cX0_mayHave 0 = .ok (.aload_n 0, 1) := by decide +kernel
theorem dX0_mayHave_1 : decode cX0_mayHave 1 = .ok (.getfield 18, 3) := by decide +kernel
theorem dX0_mayHave_4 : decode cX0_mayHave 4 = .ok (.iload_n 1, 1) := by decide +kernel
theorem dX0_mayHave_5 : decode cX0_mayHave 5 = .ok (.iaload, 1) := by decide +kernel
theorem dX0_mayHave_6 : decode cX0_mayHave 6 = .ok (.iload_n 2, 1) := by decide +kernel
theorem dX0_mayHave_7 : decode cX0_mayHave 7 = .ok (.iushr, 1) := by decide +kernel
theorem dX0_mayHave_8 : decode cX0_mayHave 8 = .ok (.iconst 1, 1) := by decide +kernel
theorem dX0_mayHave_9 : decode cX0_mayHave 9 = .ok (.iand, 1) := by decide +kernel
theorem dX0_mayHave_10 : decode cX0_mayHave 10 = .ok (.iconst 1, 1) := by decide +kernel
theorem dX0_mayHave_11 : decode cX0_mayHave 11 = .ok (.if_icmp .ne 7, 3) := by decide +kernel
theorem dX0_mayHave_14 : decode cX0_mayHave 14 = .ok (.iconst 1, 1) := by decide +kernel
theorem dX0_mayHave_15 : decode cX0_mayHave 15 = .ok (.goto 4, 3) := by decide +kernel
theorem dX0_mayHave_18 : decode cX0_mayHave 18 = .ok (.iconst 0, 1) := by decide +kernel
theorem dX0_mayHave_19 : decode cX0_mayHave 19 = .ok (.ireturn, 1) := by decide +kernel
def lX0_mayHave : List (Nat × (Op ⊕ Nat)) := [(0, .inl (o_aload 0 1)), (1, .inl (o_get 0 4 4)), (4, .inl (o_iload 1 5)), (5, .inl (o_iald 6)), (6, .inl (o_iload 2 7)), (7, .inl (o_iushr 8)), (8, .inl (o_pushI (nI 1) 9)), (9, .inl (o_iand 10)), (10, .inl (o_pushI (nI 1) 11)), (11, .inl (o_icmp_ne 18 14)), (14, .inl (o_pushI (nI 1) 15)), (15, .inl (o_goto 19)), (18, .inl (o_pushI (nI 0) 19)), (19, .inr 1)]
theorem qX0_mayHave : yX0_mayHave.cls = RX0 ∧ yX0_mayHave.cls ≠ "java/lang/invoke/MethodHandle" ∧ yX0_mayHave.cls ≠ "java/lang/invoke/VarHandle" ∧ (parseMethodDescriptor yX0_mayHave.desc).map (fun d => d.parameters.length) = some 2 := by decide +kernel
set_option maxRecDepth 10000 in
theorem hX0_mayHave_0 (l : Launch) {p : Program} {e : Env} {s : State} {m : MethodId} {args : Array Value} {below : List Frame} {meth : Method} {c : Code} {D : va_G} {ad adV : Nat → Nat} {cA : Nat → ClassId} {K : Kt} (C0 : Cx p s m args meth c D ad adV cA cX0_mayHave 3 RX0) (hr : meth.sig.returnType = (some .boolean)) : ∀ q ∈ lX0_mayHave, Sd p l e (rmd 0) s m args below meth c (MQ below (QQ D ad cA K) args s 0 0 (AA ad)) D ad cA 3 q.1 (opOf K q.2) := List.forall_mem_cons.mpr ⟨s_aload_n C0 dX0_mayHave_0 rfl, List.forall_mem_cons.mpr ⟨s_get (ci := 0) (k := 4) C0 dX0_mayHave_1 inX0 rfl (by decide) tw1_230, List.forall_mem_cons.mpr ⟨s_iload_n C0 dX0_mayHave_4 rfl, List.forall_mem_cons.mpr ⟨s_iald C0 dX0_mayHave_5, List.forall_mem_cons.mpr ⟨s_iload_n C0 dX0_mayHave_6 rfl, List.forall_mem_cons.mpr ⟨s_iushr C0 dX0_mayHave_7, List.forall_mem_cons.mpr ⟨s_iconst C0 dX0_mayHave_8 rfl, List.forall_mem_cons.mpr ⟨s_iand C0 dX0_mayHave_9, List.forall_mem_cons.mpr ⟨s_iconst C0 dX0_mayHave_10 rfl, List.forall_mem_cons.mpr ⟨s_icmp_ne C0 dX0_mayHave_11 rfl, List.forall_mem_cons.mpr ⟨s_iconst C0 dX0_mayHave_14 rfl, List.forall_mem_cons.mpr ⟨s_goto C0 dX0_mayHave_15 rfl, List.forall_mem_cons.mpr ⟨s_iconst C0 dX0_mayHave_18 rfl, List.forall_mem_cons.mpr ⟨s_zret C0 hr dX0_mayHave_19, fun _ h => absurd h List.not_mem_nil⟩⟩⟩⟩⟩⟩⟩⟩⟩⟩⟩⟩⟩⟩
def fX0_mayHave : Mf := mf 3 (fun K => tl K lX0_mayHave)
theorem kX0_mayHave (l : Launch) : Okm l yX0_mayHave cX0_mayHave 3 (some .boolean) 0 fX0_mayHave := Okm_tl (own := RX0) (by decide +kernel) rfl (fun C0 hr => hX0_mayHave_0 l C0 hr)
theorem dX9_daysFrom_0 : decode cX9_daysFrom 0 = .ok (.aload_n 0, 1) := by decide +kernel
theorem dX9_daysFrom_1 : decode cX9_daysFrom 1 = .ok (.getfield 29, 3) := by decide +kernel
theorem dX9_daysFrom_4 : decode cX9_daysFrom 4 = .ok (.iload_n 2, 1) := by decide +kernel
theorem dX9_daysFrom_5 : decode cX9_daysFrom 5 = .ok (.iconst 3, 1) := by decide +kernel
theorem dX9_daysFrom_6 : decode cX9_daysFrom 6 = .ok (.imul, 1) := by decide +kernel
theorem dX9_daysFrom_7 : decode cX9_daysFrom 7 = .ok (.iconst 0, 1) := by decide +kernel
theorem dX9_daysFrom_8 : decode cX9_daysFrom 8 = .ok (.iadd, 1) := by decide +kernel
theorem dX9_daysFrom_9 : decode cX9_daysFrom 9 = .ok (.iaload, 1) := by decide +kernel
theorem dX9_daysFrom_10 : decode cX9_daysFrom 10 = .ok (.aload_n 0, 1) := by decide +kernel
theorem dX9_daysFrom_11 : decode cX9_daysFrom 11 = .ok (.getfield 29, 3) := by decide +kernel
theorem dX9_daysFrom_14 : decode cX9_daysFrom 14 = .ok (.iload_n 1, 1) := by decide +kernel
theorem dX9_daysFrom_15 : decode cX9_daysFrom 15 = .ok (.iconst 3, 1) := by decide +kernel
theorem dX9_daysFrom_16 : decode cX9_daysFrom 16 = .ok (.imul, 1) := by decide +kernel
theorem dX9_daysFrom_17 : decode cX9_daysFrom 17 = .ok (.iconst 0, 1) := by decide +kernel
theorem dX9_daysFrom_18 : decode cX9_daysFrom 18 = .ok (.iadd, 1) := by decide +kernel
theorem dX9_daysFrom_19 : decode cX9_daysFrom 19 = .ok (.iaload, 1) := by decide +kernel
theorem dX9_daysFrom_20 : decode cX9_daysFrom 20 = .ok (.isub, 1) := by decide +kernel
theorem dX9_daysFrom_21 : decode cX9_daysFrom 21 = .ok (.ireturn, 1) := by decide +kernel
def lX9_daysFrom : List (Nat × (Op ⊕ Nat)) := [(0, .inl (o_aload 0 1)), (1, .inl (o_get 9 5 4)), (4, .inl (o_iload 2 5)), (5, .inl (o_pushI (nI 3) 6)), (6, .inl (o_imul 7)), (7, .inl (o_pushI (nI 0) 8)), (8, .inl (o_iadd 9)), (9, .inl (o_iald 10)), (10, .inl (o_aload 0 11)), (11, .inl (o_get 9 5 14)), (14, .inl (o_iload 1 15)), (15, .inl (o_pushI (nI 3) 16)), (16, .inl (o_imul 17)), (17, .inl (o_pushI (nI 0) 18)), (18, .inl (o_iadd 19)), (19, .inl (o_iald 20)), (20, .inl (o_isub 21)), (21, .inr 0)]
theorem qX9_daysFrom : yX9_daysFrom.cls = RX9 ∧ yX9_daysFrom.cls ≠ "java/lang/invoke/MethodHandle" ∧ yX9_daysFrom.cls ≠ "java/lang/invoke/VarHandle" ∧ (parseMethodDescriptor yX9_daysFrom.desc).map (fun d => d.parameters.length) = some 2 := by decide +kernel
set_option maxRecDepth 10000 in
theorem hX9_daysFrom_0 (l : Launch) {p : Program} {e : Env} {s : State} {m : MethodId} {args : Array Value} {below : List Frame} {meth : Method} {c : Code} {D : va_G} {ad adV : Nat → Nat} {cA : Nat → ClassId} {K : Kt} (C0 : Cx p s m args meth c D ad adV cA cX9_daysFrom 3 RX9) (hr : meth.sig.returnType = (some .int)) : ∀ q ∈ lX9_daysFrom, Sd p l e (rmd 0) s m args below meth c (MQ below (QQ D ad cA K) args s 0 0 (AA ad)) D ad cA 3 q.1 (opOf K q.2) := List.forall_mem_cons.mpr ⟨s_aload_n C0 dX9_daysFrom_0 rfl, List.forall_mem_cons.mpr ⟨s_get (ci := 9) (k := 5) C0 dX9_daysFrom_1 inX9 rfl (by decide) tw1_99, List.forall_mem_cons.mpr ⟨s_iload_n C0 dX9_daysFrom_4 rfl, List.forall_mem_cons.mpr ⟨s_iconst C0 dX9_daysFrom_5 rfl, List.forall_mem_cons.mpr ⟨s_imul C0 dX9_daysFrom_6, List.forall_mem_cons.mpr ⟨s_iconst C0 dX9_daysFrom_7 rfl, List.forall_mem_cons.mpr ⟨s_iadd C0 dX9_daysFrom_8, List.forall_mem_cons.mpr ⟨s_iald C0 dX9_daysFrom_9, List.forall_mem_cons.mpr ⟨s_aload_n C0 dX9_daysFrom_10 rfl, List.forall_mem_cons.mpr ⟨s_get (ci := 9) (k := 5) C0 dX9_daysFrom_11 inX9 rfl (by decide) tw1_99, List.forall_mem_cons.mpr ⟨s_iload_n C0 dX9_daysFrom_14 rfl, List.forall_mem_cons.mpr ⟨s_iconst C0 dX9_daysFrom_15 rfl, List.forall_mem_cons.mpr ⟨s_imul C0 dX9_daysFrom_16, List.forall_mem_cons.mpr ⟨s_iconst C0 dX9_daysFrom_17 rfl, List.forall_mem_cons.mpr ⟨s_iadd C0 dX9_daysFrom_18, List.forall_mem_cons.mpr ⟨s_iald C0 dX9_daysFrom_19, List.forall_mem_cons.mpr ⟨s_isub C0 dX9_daysFrom_20, List.forall_mem_cons.mpr ⟨s_iret C0 hr dX9_daysFrom_21, fun _ h => absurd h List.not_mem_nil⟩⟩⟩⟩⟩⟩⟩⟩⟩⟩⟩⟩⟩⟩⟩⟩⟩⟩
def fX9_daysFrom : Mf := mf 3 (fun K => tl K lX9_daysFrom)
theorem kX9_daysFrom (l : Launch) : Okm l yX9_daysFrom cX9_daysFrom 3 (some .int) 0 fX9_daysFrom := Okm_tl (own := RX9) (by decide +kernel) rfl (fun C0 hr => hX9_daysFrom_0 l C0 hr)
theorem dX9_restAfter_0 : decode cX9_restAfter 0 = .ok (.aload_n 0, 1) := by decide +kernel
theorem dX9_restAfter_1 : decode cX9_restAfter 1 = .ok (.getfield 35, 3) := by decide +kernel
theorem dX9_restAfter_4 : decode cX9_restAfter 4 = .ok (.iconst 1, 1) := by decide +kernel
theorem dX9_restAfter_5 : decode cX9_restAfter 5 = .ok (.isub, 1) := by decide +kernel
theorem dX9_restAfter_6 : decode cX9_restAfter 6 = .ok (.istore_n 2, 1) := by decide +kernel
theorem dX9_restAfter_7 : decode cX9_restAfter 7 = .ok (.iload_n 2, 1) := by decide +kernel
theorem dX9_restAfter_8 : decode cX9_restAfter 8 = .ok (.ifCond .lt 26, 3) := by decide +kernel
theorem dX9_restAfter_11 : decode cX9_restAfter 11 = .ok (.aload_n 0, 1) := by decide +kernel
theorem dX9_restAfter_12 : decode cX9_restAfter 12 = .ok (.getfield 38, 3) := by decide +kernel
theorem dX9_restAfter_15 : decode cX9_restAfter 15 = .ok (.iload_n 2, 1) := by decide +kernel
theorem dX9_restAfter_16 : decode cX9_restAfter 16 = .ok (.iaload, 1) := by decide +kernel
theorem dX9_restAfter_17 : decode cX9_restAfter 17 = .ok (.iload_n 1, 1) := by decide +kernel
theorem dX9_restAfter_18 : decode cX9_restAfter 18 = .ok (.if_icmp .gt 10, 3) := by decide +kernel
theorem dX9_restAfter_21 : decode cX9_restAfter 21 = .ok (.aload_n 0, 1) := by decide +kernel
theorem dX9_restAfter_22 : decode cX9_restAfter 22 = .ok (.getfield 41, 3) := by decide +kernel
theorem dX9_restAfter_25 : decode cX9_restAfter 25 = .ok (.iload_n 2, 1) := by decide +kernel
theorem dX9_restAfter_26 : decode cX9_restAfter 26 = .ok (.iaload, 1) := by decide +kernel
theorem dX9_restAfter_27 : decode cX9_restAfter 27 = .ok (.ireturn, 1) := by decide +kernel
theorem dX9_restAfter_28 : decode cX9_restAfter 28 = .ok (.iinc 2 (-1), 3) := by decide +kernel
theorem dX9_restAfter_31 : decode cX9_restAfter 31 = .ok (.goto (-24), 3) := by decide +kernel
theorem dX9_restAfter_34 : decode cX9_restAfter 34 = .ok (.iconst 0, 1) := by decide +kernel
theorem dX9_restAfter_35 : decode cX9_restAfter 35 = .ok (.ireturn, 1) := by decide +kernel
def lX9_restAfter : List (Nat × (Op ⊕ Nat)) := [(0, .inl (o_aload 0 1)), (1, .inl (o_get 9 7 4)), (4, .inl (o_pushI (nI 1) 5)), (5, .inl (o_isub 6)), (6, .inl (o_istore 2 7)), (7, .inl (o_iload 2 8)), (8, .inl (o_if_lt 34 11)), (11, .inl (o_aload 0 12)), (12, .inl (o_get 9 8 15)), (15, .inl (o_iload 2 16)), (16, .inl (o_iald 17)), (17, .inl (o_iload 1 18)), (18, .inl (o_icmp_gt 28 21)), (21, .inl (o_aload 0 22)), (22, .inl (o_get 9 9 25)), (25, .inl (o_iload 2 26)), (26, .inl (o_iald 27)), (27, .inr 0), (28, .inl (o_iinc 2 ((-1)) 31)), (31, .inl (o_goto 7)), (34, .inl (o_pushI (nI 0) 35)), (35, .inr 0)]
theorem qX9_restAfter : yX9_restAfter.cls = RX9 ∧ yX9_restAfter.cls ≠ "java/lang/invoke/MethodHandle" ∧ yX9_restAfter.cls ≠ "java/lang/invoke/VarHandle" ∧ (parseMethodDescriptor yX9_restAfter.desc).map (fun d => d.parameters.length) = some 1 := by decide +kernel
set_option maxRecDepth 10000 in
theorem hX9_restAfter_0 (l : Launch) {p : Program} {e : Env} {s : State} {m : MethodId} {args : Array Value} {below : List Frame} {meth : Method} {c : Code} {D : va_G} {ad adV : Nat → Nat} {cA : Nat → ClassId} {K : Kt} (C0 : Cx p s m args meth c D ad adV cA cX9_restAfter 3 RX9) (hr : meth.sig.returnType = (some .int)) : ∀ q ∈ lX9_restAfter, Sd p l e (rmd 0) s m args below meth c (MQ below (QQ D ad cA K) args s 0 0 (AA ad)) D ad cA 3 q.1 (opOf K q.2) := List.forall_mem_cons.mpr ⟨s_aload_n C0 dX9_restAfter_0 rfl, List.forall_mem_cons.mpr ⟨s_get (ci := 9) (k := 7) C0 dX9_restAfter_1 inX9 rfl (by decide) tw1_107, List.forall_mem_cons.mpr ⟨s_iconst C0 dX9_restAfter_4 rfl, List.forall_mem_cons.mpr ⟨s_isub C0 dX9_restAfter_5, List.forall_mem_cons.mpr ⟨s_istore_n C0 dX9_restAfter_6 rfl (by decide), List.forall_mem_cons.mpr ⟨s_iload_n C0 dX9_restAfter_7 rfl, List.forall_mem_cons.mpr ⟨s_if_lt C0 dX9_restAfter_8 rfl, List.forall_mem_cons.mpr ⟨s_aload_n C0 dX9_restAfter_11 rfl, List.forall_mem_cons.mpr ⟨s_get (ci := 9) (k := 8) C0 dX9_restAfter_12 inX9 rfl (by decide) tw1_110, List.forall_mem_cons.mpr ⟨s_iload_n C0 dX9_restAfter_15 rfl, List.forall_mem_cons.mpr ⟨s_iald C0 dX9_restAfter_16, List.forall_mem_cons.mpr ⟨s_iload_n C0 dX9_restAfter_17 rfl, List.forall_mem_cons.mpr ⟨s_icmp_gt C0 dX9_restAfter_18 rfl, List.forall_mem_cons.mpr ⟨s_aload_n C0 dX9_restAfter_21 rfl, List.forall_mem_cons.mpr ⟨s_get (ci := 9) (k := 9) C0 dX9_restAfter_22 inX9 rfl (by decide) tw1_112, List.forall_mem_cons.mpr ⟨s_iload_n C0 dX9_restAfter_25 rfl, List.forall_mem_cons.mpr ⟨s_iald C0 dX9_restAfter_26, List.forall_mem_cons.mpr ⟨s_iret C0 hr dX9_restAfter_27, List.forall_mem_cons.mpr ⟨s_iinc C0 dX9_restAfter_28 rfl (by decide), List.forall_mem_cons.mpr ⟨s_goto C0 dX9_restAfter_31 rfl, List.forall_mem_cons.mpr ⟨s_iconst C0 dX9_restAfter_34 rfl, List.forall_mem_cons.mpr ⟨s_iret C0 hr dX9_restAfter_35, fun _ h => absurd h List.not_mem_nil⟩⟩⟩⟩⟩⟩⟩⟩⟩⟩⟩⟩⟩⟩⟩⟩⟩⟩⟩⟩⟩⟩
def fX9_restAfter : Mf := mf 3 (fun K => tl K lX9_restAfter)
theorem kX9_restAfter (l : Launch) : Okm l yX9_restAfter cX9_restAfter 3 (some .int) 0 fX9_restAfter := Okm_tl (own := RX9) (by decide +kernel) rfl (fun C0 hr => hX9_restAfter_0 l C0 hr)
theorem dX3_isRested_0 : decode cX3_isRested 0 = .ok (.iconst 0, 1) := by decide +kernel
theorem dX3_isRested_1 : decode cX3_isRested 1 = .ok (.istore_n 2, 1) := by decide +kernel
theorem dX3_isRested_2 : decode cX3_isRested 2 = .ok (.iload_n 2, 1) := by decide +kernel
theorem dX3_isRested_3 : decode cX3_isRested 3 = .ok (.iload_n 1, 1) := by decide +kernel
theorem dX3_isRested_4 : decode cX3_isRested 4 = .ok (.if_icmp .ge 51, 3) := by decide +kernel
theorem dX3_isRested_7 : decode cX3_isRested 7 = .ok (.aload_n 0, 1) := by decide +kernel
theorem dX3_isRested_8 : decode cX3_isRested 8 = .ok (.getfield 9, 3) := by decide +kernel
theorem dX3_isRested_11 : decode cX3_isRested 11 = .ok (.iload_n 2, 1) := by decide +kernel
theorem dX3_isRested_12 : decode cX3_isRested 12 = .ok (.iaload, 1) := by decide +kernel
theorem dX3_isRested_13 : decode cX3_isRested 13 = .ok (.ifCond .le 36, 3) := by decide +kernel
theorem dX3_isRested_16 : decode cX3_isRested 16 = .ok (.aload_n 0, 1) := by decide +kernel
theorem dX3_isRested_17 : decode cX3_isRested 17 = .ok (.getfield 19, 3) := by decide +kernel
theorem dX3_isRested_20 : decode cX3_isRested 20 = .ok (.getfield 57, 3) := by decide +kernel
theorem dX3_isRested_23 : decode cX3_isRested 23 = .ok (.iload_n 2, 1) := by decide +kernel
theorem dX3_isRested_24 : decode cX3_isRested 24 = .ok (.iload_n 1, 1) := by decide +kernel
theorem dX3_isRested_25 : decode cX3_isRested 25 = .ok (.invokevirtual 95, 3) := by decide +kernel
theorem dX3_isRested_28 : decode cX3_isRested 28 = .ok (.aload_n 0, 1) := by decide +kernel
theorem dX3_isRested_29 : decode cX3_isRested 29 = .ok (.getfield 19, 3) := by decide +kernel
theorem dX3_isRested_32 : decode cX3_isRested 32 = .ok (.getfield 57, 3) := by decide +kernel
theorem dX3_isRested_35 : decode cX3_isRested 35 = .ok (.aload_n 0, 1) := by decide +kernel
theorem dX3_isRested_36 : decode cX3_isRested 36 = .ok (.getfield 9, 3) := by decide +kernel
theorem dX3_isRested_39 : decode cX3_isRested 39 = .ok (.iload_n 2, 1) := by decide +kernel
theorem dX3_isRested_40 : decode cX3_isRested 40 = .ok (.iaload, 1) := by decide +kernel
theorem dX3_isRested_41 : decode cX3_isRested 41 = .ok (.invokevirtual 70, 3) := by decide +kernel
theorem dX3_isRested_44 : decode cX3_isRested 44 = .ok (.if_icmp .gt 5, 3) := by decide +kernel
theorem dX3_isRested_47 : decode cX3_isRested 47 = .ok (.iconst 0, 1) := by decide +kernel
theorem dX3_isRested_48 : decode cX3_isRested 48 = .ok (.ireturn, 1) := by decide +kernel
theorem dX3_isRested_49 : decode cX3_isRested 49 = .ok (.iinc 2 1, 3) := by decide +kernel
theorem dX3_isRested_52 : decode cX3_isRested 52 = .ok (.goto (-50), 3) := by decide +kernel
theorem dX3_isRested_55 : decode cX3_isRested 55 = .ok (.iconst 1, 1) := by decide +kernel
theorem dX3_isRested_56 : decode cX3_isRested 56 = .ok (.ireturn, 1) := by decide +kernel
def lX3_isRested : List (Nat × (Op ⊕ Nat)) := [(0, .inl (o_pushI (nI 0) 1)), (1, .inl (o_istore 2 2)), (2, .inl (o_iload 2 3)), (3, .inl (o_iload 1 4)), (4, .inl (o_icmp_ge 55 7)), (7, .inl (o_aload 0 8)), (8, .inl (o_get 3 1 11)), (11, .inl (o_iload 2 12)), (12, .inl (o_iald 13)), (13, .inl (o_if_le 49 16)), (16, .inl (o_aload 0 17)), (17, .inl (o_get 3 0 20)), (20, .inl (o_get 1 0 23)), (23, .inl (o_iload 2 24)), (24, .inl (o_iload 1 25)), (25, .inl (o_callV fX9_daysFrom 2 9 28)), (28, .inl (o_aload 0 29)), (29, .inl (o_get 3 0 32)), (32, .inl (o_get 1 0 35)), (35, .inl (o_aload 0 36)), (36, .inl (o_get 3 1 39)), (39, .inl (o_iload 2 40)), (40, .inl (o_iald 41)), (41, .inl (o_callV fX9_restAfter 1 9 44)), (44, .inl (o_icmp_gt 49 47)), (47, .inl (o_pushI (nI 0) 48)), (48, .inr 1), (49, .inl (o_iinc 2 (nI 1) 52)), (52, .inl (o_goto 2)), (55, .inl (o_pushI (nI 1) 56)), (56, .inr 1)]
theorem qX3_isRested : yX3_isRested.cls = RX3 ∧ yX3_isRested.cls ≠ "java/lang/invoke/MethodHandle" ∧ yX3_isRested.cls ≠ "java/lang/invoke/VarHandle" ∧ (parseMethodDescriptor yX3_isRested.desc).map (fun d => d.parameters.length) = some 1 := by decide +kernel
set_option maxRecDepth 10000 in
theorem hX3_isRested_0 (l : Launch) {p : Program} {e : Env} {s : State} {m : MethodId} {args : Array Value} {below : List Frame} {meth : Method} {c : Code} {D : va_G} {ad adV : Nat → Nat} {cA : Nat → ClassId} {K : Kt} (C0 : Cx p s m args meth c D ad adV cA cX3_isRested 3 RX3) (hr : meth.sig.returnType = (some .boolean)) : ∀ q ∈ lX3_isRested, Sd p l e (rmd 1) s m args below meth c (MQ below (QQ D ad cA K) args s 0 0 (AA ad)) D ad cA 3 q.1 (opOf K q.2) := List.forall_mem_cons.mpr ⟨s_iconst C0 dX3_isRested_0 rfl, List.forall_mem_cons.mpr ⟨s_istore_n C0 dX3_isRested_1 rfl (by decide), List.forall_mem_cons.mpr ⟨s_iload_n C0 dX3_isRested_2 rfl, List.forall_mem_cons.mpr ⟨s_iload_n C0 dX3_isRested_3 rfl, List.forall_mem_cons.mpr ⟨s_icmp_ge C0 dX3_isRested_4 rfl, List.forall_mem_cons.mpr ⟨s_aload_n C0 dX3_isRested_7 rfl, List.forall_mem_cons.mpr ⟨s_get (ci := 3) (k := 1) C0 dX3_isRested_8 inX3 rfl (by decide) tw1_211, List.forall_mem_cons.mpr ⟨s_iload_n C0 dX3_isRested_11 rfl, List.forall_mem_cons.mpr ⟨s_iald C0 dX3_isRested_12, List.forall_mem_cons.mpr ⟨s_if_le C0 dX3_isRested_13 rfl, List.forall_mem_cons.mpr ⟨s_aload_n C0 dX3_isRested_16 rfl, List.forall_mem_cons.mpr ⟨s_get (ci := 3) (k := 0) C0 dX3_isRested_17 inX3 rfl (by decide) tw1_210, List.forall_mem_cons.mpr ⟨s_get (ci := 1) (k := 0) C0 dX3_isRested_20 inX1 rfl (by decide) tw1_194, List.forall_mem_cons.mpr ⟨s_iload_n C0 dX3_isRested_23 rfl, List.forall_mem_cons.mpr ⟨s_iload_n C0 dX3_isRested_24 rfl, List.forall_mem_cons.mpr ⟨s_callV (ci := 9) C0 (kX9_daysFrom l) dX3_isRested_25 rfl qX9_daysFrom tw4_59 tw4_60 tw4_61 tw1_4 tw4_62 rfl (by decide) (by decide), List.forall_mem_cons.mpr ⟨s_aload_n C0 dX3_isRested_28 rfl, List.forall_mem_cons.mpr ⟨s_get (ci := 3) (k := 0) C0 dX3_isRested_29 inX3 rfl (by decide) tw1_210, List.forall_mem_cons.mpr ⟨s_get (ci := 1) (k := 0) C0 dX3_isRested_32 inX1 rfl (by decide) tw1_194, List.forall_mem_cons.mpr ⟨s_aload_n C0 dX3_isRested_35 rfl, List.forall_mem_cons.mpr ⟨s_get (ci := 3) (k := 1) C0 dX3_isRested_36 inX3 rfl (by decide) tw1_211, List.forall_mem_cons.mpr ⟨s_iload_n C0 dX3_isRested_39 rfl, List.forall_mem_cons.mpr ⟨s_iald C0 dX3_isRested_40, List.forall_mem_cons.mpr ⟨s_callV (ci := 9) C0 (kX9_restAfter l) dX3_isRested_41 rfl qX9_restAfter tw4_63 tw4_5 tw4_6 tw1_4 tw4_7 rfl (by decide) (by decide), List.forall_mem_cons.mpr ⟨s_icmp_gt C0 dX3_isRested_44 rfl, List.forall_mem_cons.mpr ⟨s_iconst C0 dX3_isRested_47 rfl, List.forall_mem_cons.mpr ⟨s_zret C0 hr dX3_isRested_48, List.forall_mem_cons.mpr ⟨s_iinc C0 dX3_isRested_49 rfl (by decide), List.forall_mem_cons.mpr ⟨s_goto C0 dX3_isRested_52 rfl, List.forall_mem_cons.mpr ⟨s_iconst C0 dX3_isRested_55 rfl, List.forall_mem_cons.mpr ⟨s_zret C0 hr dX3_isRested_56, fun _ h => absurd h List.not_mem_nil⟩⟩⟩⟩⟩⟩⟩⟩⟩⟩⟩⟩⟩⟩⟩⟩⟩⟩⟩⟩⟩⟩⟩⟩⟩⟩⟩⟩⟩⟩⟩
def fX3_isRested : Mf := mf 3 (fun K => tl K lX3_isRested)
theorem kX3_isRested (l : Launch) : Okm l yX3_isRested cX3_isRested 3 (some .boolean) 1 fX3_isRested := Okm_tl (own := RX3) (by decide +kernel) rfl (fun C0 hr => hX3_isRested_0 l C0 hr)
theorem dX3_daysToNext_0 : decode cX3_daysToNext 0 = .ok (.iload_n 1, 1) := by decide +kernel
theorem dX3_daysToNext_1 : decode cX3_daysToNext 1 = .ok (.iconst 1, 1) := by decide +kernel
theorem dX3_daysToNext_2 : decode cX3_daysToNext 2 = .ok (.iadd, 1) := by decide +kernel
theorem dX3_daysToNext_3 : decode cX3_daysToNext 3 = .ok (.istore_n 2, 1) := by decide +kernel
theorem dX3_daysToNext_4 : decode cX3_daysToNext 4 = .ok (.iload_n 2, 1) := by decide +kernel
theorem dX3_daysToNext_5 : decode cX3_daysToNext 5 = .ok (.aload_n 0, 1) := by decide +kernel
theorem dX3_daysToNext_6 : decode cX3_daysToNext 6 = .ok (.getfield 19, 3) := by decide +kernel
theorem dX3_daysToNext_9 : decode cX3_daysToNext 9 = .ok (.getfield 57, 3) := by decide +kernel
theorem dX3_daysToNext_12 : decode cX3_daysToNext 12 = .ok (.getfield 98, 3) := by decide +kernel
theorem dX3_daysToNext_15 : decode cX3_daysToNext 15 = .ok (.if_icmp .ge 31, 3) := by decide +kernel
theorem dX3_daysToNext_18 : decode cX3_daysToNext 18 = .ok (.aload_n 0, 1) := by decide +kernel
theorem dX3_daysToNext_19 : decode cX3_daysToNext 19 = .ok (.getfield 9, 3) := by decide +kernel
theorem dX3_daysToNext_22 : decode cX3_daysToNext 22 = .ok (.iload_n 2, 1) := by decide +kernel
theorem dX3_daysToNext_23 : decode cX3_daysToNext 23 = .ok (.iaload, 1) := by decide +kernel
theorem dX3_daysToNext_24 : decode cX3_daysToNext 24 = .ok (.ifCond .le 16, 3) := by decide +kernel
theorem dX3_daysToNext_27 : decode cX3_daysToNext 27 = .ok (.aload_n 0, 1) := by decide +kernel
theorem dX3_daysToNext_28 : decode cX3_daysToNext 28 = .ok (.getfield 19, 3) := by decide +kernel
theorem dX3_daysToNext_31 : decode cX3_daysToNext 31 = .ok (.getfield 57, 3) := by decide +kernel
theorem dX3_daysToNext_34 : decode cX3_daysToNext 34 = .ok (.iload_n 1, 1) := by decide +kernel
theorem dX3_daysToNext_35 : decode cX3_daysToNext 35 = .ok (.iload_n 2, 1) := by decide +kernel
theorem dX3_daysToNext_36 : decode cX3_daysToNext 36 = .ok (.invokevirtual 95, 3) := by decide +kernel
theorem dX3_daysToNext_39 : decode cX3_daysToNext 39 = .ok (.ireturn, 1) := by decide +kernel
theorem dX3_daysToNext_40 : decode cX3_daysToNext 40 = .ok (.iinc 2 1, 3) := by decide +kernel
theorem dX3_daysToNext_43 : decode cX3_daysToNext 43 = .ok (.goto (-39), 3) := by decide +kernel
theorem dX3_daysToNext_46 : decode cX3_daysToNext 46 = .ok (.ldc 101, 2) := by decide +kernel
theorem dX3_daysToNext_48 : decode cX3_daysToNext 48 = .ok (.ireturn, 1) := by decide +kernel
def lX3_daysToNext : List (Nat × (Op ⊕ Nat)) := [(0, .inl (o_iload 1 1)), (1, .inl (o_pushI (nI 1) 2)), (2, .inl (o_iadd 3)), (3, .inl (o_istore 2 4)), (4, .inl (o_iload 2 5)), (5, .inl (o_aload 0 6)), (6, .inl (o_get 3 0 9)), (9, .inl (o_get 1 0 12)), (12, .inl (o_get 9 4 15)), (15, .inl (o_icmp_ge 46 18)), (18, .inl (o_aload 0 19)), (19, .inl (o_get 3 1 22)), (22, .inl (o_iload 2 23)), (23, .inl (o_iald 24)), (24, .inl (o_if_le 40 27)), (27, .inl (o_aload 0 28)), (28, .inl (o_get 3 0 31)), (31, .inl (o_get 1 0 34)), (34, .inl (o_iload 1 35)), (35, .inl (o_iload 2 36)), (36, .inl (o_callV fX9_daysFrom 2 9 39)), (39, .inr 0), (40, .inl (o_iinc 2 (nI 1) 43)), (43, .inl (o_goto 4)), (46, .inl (o_pushI (nI 1000000) 48)), (48, .inr 0)]
theorem qX3_daysToNext : yX3_daysToNext.cls = RX3 ∧ yX3_daysToNext.cls ≠ "java/lang/invoke/MethodHandle" ∧ yX3_daysToNext.cls ≠ "java/lang/invoke/VarHandle" ∧ (parseMethodDescriptor yX3_daysToNext.desc).map (fun d => d.parameters.length) = some 1 := by decide +kernel
set_option maxRecDepth 10000 in
theorem hX3_daysToNext_0 (l : Launch) {p : Program} {e : Env} {s : State} {m : MethodId} {args : Array Value} {below : List Frame} {meth : Method} {c : Code} {D : va_G} {ad adV : Nat → Nat} {cA : Nat → ClassId} {K : Kt} (C0 : Cx p s m args meth c D ad adV cA cX3_daysToNext 3 RX3) (hr : meth.sig.returnType = (some .int)) : ∀ q ∈ lX3_daysToNext, Sd p l e (rmd 1) s m args below meth c (MQ below (QQ D ad cA K) args s 0 0 (AA ad)) D ad cA 3 q.1 (opOf K q.2) := List.forall_mem_cons.mpr ⟨s_iload_n C0 dX3_daysToNext_0 rfl, List.forall_mem_cons.mpr ⟨s_iconst C0 dX3_daysToNext_1 rfl, List.forall_mem_cons.mpr ⟨s_iadd C0 dX3_daysToNext_2, List.forall_mem_cons.mpr ⟨s_istore_n C0 dX3_daysToNext_3 rfl (by decide), List.forall_mem_cons.mpr ⟨s_iload_n C0 dX3_daysToNext_4 rfl, List.forall_mem_cons.mpr ⟨s_aload_n C0 dX3_daysToNext_5 rfl, List.forall_mem_cons.mpr ⟨s_get (ci := 3) (k := 0) C0 dX3_daysToNext_6 inX3 rfl (by decide) tw1_210, List.forall_mem_cons.mpr ⟨s_get (ci := 1) (k := 0) C0 dX3_daysToNext_9 inX1 rfl (by decide) tw1_194, List.forall_mem_cons.mpr ⟨s_get (ci := 9) (k := 4) C0 dX3_daysToNext_12 inX9 rfl (by decide) tw1_98, List.forall_mem_cons.mpr ⟨s_icmp_ge C0 dX3_daysToNext_15 rfl, List.forall_mem_cons.mpr ⟨s_aload_n C0 dX3_daysToNext_18 rfl, List.forall_mem_cons.mpr ⟨s_get (ci := 3) (k := 1) C0 dX3_daysToNext_19 inX3 rfl (by decide) tw1_211, List.forall_mem_cons.mpr ⟨s_iload_n C0 dX3_daysToNext_22 rfl, List.forall_mem_cons.mpr ⟨s_iald C0 dX3_daysToNext_23, List.forall_mem_cons.mpr ⟨s_if_le C0 dX3_daysToNext_24 rfl, List.forall_mem_cons.mpr ⟨s_aload_n C0 dX3_daysToNext_27 rfl, List.forall_mem_cons.mpr ⟨s_get (ci := 3) (k := 0) C0 dX3_daysToNext_28 inX3 rfl (by decide) tw1_210, List.forall_mem_cons.mpr ⟨s_get (ci := 1) (k := 0) C0 dX3_daysToNext_31 inX1 rfl (by decide) tw1_194, List.forall_mem_cons.mpr ⟨s_iload_n C0 dX3_daysToNext_34 rfl, List.forall_mem_cons.mpr ⟨s_iload_n C0 dX3_daysToNext_35 rfl, List.forall_mem_cons.mpr ⟨s_callV (ci := 9) C0 (kX9_daysFrom l) dX3_daysToNext_36 rfl qX9_daysFrom tw4_59 tw4_60 tw4_61 tw1_4 tw4_62 rfl (by decide) (by decide), List.forall_mem_cons.mpr ⟨s_iret C0 hr dX3_daysToNext_39, List.forall_mem_cons.mpr ⟨s_iinc C0 dX3_daysToNext_40 rfl (by decide), List.forall_mem_cons.mpr ⟨s_goto C0 dX3_daysToNext_43 rfl, List.forall_mem_cons.mpr ⟨s_ldc C0 dX3_daysToNext_46 tw4_68, List.forall_mem_cons.mpr ⟨s_iret C0 hr dX3_daysToNext_48, fun _ h => absurd h List.not_mem_nil⟩⟩⟩⟩⟩⟩⟩⟩⟩⟩⟩⟩⟩⟩⟩⟩⟩⟩⟩⟩⟩⟩⟩⟩⟩⟩
def fX3_daysToNext : Mf := mf 3 (fun K => tl K lX3_daysToNext)
theorem kX3_daysToNext (l : Launch) : Okm l yX3_daysToNext cX3_daysToNext 3 (some .int) 1 fX3_daysToNext := Okm_tl (own := RX3) (by decide +kernel) rfl (fun C0 hr => hX3_daysToNext_0 l C0 hr)
theorem dX3_weekFrom_0 : decode cX3_weekFrom 0 = .ok (.iconst 0, 1) := by decide +kernel
theorem dX3_weekFrom_1 : decode cX3_weekFrom 1 = .ok (.istore_n 3, 1) := by decide +kernel
theorem dX3_weekFrom_2 : decode cX3_weekFrom 2 = .ok (.iload_n 1, 1) := by decide +kernel
theorem dX3_weekFrom_3 : decode cX3_weekFrom 3 = .ok (.istore 4, 2) := by decide +kernel
theorem dX3_weekFrom_5 : decode cX3_weekFrom 5 = .ok (.iload 4, 2) := by decide +kernel
theorem dX3_weekFrom_7 : decode cX3_weekFrom 7 = .ok (.aload_n 0, 1) := by decide +kernel
theorem dX3_weekFrom_8 : decode cX3_weekFrom 8 = .ok (.getfield 19, 3) := by decide +kernel
theorem dX3_weekFrom_11 : decode cX3_weekFrom 11 = .ok (.getfield 57, 3) := by decide +kernel
theorem dX3_weekFrom_14 : decode cX3_weekFrom 14 = .ok (.getfield 98, 3) := by decide +kernel
theorem dX3_weekFrom_17 : decode cX3_weekFrom 17 = .ok (.if_icmp .ge 50, 3) := by decide +kernel
theorem dX3_weekFrom_20 : decode cX3_weekFrom 20 = .ok (.aload_n 0, 1) := by decide +kernel
theorem dX3_weekFrom_21 : decode cX3_weekFrom 21 = .ok (.getfield 19, 3) := by decide +kernel
theorem dX3_weekFrom_24 : decode cX3_weekFrom 24 = .ok (.getfield 57, 3) := by decide +kernel
theorem dX3_weekFrom_27 : decode cX3_weekFrom 27 = .ok (.iload_n 1, 1) := by decide +kernel
theorem dX3_weekFrom_28 : decode cX3_weekFrom 28 = .ok (.iload 4, 2) := by decide +kernel
theorem dX3_weekFrom_30 : decode cX3_weekFrom 30 = .ok (.invokevirtual 95, 3) := by decide +kernel
theorem dX3_weekFrom_33 : decode cX3_weekFrom 33 = .ok (.bipush 7, 2) := by decide +kernel
theorem dX3_weekFrom_35 : decode cX3_weekFrom 35 = .ok (.if_icmp .lt 6, 3) := by decide +kernel
theorem dX3_weekFrom_38 : decode cX3_weekFrom 38 = .ok (.goto 29, 3) := by decide +kernel
theorem dX3_weekFrom_41 : decode cX3_weekFrom 41 = .ok (.iload_n 3, 1) := by decide +kernel
theorem dX3_weekFrom_42 : decode cX3_weekFrom 42 = .ok (.iload 4, 2) := by decide +kernel
theorem dX3_weekFrom_44 : decode cX3_weekFrom 44 = .ok (.iload_n 2, 1) := by decide +kernel
theorem dX3_weekFrom_45 : decode cX3_weekFrom 45 = .ok (.if_icmp .ne 7, 3) := by decide +kernel
theorem dX3_weekFrom_48 : decode cX3_weekFrom 48 = .ok (.iconst 0, 1) := by decide +kernel
theorem dX3_weekFrom_49 : decode cX3_weekFrom 49 = .ok (.goto 10, 3) := by decide +kernel
theorem dX3_weekFrom_52 : decode cX3_weekFrom 52 = .ok (.aload_n 0, 1) := by decide +kernel
theorem dX3_weekFrom_53 : decode cX3_weekFrom 53 = .ok (.getfield 9, 3) := by decide +kernel
theorem dX3_weekFrom_56 : decode cX3_weekFrom 56 = .ok (.iload 4, 2) := by decide +kernel
theorem dX3_weekFrom_58 : decode cX3_weekFrom 58 = .ok (.iaload, 1) := by decide +kernel
theorem dX3_weekFrom_59 : decode cX3_weekFrom 59 = .ok (.iadd, 1) := by decide +kernel
theorem dX3_weekFrom_60 : decode cX3_weekFrom 60 = .ok (.istore_n 3, 1) := by decide +kernel
theorem dX3_weekFrom_61 : decode cX3_weekFrom 61 = .ok (.iinc 4 1, 3) := by decide +kernel
theorem dX3_weekFrom_64 : decode cX3_weekFrom 64 = .ok (.goto (-59), 3) := by decide +kernel
theorem dX3_weekFrom_67 : decode cX3_weekFrom 67 = .ok (.iload_n 3, 1) := by decide +kernel
theorem dX3_weekFrom_68 : decode cX3_weekFrom 68 = .ok (.ireturn, 1) := by decide +kernel
def lX3_weekFrom : List (Nat × (Op ⊕ Nat)) := [(0, .inl (o_pushI (nI 0) 1)), (1, .inl (o_istore 3 2)), (2, .inl (o_iload 1 3)), (3, .inl (o_istore 4 5)), (5, .inl (o_iload 4 7)), (7, .inl (o_aload 0 8)), (8, .inl (o_get 3 0 11)), (11, .inl (o_get 1 0 14)), (14, .inl (o_get 9 4 17)), (17, .inl (o_icmp_ge 67 20)), (20, .inl (o_aload 0 21)), (21, .inl (o_get 3 0 24)), (24, .inl (o_get 1 0 27)), (27, .inl (o_iload 1 28)), (28, .inl (o_iload 4 30)), (30, .inl (o_callV fX9_daysFrom 2 9 33)), (33, .inl (o_pushI (nI 7) 35)), (35, .inl (o_icmp_lt 41 38)), (38, .inl (o_goto 67)), (41, .inl (o_iload 3 42)), (42, .inl (o_iload 4 44)), (44, .inl (o_iload 2 45)), (45, .inl (o_icmp_ne 52 48)), (48, .inl (o_pushI (nI 0) 49)), (49, .inl (o_goto 59)), (52, .inl (o_aload 0 53)), (53, .inl (o_get 3 1 56)), (56, .inl (o_iload 4 58)), (58, .inl (o_iald 59)), (59, .inl (o_iadd 60)), (60, .inl (o_istore 3 61)), (61, .inl (o_iinc 4 (nI 1) 64)), (64, .inl (o_goto 5)), (67, .inl (o_iload 3 68)), (68, .inr 0)]
theorem qX3_weekFrom : yX3_weekFrom.cls = RX3 ∧ yX3_weekFrom.cls ≠ "java/lang/invoke/MethodHandle" ∧ yX3_weekFrom.cls ≠ "java/lang/invoke/VarHandle" ∧ (parseMethodDescriptor yX3_weekFrom.desc).map (fun d => d.parameters.length) = some 2 := by decide +kernel
set_option maxRecDepth 10000 in
theorem hX3_weekFrom_0 (l : Launch) {p : Program} {e : Env} {s : State} {m : MethodId} {args : Array Value} {below : List Frame} {meth : Method} {c : Code} {D : va_G} {ad adV : Nat → Nat} {cA : Nat → ClassId} {K : Kt} (C0 : Cx p s m args meth c D ad adV cA cX3_weekFrom 5 RX3) (hr : meth.sig.returnType = (some .int)) : ∀ q ∈ lX3_weekFrom, Sd p l e (rmd 1) s m args below meth c (MQ below (QQ D ad cA K) args s 0 0 (AA ad)) D ad cA 5 q.1 (opOf K q.2) := List.forall_mem_cons.mpr ⟨s_iconst C0 dX3_weekFrom_0 rfl, List.forall_mem_cons.mpr ⟨s_istore_n C0 dX3_weekFrom_1 rfl (by decide), List.forall_mem_cons.mpr ⟨s_iload_n C0 dX3_weekFrom_2 rfl, List.forall_mem_cons.mpr ⟨s_istore C0 dX3_weekFrom_3 (by decide), List.forall_mem_cons.mpr ⟨s_iload C0 dX3_weekFrom_5, List.forall_mem_cons.mpr ⟨s_aload_n C0 dX3_weekFrom_7 rfl, List.forall_mem_cons.mpr ⟨s_get (ci := 3) (k := 0) C0 dX3_weekFrom_8 inX3 rfl (by decide) tw1_210, List.forall_mem_cons.mpr ⟨s_get (ci := 1) (k := 0) C0 dX3_weekFrom_11 inX1 rfl (by decide) tw1_194, List.forall_mem_cons.mpr ⟨s_get (ci := 9) (k := 4) C0 dX3_weekFrom_14 inX9 rfl (by decide) tw1_98, List.forall_mem_cons.mpr ⟨s_icmp_ge C0 dX3_weekFrom_17 rfl, List.forall_mem_cons.mpr ⟨s_aload_n C0 dX3_weekFrom_20 rfl, List.forall_mem_cons.mpr ⟨s_get (ci := 3) (k := 0) C0 dX3_weekFrom_21 inX3 rfl (by decide) tw1_210, List.forall_mem_cons.mpr ⟨s_get (ci := 1) (k := 0) C0 dX3_weekFrom_24 inX1 rfl (by decide) tw1_194, List.forall_mem_cons.mpr ⟨s_iload_n C0 dX3_weekFrom_27 rfl, List.forall_mem_cons.mpr ⟨s_iload C0 dX3_weekFrom_28, List.forall_mem_cons.mpr ⟨s_callV (ci := 9) C0 (kX9_daysFrom l) dX3_weekFrom_30 rfl qX9_daysFrom tw4_59 tw4_60 tw4_61 tw1_4 tw4_62 rfl (by decide) (by decide), List.forall_mem_cons.mpr ⟨s_bipush C0 dX3_weekFrom_33 (by decide +kernel), List.forall_mem_cons.mpr ⟨s_icmp_lt C0 dX3_weekFrom_35 rfl, List.forall_mem_cons.mpr ⟨s_goto C0 dX3_weekFrom_38 rfl, List.forall_mem_cons.mpr ⟨s_iload_n C0 dX3_weekFrom_41 rfl, List.forall_mem_cons.mpr ⟨s_iload C0 dX3_weekFrom_42, List.forall_mem_cons.mpr ⟨s_iload_n C0 dX3_weekFrom_44 rfl, List.forall_mem_cons.mpr ⟨s_icmp_ne C0 dX3_weekFrom_45 rfl, List.forall_mem_cons.mpr ⟨s_iconst C0 dX3_weekFrom_48 rfl, List.forall_mem_cons.mpr ⟨s_goto C0 dX3_weekFrom_49 rfl, List.forall_mem_cons.mpr ⟨s_aload_n C0 dX3_weekFrom_52 rfl, List.forall_mem_cons.mpr ⟨s_get (ci := 3) (k := 1) C0 dX3_weekFrom_53 inX3 rfl (by decide) tw1_211, List.forall_mem_cons.mpr ⟨s_iload C0 dX3_weekFrom_56, List.forall_mem_cons.mpr ⟨s_iald C0 dX3_weekFrom_58, List.forall_mem_cons.mpr ⟨s_iadd C0 dX3_weekFrom_59, List.forall_mem_cons.mpr ⟨s_istore_n C0 dX3_weekFrom_60 rfl (by decide), List.forall_mem_cons.mpr ⟨s_iinc C0 dX3_weekFrom_61 rfl (by decide), List.forall_mem_cons.mpr ⟨s_goto C0 dX3_weekFrom_64 rfl, List.forall_mem_cons.mpr ⟨s_iload_n C0 dX3_weekFrom_67 rfl, List.forall_mem_cons.mpr ⟨s_iret C0 hr dX3_weekFrom_68, fun _ h => absurd h List.not_mem_nil⟩⟩⟩⟩⟩⟩⟩⟩⟩⟩⟩⟩⟩⟩⟩⟩⟩⟩⟩⟩⟩⟩⟩⟩⟩⟩⟩⟩⟩⟩⟩⟩⟩⟩⟩
def fX3_weekFrom : Mf := mf 5 (fun K => tl K lX3_weekFrom)
theorem kX3_weekFrom (l : Launch) : Okm l yX3_weekFrom cX3_weekFrom 5 (some .int) 1 fX3_weekFrom := Okm_tl (own := RX3) (by decide +kernel) rfl (fun C0 hr => hX3_weekFrom_0 l C0 hr)
theorem dX3_roomInWeek_0 : decode cX3_roomInWeek 0 = .ok (.aload_n 0, 1) := by decide +kernel
theorem dX3_roomInWeek_1 : decode cX3_roomInWeek 1 = .ok (.getfield 19, 3) := by decide +kernel
theorem dX3_roomInWeek_4 : decode cX3_roomInWeek 4 = .ok (.getfield 57, 3) := by decide +kernel
theorem dX3_roomInWeek_7 : decode cX3_roomInWeek 7 = .ok (.getfield 102, 3) := by decide +kernel
theorem dX3_roomInWeek_10 : decode cX3_roomInWeek 10 = .ok (.iconst 0, 1) := by decide +kernel
theorem dX3_roomInWeek_11 : decode cX3_roomInWeek 11 = .ok (.iaload, 1) := by decide +kernel
theorem dX3_roomInWeek_12 : decode cX3_roomInWeek 12 = .ok (.istore_n 2, 1) := by decide +kernel
theorem dX3_roomInWeek_13 : decode cX3_roomInWeek 13 = .ok (.iload_n 2, 1) := by decide +kernel
theorem dX3_roomInWeek_14 : decode cX3_roomInWeek 14 = .ok (.ifCond .ne 6, 3) := by decide +kernel
theorem dX3_roomInWeek_17 : decode cX3_roomInWeek 17 = .ok (.ldc 101, 2) := by decide +kernel
theorem dX3_roomInWeek_19 : decode cX3_roomInWeek 19 = .ok (.ireturn, 1) := by decide +kernel
theorem dX3_roomInWeek_20 : decode cX3_roomInWeek 20 = .ok (.iconst 0, 1) := by decide +kernel
theorem dX3_roomInWeek_21 : decode cX3_roomInWeek 21 = .ok (.istore_n 3, 1) := by decide +kernel
theorem dX3_roomInWeek_22 : decode cX3_roomInWeek 22 = .ok (.iload_n 1, 1) := by decide +kernel
theorem dX3_roomInWeek_23 : decode cX3_roomInWeek 23 = .ok (.istore 4, 2) := by decide +kernel
theorem dX3_roomInWeek_25 : decode cX3_roomInWeek 25 = .ok (.iload 4, 2) := by decide +kernel
theorem dX3_roomInWeek_27 : decode cX3_roomInWeek 27 = .ok (.ifCond .lt 42, 3) := by decide +kernel
theorem dX3_roomInWeek_30 : decode cX3_roomInWeek 30 = .ok (.aload_n 0, 1) := by decide +kernel
theorem dX3_roomInWeek_31 : decode cX3_roomInWeek 31 = .ok (.getfield 19, 3) := by decide +kernel
theorem dX3_roomInWeek_34 : decode cX3_roomInWeek 34 = .ok (.getfield 57, 3) := by decide +kernel
theorem dX3_roomInWeek_37 : decode cX3_roomInWeek 37 = .ok (.iload 4, 2) := by decide +kernel
theorem dX3_roomInWeek_39 : decode cX3_roomInWeek 39 = .ok (.iload_n 1, 1) := by decide +kernel
theorem dX3_roomInWeek_40 : decode cX3_roomInWeek 40 = .ok (.invokevirtual 95, 3) := by decide +kernel
theorem dX3_roomInWeek_43 : decode cX3_roomInWeek 43 = .ok (.bipush 7, 2) := by decide +kernel
theorem dX3_roomInWeek_45 : decode cX3_roomInWeek 45 = .ok (.if_icmp .lt 6, 3) := by decide +kernel
theorem dX3_roomInWeek_48 : decode cX3_roomInWeek 48 = .ok (.goto 21, 3) := by decide +kernel
theorem dX3_roomInWeek_51 : decode cX3_roomInWeek 51 = .ok (.iload_n 3, 1) := by decide +kernel
theorem dX3_roomInWeek_52 : decode cX3_roomInWeek 52 = .ok (.aload_n 0, 1) := by decide +kernel
theorem dX3_roomInWeek_53 : decode cX3_roomInWeek 53 = .ok (.iload 4, 2) := by decide +kernel
theorem dX3_roomInWeek_55 : decode cX3_roomInWeek 55 = .ok (.iload_n 1, 1) := by decide +kernel
theorem dX3_roomInWeek_56 : decode cX3_roomInWeek 56 = .ok (.invokevirtual 105, 3) := by decide +kernel
theorem dX3_roomInWeek_59 : decode cX3_roomInWeek 59 = .ok (.invokestatic 108, 3) := by decide +kernel
theorem dX3_roomInWeek_62 : decode cX3_roomInWeek 62 = .ok (.istore_n 3, 1) := by decide +kernel
theorem dX3_roomInWeek_63 : decode cX3_roomInWeek 63 = .ok (.iinc 4 (-1), 3) := by decide +kernel
theorem dX3_roomInWeek_66 : decode cX3_roomInWeek 66 = .ok (.goto (-41), 3) := by decide +kernel
theorem dX3_roomInWeek_69 : decode cX3_roomInWeek 69 = .ok (.iload_n 2, 1) := by decide +kernel
theorem dX3_roomInWeek_70 : decode cX3_roomInWeek 70 = .ok (.iload_n 3, 1) := by decide +kernel
theorem dX3_roomInWeek_71 : decode cX3_roomInWeek 71 = .ok (.isub, 1) := by decide +kernel
theorem dX3_roomInWeek_72 : decode cX3_roomInWeek 72 = .ok (.ireturn, 1) := by decide +kernel
def lX3_roomInWeek : List (Nat × (Op ⊕ Nat)) := [(0, .inl (o_aload 0 1)), (1, .inl (o_get 3 0 4)), (4, .inl (o_get 1 0 7)), (7, .inl (o_get 9 6 10)), (10, .inl (o_pushI (nI 0) 11)), (11, .inl (o_iald 12)), (12, .inl (o_istore 2 13)), (13, .inl (o_iload 2 14)), (14, .inl (o_if_ne 20 17)), (17, .inl (o_pushI (nI 1000000) 19)), (19, .inr 0), (20, .inl (o_pushI (nI 0) 21)), (21, .inl (o_istore 3 22)), (22, .inl (o_iload 1 23)), (23, .inl (o_istore 4 25)), (25, .inl (o_iload 4 27)), (27, .inl (o_if_lt 69 30)), (30, .inl (o_aload 0 31)), (31, .inl (o_get 3 0 34)), (34, .inl (o_get 1 0 37)), (37, .inl (o_iload 4 39)), (39, .inl (o_iload 1 40)), (40, .inl (o_callV fX9_daysFrom 2 9 43)), (43, .inl (o_pushI (nI 7) 45)), (45, .inl (o_icmp_lt 51 48)), (48, .inl (o_goto 69)), (51, .inl (o_iload 3 52)), (52, .inl (o_aload 0 53)), (53, .inl (o_iload 4 55)), (55, .inl (o_iload 1 56)), (56, .inl (o_callV fX3_weekFrom 2 3 59)), (59, .inl (o_max 62)), (62, .inl (o_istore 3 63)), (63, .inl (o_iinc 4 ((-1)) 66)), (66, .inl (o_goto 25)), (69, .inl (o_iload 2 70)), (70, .inl (o_iload 3 71)), (71, .inl (o_isub 72)), (72, .inr 0)]
theorem qX3_roomInWeek : yX3_roomInWeek.cls = RX3 ∧ yX3_roomInWeek.cls ≠ "java/lang/invoke/MethodHandle" ∧ yX3_roomInWeek.cls ≠ "java/lang/invoke/VarHandle" ∧ (parseMethodDescriptor yX3_roomInWeek.desc).map (fun d => d.parameters.length) = some 1 := by decide +kernel
set_option maxRecDepth 10000 in
theorem hX3_roomInWeek_0 (l : Launch) {p : Program} {e : Env} {s : State} {m : MethodId} {args : Array Value} {below : List Frame} {meth : Method} {c : Code} {D : va_G} {ad adV : Nat → Nat} {cA : Nat → ClassId} {K : Kt} (C0 : Cx p s m args meth c D ad adV cA cX3_roomInWeek 5 RX3) (hr : meth.sig.returnType = (some .int)) : ∀ q ∈ lX3_roomInWeek, Sd p l e (rmd 2) s m args below meth c (MQ below (QQ D ad cA K) args s 0 0 (AA ad)) D ad cA 5 q.1 (opOf K q.2) := List.forall_mem_cons.mpr ⟨s_aload_n C0 dX3_roomInWeek_0 rfl, List.forall_mem_cons.mpr ⟨s_get (ci := 3) (k := 0) C0 dX3_roomInWeek_1 inX3 rfl (by decide) tw1_210, List.forall_mem_cons.mpr ⟨s_get (ci := 1) (k := 0) C0 dX3_roomInWeek_4 inX1 rfl (by decide) tw1_194, List.forall_mem_cons.mpr ⟨s_get (ci := 9) (k := 6) C0 dX3_roomInWeek_7 inX9 rfl (by decide) tw1_105, List.forall_mem_cons.mpr ⟨s_iconst C0 dX3_roomInWeek_10 rfl, List.forall_mem_cons.mpr ⟨s_iald C0 dX3_roomInWeek_11, List.forall_mem_cons.mpr ⟨s_istore_n C0 dX3_roomInWeek_12 rfl (by decide), List.forall_mem_cons.mpr ⟨s_iload_n C0 dX3_roomInWeek_13 rfl, List.forall_mem_cons.mpr ⟨s_if_ne C0 dX3_roomInWeek_14 rfl, List.forall_mem_cons.mpr ⟨s_ldc C0 dX3_roomInWeek_17 tw4_68, List.forall_mem_cons.mpr ⟨s_iret C0 hr dX3_roomInWeek_19, List.forall_mem_cons.mpr ⟨s_iconst C0 dX3_roomInWeek_20 rfl, List.forall_mem_cons.mpr ⟨s_istore_n C0 dX3_roomInWeek_21 rfl (by decide), List.forall_mem_cons.mpr ⟨s_iload_n C0 dX3_roomInWeek_22 rfl, List.forall_mem_cons.mpr ⟨s_istore C0 dX3_roomInWeek_23 (by decide), List.forall_mem_cons.mpr ⟨s_iload C0 dX3_roomInWeek_25, List.forall_mem_cons.mpr ⟨s_if_lt C0 dX3_roomInWeek_27 rfl, List.forall_mem_cons.mpr ⟨s_aload_n C0 dX3_roomInWeek_30 rfl, List.forall_mem_cons.mpr ⟨s_get (ci := 3) (k := 0) C0 dX3_roomInWeek_31 inX3 rfl (by decide) tw1_210, List.forall_mem_cons.mpr ⟨s_get (ci := 1) (k := 0) C0 dX3_roomInWeek_34 inX1 rfl (by decide) tw1_194, List.forall_mem_cons.mpr ⟨s_iload C0 dX3_roomInWeek_37, List.forall_mem_cons.mpr ⟨s_iload_n C0 dX3_roomInWeek_39 rfl, List.forall_mem_cons.mpr ⟨s_callV (ci := 9) C0 (kX9_daysFrom l) dX3_roomInWeek_40 rfl qX9_daysFrom tw4_59 tw4_60 tw4_61 tw1_4 tw4_62 rfl (by decide) (by decide), List.forall_mem_cons.mpr ⟨s_bipush C0 dX3_roomInWeek_43 (by decide +kernel), List.forall_mem_cons.mpr ⟨s_icmp_lt C0 dX3_roomInWeek_45 rfl, List.forall_mem_cons.mpr ⟨s_goto C0 dX3_roomInWeek_48 rfl, List.forall_mem_cons.mpr ⟨s_iload_n C0 dX3_roomInWeek_51 rfl, List.forall_mem_cons.mpr ⟨s_aload_n C0 dX3_roomInWeek_52 rfl, List.forall_mem_cons.mpr ⟨s_iload C0 dX3_roomInWeek_53, List.forall_mem_cons.mpr ⟨s_iload_n C0 dX3_roomInWeek_55 rfl, List.forall_mem_cons.mpr ⟨s_callV (ci := 3) C0 (kX3_weekFrom l) dX3_roomInWeek_56 rfl qX3_weekFrom tw4_73 tw4_75 twp_26 tw1_7 tw4_76 rfl (by decide) (by decide), List.forall_mem_cons.mpr ⟨s_max C0 dX3_roomInWeek_59 tw4_77 tw2_198 tw1_14 twm_max rfl (by decide), List.forall_mem_cons.mpr ⟨s_istore_n C0 dX3_roomInWeek_62 rfl (by decide), List.forall_mem_cons.mpr ⟨s_iinc C0 dX3_roomInWeek_63 rfl (by decide), List.forall_mem_cons.mpr ⟨s_goto C0 dX3_roomInWeek_66 rfl, List.forall_mem_cons.mpr ⟨s_iload_n C0 dX3_roomInWeek_69 rfl, List.forall_mem_cons.mpr ⟨s_iload_n C0 dX3_roomInWeek_70 rfl, List.forall_mem_cons.mpr ⟨s_isub C0 dX3_roomInWeek_71, List.forall_mem_cons.mpr ⟨s_iret C0 hr dX3_roomInWeek_72, fun _ h => absurd h List.not_mem_nil⟩⟩⟩⟩⟩⟩⟩⟩⟩⟩⟩⟩⟩⟩⟩⟩⟩⟩⟩⟩⟩⟩⟩⟩⟩⟩⟩⟩⟩⟩⟩⟩⟩⟩⟩⟩⟩⟩⟩
def fX3_roomInWeek : Mf := mf 5 (fun K => tl K lX3_roomInWeek)
theorem kX3_roomInWeek (l : Launch) : Okm l yX3_roomInWeek cX3_roomInWeek 5 (some .int) 2 fX3_roomInWeek := Okm_tl (own := RX3) (by decide +kernel) rfl (fun C0 hr => hX3_roomInWeek_0 l C0 hr)
theorem dX3_clashes_0 : decode cX3_clashes 0 = .ok (.iconst 0, 1) := by decide +kernel
theorem dX3_clashes_1 : decode cX3_clashes 1 = .ok (.istore_n 3, 1) := by decide +kernel
theorem dX3_clashes_2 : decode cX3_clashes 2 = .ok (.iload_n 2, 1) := by decide +kernel
theorem dX3_clashes_3 : decode cX3_clashes 3 = .ok (.aload_n 0, 1) := by decide +kernel
theorem dX3_clashes_4 : decode cX3_clashes 4 = .ok (.getfield 19, 3) := by decide +kernel
theorem dX3_clashes_7 : decode cX3_clashes 7 = .ok (.getfield 57, 3) := by decide +kernel
theorem dX3_clashes_10 : decode cX3_clashes 10 = .ok (.aload_n 0, 1) := by decide +kernel
theorem dX3_clashes_11 : decode cX3_clashes 11 = .ok (.getfield 15, 3) := by decide +kernel
theorem dX3_clashes_14 : decode cX3_clashes 14 = .ok (.iconst 1, 1) := by decide +kernel
theorem dX3_clashes_15 : decode cX3_clashes 15 = .ok (.invokevirtual 61, 3) := by decide +kernel
theorem dX3_clashes_18 : decode cX3_clashes 18 = .ok (.if_icmp .le 7, 3) := by decide +kernel
theorem dX3_clashes_21 : decode cX3_clashes 21 = .ok (.iload_n 3, 1) := by decide +kernel
theorem dX3_clashes_22 : decode cX3_clashes 22 = .ok (.iconst 1, 1) := by decide +kernel
theorem dX3_clashes_23 : decode cX3_clashes 23 = .ok (.ior, 1) := by decide +kernel
theorem dX3_clashes_24 : decode cX3_clashes 24 = .ok (.istore_n 3, 1) := by decide +kernel
theorem dX3_clashes_25 : decode cX3_clashes 25 = .ok (.aload_n 0, 1) := by decide +kernel
theorem dX3_clashes_26 : decode cX3_clashes 26 = .ok (.iload_n 1, 1) := by decide +kernel
theorem dX3_clashes_27 : decode cX3_clashes 27 = .ok (.invokevirtual 66, 3) := by decide +kernel
theorem dX3_clashes_30 : decode cX3_clashes 30 = .ok (.ifCond .ne 7, 3) := by decide +kernel
theorem dX3_clashes_33 : decode cX3_clashes 33 = .ok (.iload_n 3, 1) := by decide +kernel
theorem dX3_clashes_34 : decode cX3_clashes 34 = .ok (.iconst 2, 1) := by decide +kernel
theorem dX3_clashes_35 : decode cX3_clashes 35 = .ok (.ior, 1) := by decide +kernel
theorem dX3_clashes_36 : decode cX3_clashes 36 = .ok (.istore_n 3, 1) := by decide +kernel
theorem dX3_clashes_37 : decode cX3_clashes 37 = .ok (.aload_n 0, 1) := by decide +kernel
theorem dX3_clashes_38 : decode cX3_clashes 38 = .ok (.getfield 19, 3) := by decide +kernel
theorem dX3_clashes_41 : decode cX3_clashes 41 = .ok (.getfield 57, 3) := by decide +kernel
theorem dX3_clashes_44 : decode cX3_clashes 44 = .ok (.iload_n 2, 1) := by decide +kernel
theorem dX3_clashes_45 : decode cX3_clashes 45 = .ok (.invokevirtual 70, 3) := by decide +kernel
theorem dX3_clashes_48 : decode cX3_clashes 48 = .ok (.aload_n 0, 1) := by decide +kernel
theorem dX3_clashes_49 : decode cX3_clashes 49 = .ok (.iload_n 1, 1) := by decide +kernel
theorem dX3_clashes_50 : decode cX3_clashes 50 = .ok (.invokevirtual 74, 3) := by decide +kernel
theorem dX3_clashes_53 : decode cX3_clashes 53 = .ok (.if_icmp .lt 7, 3) := by decide +kernel
theorem dX3_clashes_56 : decode cX3_clashes 56 = .ok (.iload_n 3, 1) := by decide +kernel
theorem dX3_clashes_57 : decode cX3_clashes 57 = .ok (.iconst 4, 1) := by decide +kernel
theorem dX3_clashes_58 : decode cX3_clashes 58 = .ok (.ior, 1) := by decide +kernel
theorem dX3_clashes_59 : decode cX3_clashes 59 = .ok (.istore_n 3, 1) := by decide +kernel
theorem dX3_clashes_60 : decode cX3_clashes 60 = .ok (.iload_n 2, 1) := by decide +kernel
theorem dX3_clashes_61 : decode cX3_clashes 61 = .ok (.aload_n 0, 1) := by decide +kernel
theorem dX3_clashes_62 : decode cX3_clashes 62 = .ok (.iload_n 1, 1) := by decide +kernel
theorem dX3_clashes_63 : decode cX3_clashes 63 = .ok (.invokevirtual 77, 3) := by decide +kernel
theorem dX3_clashes_66 : decode cX3_clashes 66 = .ok (.if_icmp .le 8, 3) := by decide +kernel
theorem dX3_clashes_69 : decode cX3_clashes 69 = .ok (.iload_n 3, 1) := by decide +kernel
theorem dX3_clashes_70 : decode cX3_clashes 70 = .ok (.bipush 8, 2) := by decide +kernel
theorem dX3_clashes_72 : decode cX3_clashes 72 = .ok (.ior, 1) := by decide +kernel
theorem dX3_clashes_73 : decode cX3_clashes 73 = .ok (.istore_n 3, 1) := by decide +kernel
theorem dX3_clashes_74 : decode cX3_clashes 74 = .ok (.iload_n 3, 1) := by decide +kernel
theorem dX3_clashes_75 : decode cX3_clashes 75 = .ok (.ireturn, 1) := by decide +kernel
def lX3_clashes_0 : List (Nat × (Op ⊕ Nat)) := [(0, .inl (o_pushI (nI 0) 1)), (1, .inl (o_istore 3 2)), (2, .inl (o_iload 2 3)), (3, .inl (o_aload 0 4)), (4, .inl (o_get 3 0 7)), (7, .inl (o_get 1 0 10)), (10, .inl (o_aload 0 11)), (11, .inl (o_get 3 2 14)), (14, .inl (o_pushI (nI 1) 15)), (15, .inl (o_callV fX9_trait 2 9 18)), (18, .inl (o_icmp_le 25 21)), (21, .inl (o_iload 3 22)), (22, .inl (o_pushI (nI 1) 23)), (23, .inl (o_ior 24)), (24, .inl (o_istore 3 25)), (25, .inl (o_aload 0 26)), (26, .inl (o_iload 1 27)), (27, .inl (o_callV fX3_isRested 1 3 30)), (30, .inl (o_if_ne 37 33)), (33, .inl (o_iload 3 34)), (34, .inl (o_pushI (nI 2) 35)), (35, .inl (o_ior 36)), (36, .inl (o_istore 3 37)), (37, .inl (o_aload 0 38)), (38, .inl (o_get 3 0 41)), (41, .inl (o_get 1 0 44)), (44, .inl (o_iload 2 45)), (45, .inl (o_callV fX9_restAfter 1 9 48)), (48, .inl (o_aload 0 49)), (49, .inl (o_iload 1 50)), (50, .inl (o_callV fX3_daysToNext 1 3 53)), (53, .inl (o_icmp_lt 60 56)), (56, .inl (o_iload 3 57)), (57, .inl (o_pushI (nI 4) 58)), (58, .inl (o_ior 59)), (59, .inl (o_istore 3 60)), (60, .inl (o_iload 2 61)), (61, .inl (o_aload 0 62)), (62, .inl (o_iload 1 63)), (63, .inl (o_callV fX3_roomInWeek 1 3 66))]
def lX3_clashes_1 : List (Nat × (Op ⊕ Nat)) := [(66, .inl (o_icmp_le 74 69)), (69, .inl (o_iload 3 70)), (70, .inl (o_pushI (nI 8) 72)), (72, .inl (o_ior 73)), (73, .inl (o_istore 3 74)), (74, .inl (o_iload 3 75)), (75, .inr 0)]
def lX3_clashes : List (Nat × (Op ⊕ Nat)) := lX3_clashes_0 ++ (lX3_clashes_1)
theorem qX3_clashes : yX3_clashes.cls = RX3 ∧ yX3_clashes.cls ≠ "java/lang/invoke/MethodHandle" ∧ yX3_clashes.cls ≠ "java/lang/invoke/VarHandle" ∧ (parseMethodDescriptor yX3_clashes.desc).map (fun d => d.parameters.length) = some 2 := by decide +kernel
set_option maxRecDepth 10000 in
theorem hX3_clashes_0 (l : Launch) {p : Program} {e : Env} {s : State} {m : MethodId} {args : Array Value} {below : List Frame} {meth : Method} {c : Code} {D : va_G} {ad adV : Nat → Nat} {cA : Nat → ClassId} {K : Kt} (C0 : Cx p s m args meth c D ad adV cA cX3_clashes 4 RX3) (hr : meth.sig.returnType = (some .int)) : ∀ q ∈ lX3_clashes_0, Sd p l e (rmd 3) s m args below meth c (MQ below (QQ D ad cA K) args s 0 0 (AA ad)) D ad cA 4 q.1 (opOf K q.2) := List.forall_mem_cons.mpr ⟨s_iconst C0 dX3_clashes_0 rfl, List.forall_mem_cons.mpr ⟨s_istore_n C0 dX3_clashes_1 rfl (by decide), List.forall_mem_cons.mpr ⟨s_iload_n C0 dX3_clashes_2 rfl, List.forall_mem_cons.mpr ⟨s_aload_n C0 dX3_clashes_3 rfl, List.forall_mem_cons.mpr ⟨s_get (ci := 3) (k := 0) C0 dX3_clashes_4 inX3 rfl (by decide) tw1_210, List.forall_mem_cons.mpr ⟨s_get (ci := 1) (k := 0) C0 dX3_clashes_7 inX1 rfl (by decide) tw1_194, List.forall_mem_cons.mpr ⟨s_aload_n C0 dX3_clashes_10 rfl, List.forall_mem_cons.mpr ⟨s_get (ci := 3) (k := 2) C0 dX3_clashes_11 inX3 rfl (by decide) tw1_212, List.forall_mem_cons.mpr ⟨s_iconst C0 dX3_clashes_14 rfl, List.forall_mem_cons.mpr ⟨s_callV (ci := 9) C0 (kX9_trait l) dX3_clashes_15 rfl qX9_trait tw4_54 tw3_73 tw3_74 tw1_4 tw3_75 rfl (by decide) (by decide), List.forall_mem_cons.mpr ⟨s_icmp_le C0 dX3_clashes_18 rfl, List.forall_mem_cons.mpr ⟨s_iload_n C0 dX3_clashes_21 rfl, List.forall_mem_cons.mpr ⟨s_iconst C0 dX3_clashes_22 rfl, List.forall_mem_cons.mpr ⟨s_ior C0 dX3_clashes_23, List.forall_mem_cons.mpr ⟨s_istore_n C0 dX3_clashes_24 rfl (by decide), List.forall_mem_cons.mpr ⟨s_aload_n C0 dX3_clashes_25 rfl, List.forall_mem_cons.mpr ⟨s_iload_n C0 dX3_clashes_26 rfl, List.forall_mem_cons.mpr ⟨s_callV (ci := 3) C0 (kX3_isRested l) dX3_clashes_27 rfl qX3_isRested tw4_55 tw4_57 twp_23 tw1_7 tw4_58 rfl (by decide) (by decide), List.forall_mem_cons.mpr ⟨s_if_ne C0 dX3_clashes_30 rfl, List.forall_mem_cons.mpr ⟨s_iload_n C0 dX3_clashes_33 rfl, List.forall_mem_cons.mpr ⟨s_iconst C0 dX3_clashes_34 rfl, List.forall_mem_cons.mpr ⟨s_ior C0 dX3_clashes_35, List.forall_mem_cons.mpr ⟨s_istore_n C0 dX3_clashes_36 rfl (by decide), List.forall_mem_cons.mpr ⟨s_aload_n C0 dX3_clashes_37 rfl, List.forall_mem_cons.mpr ⟨s_get (ci := 3) (k := 0) C0 dX3_clashes_38 inX3 rfl (by decide) tw1_210, List.forall_mem_cons.mpr ⟨s_get (ci := 1) (k := 0) C0 dX3_clashes_41 inX1 rfl (by decide) tw1_194, List.forall_mem_cons.mpr ⟨s_iload_n C0 dX3_clashes_44 rfl, List.forall_mem_cons.mpr ⟨s_callV (ci := 9) C0 (kX9_restAfter l) dX3_clashes_45 rfl qX9_restAfter tw4_63 tw4_5 tw4_6 tw1_4 tw4_7 rfl (by decide) (by decide), List.forall_mem_cons.mpr ⟨s_aload_n C0 dX3_clashes_48 rfl, List.forall_mem_cons.mpr ⟨s_iload_n C0 dX3_clashes_49 rfl, List.forall_mem_cons.mpr ⟨s_callV (ci := 3) C0 (kX3_daysToNext l) dX3_clashes_50 rfl qX3_daysToNext tw4_64 tw4_66 twp_24 tw1_7 tw4_67 rfl (by decide) (by decide), List.forall_mem_cons.mpr ⟨s_icmp_lt C0 dX3_clashes_53 rfl, List.forall_mem_cons.mpr ⟨s_iload_n C0 dX3_clashes_56 rfl, List.forall_mem_cons.mpr ⟨s_iconst C0 dX3_clashes_57 rfl, List.forall_mem_cons.mpr ⟨s_ior C0 dX3_clashes_58, List.forall_mem_cons.mpr ⟨s_istore_n C0 dX3_clashes_59 rfl (by decide), List.forall_mem_cons.mpr ⟨s_iload_n C0 dX3_clashes_60 rfl, List.forall_mem_cons.mpr ⟨s_aload_n C0 dX3_clashes_61 rfl, List.forall_mem_cons.mpr ⟨s_iload_n C0 dX3_clashes_62 rfl, List.forall_mem_cons.mpr ⟨s_callV (ci := 3) C0 (kX3_roomInWeek l) dX3_clashes_63 rfl qX3_roomInWeek tw4_69 tw4_71 twp_25 tw1_7 tw4_72 rfl (by decide) (by decide), fun _ h => absurd h List.not_mem_nil⟩⟩⟩⟩⟩⟩⟩⟩⟩⟩⟩⟩⟩⟩⟩⟩⟩⟩⟩⟩⟩⟩⟩⟩⟩⟩⟩⟩⟩⟩⟩⟩⟩⟩⟩⟩⟩⟩⟩⟩
set_option maxRecDepth 10000 in
theorem hX3_clashes_1 (l : Launch) {p : Program} {e : Env} {s : State} {m : MethodId} {args : Array Value} {below : List Frame} {meth : Method} {c : Code} {D : va_G} {ad adV : Nat → Nat} {cA : Nat → ClassId} {K : Kt} (C0 : Cx p s m args meth c D ad adV cA cX3_clashes 4 RX3) (hr : meth.sig.returnType = (some .int)) : ∀ q ∈ lX3_clashes_1, Sd p l e (rmd 3) s m args below meth c (MQ below (QQ D ad cA K) args s 0 0 (AA ad)) D ad cA 4 q.1 (opOf K q.2) := List.forall_mem_cons.mpr ⟨s_icmp_le C0 dX3_clashes_66 rfl, List.forall_mem_cons.mpr ⟨s_iload_n C0 dX3_clashes_69 rfl, List.forall_mem_cons.mpr ⟨s_bipush C0 dX3_clashes_70 (by decide +kernel), List.forall_mem_cons.mpr ⟨s_ior C0 dX3_clashes_72, List.forall_mem_cons.mpr ⟨s_istore_n C0 dX3_clashes_73 rfl (by decide), List.forall_mem_cons.mpr ⟨s_iload_n C0 dX3_clashes_74 rfl, List.forall_mem_cons.mpr ⟨s_iret C0 hr dX3_clashes_75, fun _ h => absurd h List.not_mem_nil⟩⟩⟩⟩⟩⟩⟩
def fX3_clashes : Mf := mf 4 (fun K => tl K lX3_clashes)
theorem kX3_clashes (l : Launch) : Okm l yX3_clashes cX3_clashes 4 (some .int) 3 fX3_clashes := Okm_tl (own := RX3) (by decide +kernel) rfl (fun C0 hr => List.forall_mem_append.mpr ⟨hX3_clashes_0 l C0 hr, hX3_clashes_1 l C0 hr⟩)
theorem dX0_fitsTogether_0 : decode cX0_fitsTogether 0 = .ok (.iconst 0, 1) := by decide +kernel
theorem dX0_fitsTogether_1 : decode cX0_fitsTogether 1 = .ok (.istore_n 3, 1) := by decide +kernel
theorem dX0_fitsTogether_2 : decode cX0_fitsTogether 2 = .ok (.iconst 0, 1) := by decide +kernel
theorem dX0_fitsTogether_3 : decode cX0_fitsTogether 3 = .ok (.istore 4, 2) := by decide +kernel
theorem dX0_fitsTogether_5 : decode cX0_fitsTogether 5 = .ok (.iload 4, 2) := by decide +kernel
theorem dX0_fitsTogether_7 : decode cX0_fitsTogether 7 = .ok (.aload_n 0, 1) := by decide +kernel
theorem dX0_fitsTogether_8 : decode cX0_fitsTogether 8 = .ok (.getfield 15, 3) := by decide +kernel
theorem dX0_fitsTogether_11 : decode cX0_fitsTogether 11 = .ok (.if_icmp .ge 76, 3) := by decide +kernel
theorem dX0_fitsTogether_14 : decode cX0_fitsTogether 14 = .ok (.iload_n 2, 1) := by decide +kernel
theorem dX0_fitsTogether_15 : decode cX0_fitsTogether 15 = .ok (.iload 4, 2) := by decide +kernel
theorem dX0_fitsTogether_17 : decode cX0_fitsTogether 17 = .ok (.iushr, 1) := by decide +kernel
theorem dX0_fitsTogether_18 : decode cX0_fitsTogether 18 = .ok (.iconst 1, 1) := by decide +kernel
theorem dX0_fitsTogether_19 : decode cX0_fitsTogether 19 = .ok (.iand, 1) := by decide +kernel
theorem dX0_fitsTogether_20 : decode cX0_fitsTogether 20 = .ok (.iconst 1, 1) := by decide +kernel
theorem dX0_fitsTogether_21 : decode cX0_fitsTogether 21 = .ok (.if_icmp .ne 7, 3) := by decide +kernel
theorem dX0_fitsTogether_24 : decode cX0_fitsTogether 24 = .ok (.iconst 1, 1) := by decide +kernel
theorem dX0_fitsTogether_25 : decode cX0_fitsTogether 25 = .ok (.goto 4, 3) := by decide +kernel
theorem dX0_fitsTogether_28 : decode cX0_fitsTogether 28 = .ok (.iconst 0, 1) := by decide +kernel
theorem dX0_fitsTogether_29 : decode cX0_fitsTogether 29 = .ok (.istore 5, 2) := by decide +kernel
theorem dX0_fitsTogether_31 : decode cX0_fitsTogether 31 = .ok (.aload_n 0, 1) := by decide +kernel
theorem dX0_fitsTogether_32 : decode cX0_fitsTogether 32 = .ok (.getfield 44, 3) := by decide +kernel
theorem dX0_fitsTogether_35 : decode cX0_fitsTogether 35 = .ok (.aload_n 0, 1) := by decide +kernel
theorem dX0_fitsTogether_36 : decode cX0_fitsTogether 36 = .ok (.getfield 9, 3) := by decide +kernel
theorem dX0_fitsTogether_39 : decode cX0_fitsTogether 39 = .ok (.iload 4, 2) := by decide +kernel
theorem dX0_fitsTogether_41 : decode cX0_fitsTogether 41 = .ok (.iadd, 1) := by decide +kernel
theorem dX0_fitsTogether_42 : decode cX0_fitsTogether 42 = .ok (.iload 5, 2) := by decide +kernel
theorem dX0_fitsTogether_44 : decode cX0_fitsTogether 44 = .ok (.ifCond .eq 21, 3) := by decide +kernel
theorem dX0_fitsTogether_47 : decode cX0_fitsTogether 47 = .ok (.aload_n 0, 1) := by decide +kernel
theorem dX0_fitsTogether_48 : decode cX0_fitsTogether 48 = .ok (.getfield 40, 3) := by decide +kernel
theorem dX0_fitsTogether_51 : decode cX0_fitsTogether 51 = .ok (.iload_n 1, 1) := by decide +kernel
theorem dX0_fitsTogether_52 : decode cX0_fitsTogether 52 = .ok (.aload_n 0, 1) := by decide +kernel
theorem dX0_fitsTogether_53 : decode cX0_fitsTogether 53 = .ok (.getfield 9, 3) := by decide +kernel
theorem dX0_fitsTogether_56 : decode cX0_fitsTogether 56 = .ok (.iload 4, 2) := by decide +kernel
theorem dX0_fitsTogether_58 : decode cX0_fitsTogether 58 = .ok (.iadd, 1) := by decide +kernel
theorem dX0_fitsTogether_59 : decode cX0_fitsTogether 59 = .ok (.invokevirtual 74, 3) := by decide +kernel
theorem dX0_fitsTogether_62 : decode cX0_fitsTogether 62 = .ok (.goto 4, 3) := by decide +kernel
theorem dX0_fitsTogether_65 : decode cX0_fitsTogether 65 = .ok (.iconst 0, 1) := by decide +kernel
theorem dX0_fitsTogether_66 : decode cX0_fitsTogether 66 = .ok (.invokevirtual 90, 3) := by decide +kernel
theorem dX0_fitsTogether_69 : decode cX0_fitsTogether 69 = .ok (.iload 5, 2) := by decide +kernel
theorem dX0_fitsTogether_71 : decode cX0_fitsTogether 71 = .ok (.ifCond .eq 8, 3) := by decide +kernel
theorem dX0_fitsTogether_74 : decode cX0_fitsTogether 74 = .ok (.iload 4, 2) := by decide +kernel
theorem dX0_fitsTogether_76 : decode cX0_fitsTogether 76 = .ok (.goto 4, 3) := by decide +kernel
theorem dX0_fitsTogether_79 : decode cX0_fitsTogether 79 = .ok (.iload_n 3, 1) := by decide +kernel
theorem dX0_fitsTogether_80 : decode cX0_fitsTogether 80 = .ok (.istore_n 3, 1) := by decide +kernel
theorem dX0_fitsTogether_81 : decode cX0_fitsTogether 81 = .ok (.iinc 4 1, 3) := by decide +kernel
theorem dX0_fitsTogether_84 : decode cX0_fitsTogether 84 = .ok (.goto (-79), 3) := by decide +kernel
theorem dX0_fitsTogether_87 : decode cX0_fitsTogether 87 = .ok (.aload_n 0, 1) := by decide +kernel
theorem dX0_fitsTogether_88 : decode cX0_fitsTogether 88 = .ok (.iload_n 1, 1) := by decide +kernel
theorem dX0_fitsTogether_89 : decode cX0_fitsTogether 89 = .ok (.iload_n 2, 1) := by decide +kernel
theorem dX0_fitsTogether_90 : decode cX0_fitsTogether 90 = .ok (.iconst 1, 1) := by decide +kernel
theorem dX0_fitsTogether_91 : decode cX0_fitsTogether 91 = .ok (.iload_n 3, 1) := by decide +kernel
theorem dX0_fitsTogether_92 : decode cX0_fitsTogether 92 = .ok (.ishl, 1) := by decide +kernel
theorem dX0_fitsTogether_93 : decode cX0_fitsTogether 93 = .ok (.ixor, 1) := by decide +kernel
theorem dX0_fitsTogether_94 : decode cX0_fitsTogether 94 = .ok (.invokevirtual 93, 3) := by decide +kernel
theorem dX0_fitsTogether_97 : decode cX0_fitsTogether 97 = .ok (.ifCond .eq 37, 3) := by decide +kernel
theorem dX0_fitsTogether_100 : decode cX0_fitsTogether 100 = .ok (.aload_n 0, 1) := by decide +kernel
theorem dX0_fitsTogether_101 : decode cX0_fitsTogether 101 = .ok (.getfield 44, 3) := by decide +kernel
theorem dX0_fitsTogether_104 : decode cX0_fitsTogether 104 = .ok (.aload_n 0, 1) := by decide +kernel
theorem dX0_fitsTogether_105 : decode cX0_fitsTogether 105 = .ok (.getfield 9, 3) := by decide +kernel
theorem dX0_fitsTogether_108 : decode cX0_fitsTogether 108 = .ok (.iload_n 3, 1) := by decide +kernel
theorem dX0_fitsTogether_109 : decode cX0_fitsTogether 109 = .ok (.iadd, 1) := by decide +kernel
theorem dX0_fitsTogether_110 : decode cX0_fitsTogether 110 = .ok (.aload_n 0, 1) := by decide +kernel
theorem dX0_fitsTogether_111 : decode cX0_fitsTogether 111 = .ok (.getfield 40, 3) := by decide +kernel
theorem dX0_fitsTogether_114 : decode cX0_fitsTogether 114 = .ok (.iload_n 1, 1) := by decide +kernel
theorem dX0_fitsTogether_115 : decode cX0_fitsTogether 115 = .ok (.aload_n 0, 1) := by decide +kernel
theorem dX0_fitsTogether_116 : decode cX0_fitsTogether 116 = .ok (.getfield 9, 3) := by decide +kernel
theorem dX0_fitsTogether_119 : decode cX0_fitsTogether 119 = .ok (.iload_n 3, 1) := by decide +kernel
theorem dX0_fitsTogether_120 : decode cX0_fitsTogether 120 = .ok (.iadd, 1) := by decide +kernel
theorem dX0_fitsTogether_121 : decode cX0_fitsTogether 121 = .ok (.invokevirtual 74, 3) := by decide +kernel
theorem dX0_fitsTogether_124 : decode cX0_fitsTogether 124 = .ok (.invokevirtual 96, 3) := by decide +kernel
theorem dX0_fitsTogether_127 : decode cX0_fitsTogether 127 = .ok (.ifCond .ne 7, 3) := by decide +kernel
theorem dX0_fitsTogether_130 : decode cX0_fitsTogether 130 = .ok (.iconst 1, 1) := by decide +kernel
theorem dX0_fitsTogether_131 : decode cX0_fitsTogether 131 = .ok (.goto 4, 3) := by decide +kernel
theorem dX0_fitsTogether_134 : decode cX0_fitsTogether 134 = .ok (.iconst 0, 1) := by decide +kernel
theorem dX0_fitsTogether_135 : decode cX0_fitsTogether 135 = .ok (.ireturn, 1) := by decide +kernel
def lX0_fitsTogether_0 : List (Nat × (Op ⊕ Nat)) := [(0, .inl (o_pushI (nI 0) 1)), (1, .inl (o_istore 3 2)), (2, .inl (o_pushI (nI 0) 3)), (3, .inl (o_istore 4 5)), (5, .inl (o_iload 4 7)), (7, .inl (o_aload 0 8)), (8, .inl (o_get 0 3 11)), (11, .inl (o_icmp_ge 87 14)), (14, .inl (o_iload 2 15)), (15, .inl (o_iload 4 17)), (17, .inl (o_iushr 18)), (18, .inl (o_pushI (nI 1) 19)), (19, .inl (o_iand 20)), (20, .inl (o_pushI (nI 1) 21)), (21, .inl (o_icmp_ne 28 24)), (24, .inl (o_pushI (nI 1) 25)), (25, .inl (o_goto 29)), (28, .inl (o_pushI (nI 0) 29)), (29, .inl (o_istore 5 31)), (31, .inl (o_aload 0 32)), (32, .inl (o_get 0 1 35)), (35, .inl (o_aload 0 36)), (36, .inl (o_get 0 2 39)), (39, .inl (o_iload 4 41)), (41, .inl (o_iadd 42)), (42, .inl (o_iload 5 44)), (44, .inl (o_if_eq 65 47)), (47, .inl (o_aload 0 48)), (48, .inl (o_get 0 0 51)), (51, .inl (o_iload 1 52)), (52, .inl (o_aload 0 53)), (53, .inl (o_get 0 2 56)), (56, .inl (o_iload 4 58)), (58, .inl (o_iadd 59)), (59, .inl (o_callV fX1_fullThrows 2 1 62)), (62, .inl (o_goto 66)), (65, .inl (o_pushI (nI 0) 66)), (66, .inl (o_callV fX3_write 2 3 69)), (69, .inl (o_iload 5 71)), (71, .inl (o_if_eq 79 74))]
def lX0_fitsTogether_1 : List (Nat × (Op ⊕ Nat)) := [(74, .inl (o_iload 4 76)), (76, .inl (o_goto 80)), (79, .inl (o_iload 3 80)), (80, .inl (o_istore 3 81)), (81, .inl (o_iinc 4 (nI 1) 84)), (84, .inl (o_goto 5)), (87, .inl (o_aload 0 88)), (88, .inl (o_iload 1 89)), (89, .inl (o_iload 2 90)), (90, .inl (o_pushI (nI 1) 91)), (91, .inl (o_iload 3 92)), (92, .inl (o_ishl 93)), (93, .inl (o_ixor 94)), (94, .inl (o_callV fX0_mayHave 2 0 97)), (97, .inl (o_if_eq 134 100)), (100, .inl (o_aload 0 101)), (101, .inl (o_get 0 1 104)), (104, .inl (o_aload 0 105)), (105, .inl (o_get 0 2 108)), (108, .inl (o_iload 3 109)), (109, .inl (o_iadd 110)), (110, .inl (o_aload 0 111)), (111, .inl (o_get 0 0 114)), (114, .inl (o_iload 1 115)), (115, .inl (o_aload 0 116)), (116, .inl (o_get 0 2 119)), (119, .inl (o_iload 3 120)), (120, .inl (o_iadd 121)), (121, .inl (o_callV fX1_fullThrows 2 1 124)), (124, .inl (o_callV fX3_clashes 2 3 127)), (127, .inl (o_if_ne 134 130)), (130, .inl (o_pushI (nI 1) 131)), (131, .inl (o_goto 135)), (134, .inl (o_pushI (nI 0) 135)), (135, .inr 1)]
def lX0_fitsTogether : List (Nat × (Op ⊕ Nat)) := lX0_fitsTogether_0 ++ (lX0_fitsTogether_1)
theorem qX0_fitsTogether : yX0_fitsTogether.cls = RX0 ∧ yX0_fitsTogether.cls ≠ "java/lang/invoke/MethodHandle" ∧ yX0_fitsTogether.cls ≠ "java/lang/invoke/VarHandle" ∧ (parseMethodDescriptor yX0_fitsTogether.desc).map (fun d => d.parameters.length) = some 2 := by decide +kernel
set_option maxRecDepth 10000 in
theorem hX0_fitsTogether_0 (l : Launch) {p : Program} {e : Env} {s : State} {m : MethodId} {args : Array Value} {below : List Frame} {meth : Method} {c : Code} {D : va_G} {ad adV : Nat → Nat} {cA : Nat → ClassId} {K : Kt} (C0 : Cx p s m args meth c D ad adV cA cX0_fitsTogether 6 RX0) (hr : meth.sig.returnType = (some .boolean)) : ∀ q ∈ lX0_fitsTogether_0, Sd p l e (rmd 4) s m args below meth c (MQ below (QQ D ad cA K) args s 0 0 (AA ad)) D ad cA 6 q.1 (opOf K q.2) := List.forall_mem_cons.mpr ⟨s_iconst C0 dX0_fitsTogether_0 rfl, List.forall_mem_cons.mpr ⟨s_istore_n C0 dX0_fitsTogether_1 rfl (by decide), List.forall_mem_cons.mpr ⟨s_iconst C0 dX0_fitsTogether_2 rfl, List.forall_mem_cons.mpr ⟨s_istore C0 dX0_fitsTogether_3 (by decide), List.forall_mem_cons.mpr ⟨s_iload C0 dX0_fitsTogether_5, List.forall_mem_cons.mpr ⟨s_aload_n C0 dX0_fitsTogether_7 rfl, List.forall_mem_cons.mpr ⟨s_get (ci := 0) (k := 3) C0 dX0_fitsTogether_8 inX0 rfl (by decide) tw1_229, List.forall_mem_cons.mpr ⟨s_icmp_ge C0 dX0_fitsTogether_11 rfl, List.forall_mem_cons.mpr ⟨s_iload_n C0 dX0_fitsTogether_14 rfl, List.forall_mem_cons.mpr ⟨s_iload C0 dX0_fitsTogether_15, List.forall_mem_cons.mpr ⟨s_iushr C0 dX0_fitsTogether_17, List.forall_mem_cons.mpr ⟨s_iconst C0 dX0_fitsTogether_18 rfl, List.forall_mem_cons.mpr ⟨s_iand C0 dX0_fitsTogether_19, List.forall_mem_cons.mpr ⟨s_iconst C0 dX0_fitsTogether_20 rfl, List.forall_mem_cons.mpr ⟨s_icmp_ne C0 dX0_fitsTogether_21 rfl, List.forall_mem_cons.mpr ⟨s_iconst C0 dX0_fitsTogether_24 rfl, List.forall_mem_cons.mpr ⟨s_goto C0 dX0_fitsTogether_25 rfl, List.forall_mem_cons.mpr ⟨s_iconst C0 dX0_fitsTogether_28 rfl, List.forall_mem_cons.mpr ⟨s_istore C0 dX0_fitsTogether_29 (by decide), List.forall_mem_cons.mpr ⟨s_aload_n C0 dX0_fitsTogether_31 rfl, List.forall_mem_cons.mpr ⟨s_get (ci := 0) (k := 1) C0 dX0_fitsTogether_32 inX0 rfl (by decide) tw1_227, List.forall_mem_cons.mpr ⟨s_aload_n C0 dX0_fitsTogether_35 rfl, List.forall_mem_cons.mpr ⟨s_get (ci := 0) (k := 2) C0 dX0_fitsTogether_36 inX0 rfl (by decide) tw1_228, List.forall_mem_cons.mpr ⟨s_iload C0 dX0_fitsTogether_39, List.forall_mem_cons.mpr ⟨s_iadd C0 dX0_fitsTogether_41, List.forall_mem_cons.mpr ⟨s_iload C0 dX0_fitsTogether_42, List.forall_mem_cons.mpr ⟨s_if_eq C0 dX0_fitsTogether_44 rfl, List.forall_mem_cons.mpr ⟨s_aload_n C0 dX0_fitsTogether_47 rfl, List.forall_mem_cons.mpr ⟨s_get (ci := 0) (k := 0) C0 dX0_fitsTogether_48 inX0 rfl (by decide) tw1_226, List.forall_mem_cons.mpr ⟨s_iload_n C0 dX0_fitsTogether_51 rfl, List.forall_mem_cons.mpr ⟨s_aload_n C0 dX0_fitsTogether_52 rfl, List.forall_mem_cons.mpr ⟨s_get (ci := 0) (k := 2) C0 dX0_fitsTogether_53 inX0 rfl (by decide) tw1_228, List.forall_mem_cons.mpr ⟨s_iload C0 dX0_fitsTogether_56, List.forall_mem_cons.mpr ⟨s_iadd C0 dX0_fitsTogether_58, List.forall_mem_cons.mpr ⟨s_callV (ci := 1) C0 (kX1_fullThrows l) dX0_fitsTogether_59 rfl qX1_fullThrows tw4_146 tw4_116 tw4_117 tw1_6 tw4_118 rfl (by decide) (by decide), List.forall_mem_cons.mpr ⟨s_goto C0 dX0_fitsTogether_62 rfl, List.forall_mem_cons.mpr ⟨s_iconst C0 dX0_fitsTogether_65 rfl, List.forall_mem_cons.mpr ⟨s_callV (ci := 3) C0 (kX3_write l) dX0_fitsTogether_66 rfl qX3_write tw4_153 tw4_154 tw4_155 tw1_7 tw4_156 rfl (by decide) (by decide), List.forall_mem_cons.mpr ⟨s_iload C0 dX0_fitsTogether_69, List.forall_mem_cons.mpr ⟨s_if_eq C0 dX0_fitsTogether_71 rfl, fun _ h => absurd h List.not_mem_nil⟩⟩⟩⟩⟩⟩⟩⟩⟩⟩⟩⟩⟩⟩⟩⟩⟩⟩⟩⟩⟩⟩⟩⟩⟩⟩⟩⟩⟩⟩⟩⟩⟩⟩⟩⟩⟩⟩⟩⟩
set_option maxRecDepth 10000 in
theorem hX0_fitsTogether_1 (l : Launch) {p : Program} {e : Env} {s : State} {m : MethodId} {args : Array Value} {below : List Frame} {meth : Method} {c : Code} {D : va_G} {ad adV : Nat → Nat} {cA : Nat → ClassId} {K : Kt} (C0 : Cx p s m args meth c D ad adV cA cX0_fitsTogether 6 RX0) (hr : meth.sig.returnType = (some .boolean)) : ∀ q ∈ lX0_fitsTogether_1, Sd p l e (rmd 4) s m args below meth c (MQ below (QQ D ad cA K) args s 0 0 (AA ad)) D ad cA 6 q.1 (opOf K q.2) := List.forall_mem_cons.mpr ⟨s_iload C0 dX0_fitsTogether_74, List.forall_mem_cons.mpr ⟨s_goto C0 dX0_fitsTogether_76 rfl, List.forall_mem_cons.mpr ⟨s_iload_n C0 dX0_fitsTogether_79 rfl, List.forall_mem_cons.mpr ⟨s_istore_n C0 dX0_fitsTogether_80 rfl (by decide), List.forall_mem_cons.mpr ⟨s_iinc C0 dX0_fitsTogether_81 rfl (by decide), List.forall_mem_cons.mpr ⟨s_goto C0 dX0_fitsTogether_84 rfl, List.forall_mem_cons.mpr ⟨s_aload_n C0 dX0_fitsTogether_87 rfl, List.forall_mem_cons.mpr ⟨s_iload_n C0 dX0_fitsTogether_88 rfl, List.forall_mem_cons.mpr ⟨s_iload_n C0 dX0_fitsTogether_89 rfl, List.forall_mem_cons.mpr ⟨s_iconst C0 dX0_fitsTogether_90 rfl, List.forall_mem_cons.mpr ⟨s_iload_n C0 dX0_fitsTogether_91 rfl, List.forall_mem_cons.mpr ⟨s_ishl C0 dX0_fitsTogether_92, List.forall_mem_cons.mpr ⟨s_ixor C0 dX0_fitsTogether_93, List.forall_mem_cons.mpr ⟨s_callV (ci := 0) C0 (kX0_mayHave l) dX0_fitsTogether_94 rfl qX0_mayHave tw4_157 tw4_159 twp_31 tw1_8 tw4_160 rfl (by decide) (by decide), List.forall_mem_cons.mpr ⟨s_if_eq C0 dX0_fitsTogether_97 rfl, List.forall_mem_cons.mpr ⟨s_aload_n C0 dX0_fitsTogether_100 rfl, List.forall_mem_cons.mpr ⟨s_get (ci := 0) (k := 1) C0 dX0_fitsTogether_101 inX0 rfl (by decide) tw1_227, List.forall_mem_cons.mpr ⟨s_aload_n C0 dX0_fitsTogether_104 rfl, List.forall_mem_cons.mpr ⟨s_get (ci := 0) (k := 2) C0 dX0_fitsTogether_105 inX0 rfl (by decide) tw1_228, List.forall_mem_cons.mpr ⟨s_iload_n C0 dX0_fitsTogether_108 rfl, List.forall_mem_cons.mpr ⟨s_iadd C0 dX0_fitsTogether_109, List.forall_mem_cons.mpr ⟨s_aload_n C0 dX0_fitsTogether_110 rfl, List.forall_mem_cons.mpr ⟨s_get (ci := 0) (k := 0) C0 dX0_fitsTogether_111 inX0 rfl (by decide) tw1_226, List.forall_mem_cons.mpr ⟨s_iload_n C0 dX0_fitsTogether_114 rfl, List.forall_mem_cons.mpr ⟨s_aload_n C0 dX0_fitsTogether_115 rfl, List.forall_mem_cons.mpr ⟨s_get (ci := 0) (k := 2) C0 dX0_fitsTogether_116 inX0 rfl (by decide) tw1_228, List.forall_mem_cons.mpr ⟨s_iload_n C0 dX0_fitsTogether_119 rfl, List.forall_mem_cons.mpr ⟨s_iadd C0 dX0_fitsTogether_120, List.forall_mem_cons.mpr ⟨s_callV (ci := 1) C0 (kX1_fullThrows l) dX0_fitsTogether_121 rfl qX1_fullThrows tw4_146 tw4_116 tw4_117 tw1_6 tw4_118 rfl (by decide) (by decide), List.forall_mem_cons.mpr ⟨s_callV (ci := 3) C0 (kX3_clashes l) dX0_fitsTogether_124 rfl qX3_clashes tw4_161 tw4_51 tw4_52 tw1_7 tw4_53 rfl (by decide) (by decide), List.forall_mem_cons.mpr ⟨s_if_ne C0 dX0_fitsTogether_127 rfl, List.forall_mem_cons.mpr ⟨s_iconst C0 dX0_fitsTogether_130 rfl, List.forall_mem_cons.mpr ⟨s_goto C0 dX0_fitsTogether_131 rfl, List.forall_mem_cons.mpr ⟨s_iconst C0 dX0_fitsTogether_134 rfl, List.forall_mem_cons.mpr ⟨s_zret C0 hr dX0_fitsTogether_135, fun _ h => absurd h List.not_mem_nil⟩⟩⟩⟩⟩⟩⟩⟩⟩⟩⟩⟩⟩⟩⟩⟩⟩⟩⟩⟩⟩⟩⟩⟩⟩⟩⟩⟩⟩⟩⟩⟩⟩⟩⟩
def fX0_fitsTogether : Mf := mf 6 (fun K => tl K lX0_fitsTogether)
theorem kX0_fitsTogether (l : Launch) : Okm l yX0_fitsTogether cX0_fitsTogether 6 (some .boolean) 4 fX0_fitsTogether := Okm_tl (own := RX0) (by decide +kernel) rfl (fun C0 hr => List.forall_mem_append.mpr ⟨hX0_fitsTogether_0 l C0 hr, hX0_fitsTogether_1 l C0 hr⟩)
theorem dX0_prepare_0 : decode cX0_prepare 0 = .ok (.aload_n 0, 1) := by decide +kernel
theorem dX0_prepare_1 : decode cX0_prepare 1 = .ok (.getfield 22, 3) := by decide +kernel
theorem dX0_prepare_4 : decode cX0_prepare 4 = .ok (.iload_n 1, 1) := by decide +kernel
theorem dX0_prepare_5 : decode cX0_prepare 5 = .ok (.iconst 0, 1) := by decide +kernel
theorem dX0_prepare_6 : decode cX0_prepare 6 = .ok (.iastore, 1) := by decide +kernel
theorem dX0_prepare_7 : decode cX0_prepare 7 = .ok (.iconst 0, 1) := by decide +kernel
theorem dX0_prepare_8 : decode cX0_prepare 8 = .ok (.istore_n 2, 1) := by decide +kernel
theorem dX0_prepare_9 : decode cX0_prepare 9 = .ok (.iload_n 2, 1) := by decide +kernel
theorem dX0_prepare_10 : decode cX0_prepare 10 = .ok (.aload_n 0, 1) := by decide +kernel
theorem dX0_prepare_11 : decode cX0_prepare 11 = .ok (.getfield 15, 3) := by decide +kernel
theorem dX0_prepare_14 : decode cX0_prepare 14 = .ok (.if_icmp .ge 47, 3) := by decide +kernel
theorem dX0_prepare_17 : decode cX0_prepare 17 = .ok (.aload_n 0, 1) := by decide +kernel
theorem dX0_prepare_18 : decode cX0_prepare 18 = .ok (.getfield 25, 3) := by decide +kernel
theorem dX0_prepare_21 : decode cX0_prepare 21 = .ok (.iload_n 1, 1) := by decide +kernel
theorem dX0_prepare_22 : decode cX0_prepare 22 = .ok (.iconst 5, 1) := by decide +kernel
theorem dX0_prepare_23 : decode cX0_prepare 23 = .ok (.imul, 1) := by decide +kernel
theorem dX0_prepare_24 : decode cX0_prepare 24 = .ok (.iload_n 2, 1) := by decide +kernel
theorem dX0_prepare_25 : decode cX0_prepare 25 = .ok (.iadd, 1) := by decide +kernel
theorem dX0_prepare_26 : decode cX0_prepare 26 = .ok (.aload_n 0, 1) := by decide +kernel
theorem dX0_prepare_27 : decode cX0_prepare 27 = .ok (.getfield 40, 3) := by decide +kernel
theorem dX0_prepare_30 : decode cX0_prepare 30 = .ok (.iload_n 1, 1) := by decide +kernel
theorem dX0_prepare_31 : decode cX0_prepare 31 = .ok (.aload_n 0, 1) := by decide +kernel
theorem dX0_prepare_32 : decode cX0_prepare 32 = .ok (.getfield 9, 3) := by decide +kernel
theorem dX0_prepare_35 : decode cX0_prepare 35 = .ok (.iload_n 2, 1) := by decide +kernel
theorem dX0_prepare_36 : decode cX0_prepare 36 = .ok (.iadd, 1) := by decide +kernel
theorem dX0_prepare_37 : decode cX0_prepare 37 = .ok (.aload_n 0, 1) := by decide +kernel
theorem dX0_prepare_38 : decode cX0_prepare 38 = .ok (.getfield 40, 3) := by decide +kernel
theorem dX0_prepare_41 : decode cX0_prepare 41 = .ok (.iload_n 1, 1) := by decide +kernel
theorem dX0_prepare_42 : decode cX0_prepare 42 = .ok (.aload_n 0, 1) := by decide +kernel
theorem dX0_prepare_43 : decode cX0_prepare 43 = .ok (.getfield 9, 3) := by decide +kernel
theorem dX0_prepare_46 : decode cX0_prepare 46 = .ok (.iload_n 2, 1) := by decide +kernel
theorem dX0_prepare_47 : decode cX0_prepare 47 = .ok (.iadd, 1) := by decide +kernel
theorem dX0_prepare_48 : decode cX0_prepare 48 = .ok (.invokevirtual 74, 3) := by decide +kernel
theorem dX0_prepare_51 : decode cX0_prepare 51 = .ok (.invokevirtual 77, 3) := by decide +kernel
theorem dX0_prepare_54 : decode cX0_prepare 54 = .ok (.iastore, 1) := by decide +kernel
theorem dX0_prepare_55 : decode cX0_prepare 55 = .ok (.iinc 2 1, 3) := by decide +kernel
theorem dX0_prepare_58 : decode cX0_prepare 58 = .ok (.goto (-49), 3) := by decide +kernel
theorem dX0_prepare_61 : decode cX0_prepare 61 = .ok (.aload_n 0, 1) := by decide +kernel
theorem dX0_prepare_62 : decode cX0_prepare 62 = .ok (.getfield 18, 3) := by decide +kernel
theorem dX0_prepare_65 : decode cX0_prepare 65 = .ok (.iload_n 1, 1) := by decide +kernel
theorem dX0_prepare_66 : decode cX0_prepare 66 = .ok (.iconst 1, 1) := by decide +kernel
theorem dX0_prepare_67 : decode cX0_prepare 67 = .ok (.iastore, 1) := by decide +kernel
theorem dX0_prepare_68 : decode cX0_prepare 68 = .ok (.aload_n 0, 1) := by decide +kernel
theorem dX0_prepare_69 : decode cX0_prepare 69 = .ok (.getfield 44, 3) := by decide +kernel
theorem dX0_prepare_72 : decode cX0_prepare 72 = .ok (.iload_n 1, 1) := by decide +kernel
theorem dX0_prepare_73 : decode cX0_prepare 73 = .ok (.invokevirtual 81, 3) := by decide +kernel
theorem dX0_prepare_76 : decode cX0_prepare 76 = .ok (.iconst 1, 1) := by decide +kernel
theorem dX0_prepare_77 : decode cX0_prepare 77 = .ok (.istore_n 2, 1) := by decide +kernel
theorem dX0_prepare_78 : decode cX0_prepare 78 = .ok (.iload_n 2, 1) := by decide +kernel
theorem dX0_prepare_79 : decode cX0_prepare 79 = .ok (.iconst 1, 1) := by decide +kernel
theorem dX0_prepare_80 : decode cX0_prepare 80 = .ok (.aload_n 0, 1) := by decide +kernel
theorem dX0_prepare_81 : decode cX0_prepare 81 = .ok (.getfield 15, 3) := by decide +kernel
theorem dX0_prepare_84 : decode cX0_prepare 84 = .ok (.ishl, 1) := by decide +kernel
theorem dX0_prepare_85 : decode cX0_prepare 85 = .ok (.if_icmp .ge 30, 3) := by decide +kernel
theorem dX0_prepare_88 : decode cX0_prepare 88 = .ok (.aload_n 0, 1) := by decide +kernel
theorem dX0_prepare_89 : decode cX0_prepare 89 = .ok (.iload_n 1, 1) := by decide +kernel
theorem dX0_prepare_90 : decode cX0_prepare 90 = .ok (.iload_n 2, 1) := by decide +kernel
theorem dX0_prepare_91 : decode cX0_prepare 91 = .ok (.invokevirtual 86, 3) := by decide +kernel
theorem dX0_prepare_94 : decode cX0_prepare 94 = .ok (.ifCond .eq 15, 3) := by decide +kernel
theorem dX0_prepare_97 : decode cX0_prepare 97 = .ok (.aload_n 0, 1) := by decide +kernel
theorem dX0_prepare_98 : decode cX0_prepare 98 = .ok (.getfield 18, 3) := by decide +kernel
theorem dX0_prepare_101 : decode cX0_prepare 101 = .ok (.iload_n 1, 1) := by decide +kernel
theorem dX0_prepare_102 : decode cX0_prepare 102 = .ok (.dup2, 1) := by decide +kernel
theorem dX0_prepare_103 : decode cX0_prepare 103 = .ok (.iaload, 1) := by decide +kernel
theorem dX0_prepare_104 : decode cX0_prepare 104 = .ok (.iconst 1, 1) := by decide +kernel
theorem dX0_prepare_105 : decode cX0_prepare 105 = .ok (.iload_n 2, 1) := by decide +kernel
theorem dX0_prepare_106 : decode cX0_prepare 106 = .ok (.ishl, 1) := by decide +kernel
theorem dX0_prepare_107 : decode cX0_prepare 107 = .ok (.ior, 1) := by decide +kernel
theorem dX0_prepare_108 : decode cX0_prepare 108 = .ok (.iastore, 1) := by decide +kernel
theorem dX0_prepare_109 : decode cX0_prepare 109 = .ok (.iinc 2 1, 3) := by decide +kernel
theorem dX0_prepare_112 : decode cX0_prepare 112 = .ok (.goto (-34), 3) := by decide +kernel
theorem dX0_prepare_115 : decode cX0_prepare 115 = .ok (.return_, 1) := by decide +kernel
def lX0_prepare_0 : List (Nat × (Op ⊕ Nat)) := [(0, .inl (o_aload 0 1)), (1, .inl (o_get 0 5 4)), (4, .inl (o_iload 1 5)), (5, .inl (o_pushI (nI 0) 6)), (6, .inl (o_iast 7)), (7, .inl (o_pushI (nI 0) 8)), (8, .inl (o_istore 2 9)), (9, .inl (o_iload 2 10)), (10, .inl (o_aload 0 11)), (11, .inl (o_get 0 3 14)), (14, .inl (o_icmp_ge 61 17)), (17, .inl (o_aload 0 18)), (18, .inl (o_get 0 6 21)), (21, .inl (o_iload 1 22)), (22, .inl (o_pushI (nI 5) 23)), (23, .inl (o_imul 24)), (24, .inl (o_iload 2 25)), (25, .inl (o_iadd 26)), (26, .inl (o_aload 0 27)), (27, .inl (o_get 0 0 30)), (30, .inl (o_iload 1 31)), (31, .inl (o_aload 0 32)), (32, .inl (o_get 0 2 35)), (35, .inl (o_iload 2 36)), (36, .inl (o_iadd 37)), (37, .inl (o_aload 0 38)), (38, .inl (o_get 0 0 41)), (41, .inl (o_iload 1 42)), (42, .inl (o_aload 0 43)), (43, .inl (o_get 0 2 46)), (46, .inl (o_iload 2 47)), (47, .inl (o_iadd 48)), (48, .inl (o_callV fX1_fullThrows 2 1 51)), (51, .inl (o_callV fX1_valueOf 3 1 54)), (54, .inl (o_iast 55)), (55, .inl (o_iinc 2 (nI 1) 58)), (58, .inl (o_goto 9)), (61, .inl (o_aload 0 62)), (62, .inl (o_get 0 4 65)), (65, .inl (o_iload 1 66))]
def lX0_prepare_1 : List (Nat × (Op ⊕ Nat)) := [(66, .inl (o_pushI (nI 1) 67)), (67, .inl (o_iast 68)), (68, .inl (o_aload 0 69)), (69, .inl (o_get 0 1 72)), (72, .inl (o_iload 1 73)), (73, .inl (o_callV fX3_open 1 3 76)), (76, .inl (o_pushI (nI 1) 77)), (77, .inl (o_istore 2 78)), (78, .inl (o_iload 2 79)), (79, .inl (o_pushI (nI 1) 80)), (80, .inl (o_aload 0 81)), (81, .inl (o_get 0 3 84)), (84, .inl (o_ishl 85)), (85, .inl (o_icmp_ge 115 88)), (88, .inl (o_aload 0 89)), (89, .inl (o_iload 1 90)), (90, .inl (o_iload 2 91)), (91, .inl (o_callV fX0_fitsTogether 2 0 94)), (94, .inl (o_if_eq 109 97)), (97, .inl (o_aload 0 98)), (98, .inl (o_get 0 4 101)), (101, .inl (o_iload 1 102)), (102, .inl (o_dup2 103)), (103, .inl (o_iald 104)), (104, .inl (o_pushI (nI 1) 105)), (105, .inl (o_iload 2 106)), (106, .inl (o_ishl 107)), (107, .inl (o_ior 108)), (108, .inl (o_iast 109)), (109, .inl (o_iinc 2 (nI 1) 112)), (112, .inl (o_goto 78)), (115, .inr 3)]
def lX0_prepare : List (Nat × (Op ⊕ Nat)) := lX0_prepare_0 ++ (lX0_prepare_1)
theorem qX0_prepare : yX0_prepare.cls = RX0 ∧ yX0_prepare.cls ≠ "java/lang/invoke/MethodHandle" ∧ yX0_prepare.cls ≠ "java/lang/invoke/VarHandle" ∧ (parseMethodDescriptor yX0_prepare.desc).map (fun d => d.parameters.length) = some 1 := by decide +kernel
set_option maxRecDepth 10000 in
theorem hX0_prepare_0 (l : Launch) {p : Program} {e : Env} {s : State} {m : MethodId} {args : Array Value} {below : List Frame} {meth : Method} {c : Code} {D : va_G} {ad adV : Nat → Nat} {cA : Nat → ClassId} {K : Kt} (C0 : Cx p s m args meth c D ad adV cA cX0_prepare 3 RX0) (hr : meth.sig.returnType = none) : ∀ q ∈ lX0_prepare_0, Sd p l e (rmd 5) s m args below meth c (MQ below (QQ D ad cA K) args s 0 0 (AA ad)) D ad cA 3 q.1 (opOf K q.2) := List.forall_mem_cons.mpr ⟨s_aload_n C0 dX0_prepare_0 rfl, List.forall_mem_cons.mpr ⟨s_get (ci := 0) (k := 5) C0 dX0_prepare_1 inX0 rfl (by decide) tw1_231, List.forall_mem_cons.mpr ⟨s_iload_n C0 dX0_prepare_4 rfl, List.forall_mem_cons.mpr ⟨s_iconst C0 dX0_prepare_5 rfl, List.forall_mem_cons.mpr ⟨s_iast C0 dX0_prepare_6, List.forall_mem_cons.mpr ⟨s_iconst C0 dX0_prepare_7 rfl, List.forall_mem_cons.mpr ⟨s_istore_n C0 dX0_prepare_8 rfl (by decide), List.forall_mem_cons.mpr ⟨s_iload_n C0 dX0_prepare_9 rfl, List.forall_mem_cons.mpr ⟨s_aload_n C0 dX0_prepare_10 rfl, List.forall_mem_cons.mpr ⟨s_get (ci := 0) (k := 3) C0 dX0_prepare_11 inX0 rfl (by decide) tw1_229, List.forall_mem_cons.mpr ⟨s_icmp_ge C0 dX0_prepare_14 rfl, List.forall_mem_cons.mpr ⟨s_aload_n C0 dX0_prepare_17 rfl, List.forall_mem_cons.mpr ⟨s_get (ci := 0) (k := 6) C0 dX0_prepare_18 inX0 rfl (by decide) tw1_232, List.forall_mem_cons.mpr ⟨s_iload_n C0 dX0_prepare_21 rfl, List.forall_mem_cons.mpr ⟨s_iconst C0 dX0_prepare_22 rfl, List.forall_mem_cons.mpr ⟨s_imul C0 dX0_prepare_23, List.forall_mem_cons.mpr ⟨s_iload_n C0 dX0_prepare_24 rfl, List.forall_mem_cons.mpr ⟨s_iadd C0 dX0_prepare_25, List.forall_mem_cons.mpr ⟨s_aload_n C0 dX0_prepare_26 rfl, List.forall_mem_cons.mpr ⟨s_get (ci := 0) (k := 0) C0 dX0_prepare_27 inX0 rfl (by decide) tw1_226, List.forall_mem_cons.mpr ⟨s_iload_n C0 dX0_prepare_30 rfl, List.forall_mem_cons.mpr ⟨s_aload_n C0 dX0_prepare_31 rfl, List.forall_mem_cons.mpr ⟨s_get (ci := 0) (k := 2) C0 dX0_prepare_32 inX0 rfl (by decide) tw1_228, List.forall_mem_cons.mpr ⟨s_iload_n C0 dX0_prepare_35 rfl, List.forall_mem_cons.mpr ⟨s_iadd C0 dX0_prepare_36, List.forall_mem_cons.mpr ⟨s_aload_n C0 dX0_prepare_37 rfl, List.forall_mem_cons.mpr ⟨s_get (ci := 0) (k := 0) C0 dX0_prepare_38 inX0 rfl (by decide) tw1_226, List.forall_mem_cons.mpr ⟨s_iload_n C0 dX0_prepare_41 rfl, List.forall_mem_cons.mpr ⟨s_aload_n C0 dX0_prepare_42 rfl, List.forall_mem_cons.mpr ⟨s_get (ci := 0) (k := 2) C0 dX0_prepare_43 inX0 rfl (by decide) tw1_228, List.forall_mem_cons.mpr ⟨s_iload_n C0 dX0_prepare_46 rfl, List.forall_mem_cons.mpr ⟨s_iadd C0 dX0_prepare_47, List.forall_mem_cons.mpr ⟨s_callV (ci := 1) C0 (kX1_fullThrows l) dX0_prepare_48 rfl qX1_fullThrows tw4_146 tw4_116 tw4_117 tw1_6 tw4_118 rfl (by decide) (by decide), List.forall_mem_cons.mpr ⟨s_callV (ci := 1) C0 (kX1_valueOf l) dX0_prepare_51 rfl qX1_valueOf tw4_147 tw3_202 tw3_203 tw1_6 tw3_204 rfl (by decide) (by decide), List.forall_mem_cons.mpr ⟨s_iast C0 dX0_prepare_54, List.forall_mem_cons.mpr ⟨s_iinc C0 dX0_prepare_55 rfl (by decide), List.forall_mem_cons.mpr ⟨s_goto C0 dX0_prepare_58 rfl, List.forall_mem_cons.mpr ⟨s_aload_n C0 dX0_prepare_61 rfl, List.forall_mem_cons.mpr ⟨s_get (ci := 0) (k := 4) C0 dX0_prepare_62 inX0 rfl (by decide) tw1_230, List.forall_mem_cons.mpr ⟨s_iload_n C0 dX0_prepare_65 rfl, fun _ h => absurd h List.not_mem_nil⟩⟩⟩⟩⟩⟩⟩⟩⟩⟩⟩⟩⟩⟩⟩⟩⟩⟩⟩⟩⟩⟩⟩⟩⟩⟩⟩⟩⟩⟩⟩⟩⟩⟩⟩⟩⟩⟩⟩⟩
set_option maxRecDepth 10000 in
theorem hX0_prepare_1 (l : Launch) {p : Program} {e : Env} {s : State} {m : MethodId} {args : Array Value} {below : List Frame} {meth : Method} {c : Code} {D : va_G} {ad adV : Nat → Nat} {cA : Nat → ClassId} {K : Kt} (C0 : Cx p s m args meth c D ad adV cA cX0_prepare 3 RX0) (hr : meth.sig.returnType = none) : ∀ q ∈ lX0_prepare_1, Sd p l e (rmd 5) s m args below meth c (MQ below (QQ D ad cA K) args s 0 0 (AA ad)) D ad cA 3 q.1 (opOf K q.2) := List.forall_mem_cons.mpr ⟨s_iconst C0 dX0_prepare_66 rfl, List.forall_mem_cons.mpr ⟨s_iast C0 dX0_prepare_67, List.forall_mem_cons.mpr ⟨s_aload_n C0 dX0_prepare_68 rfl, List.forall_mem_cons.mpr ⟨s_get (ci := 0) (k := 1) C0 dX0_prepare_69 inX0 rfl (by decide) tw1_227, List.forall_mem_cons.mpr ⟨s_iload_n C0 dX0_prepare_72 rfl, List.forall_mem_cons.mpr ⟨s_callV (ci := 3) C0 (kX3_open l) dX0_prepare_73 rfl qX3_open tw4_148 tw4_42 tw4_43 tw1_7 tw4_44 rfl (by decide) (by decide), List.forall_mem_cons.mpr ⟨s_iconst C0 dX0_prepare_76 rfl, List.forall_mem_cons.mpr ⟨s_istore_n C0 dX0_prepare_77 rfl (by decide), List.forall_mem_cons.mpr ⟨s_iload_n C0 dX0_prepare_78 rfl, List.forall_mem_cons.mpr ⟨s_iconst C0 dX0_prepare_79 rfl, List.forall_mem_cons.mpr ⟨s_aload_n C0 dX0_prepare_80 rfl, List.forall_mem_cons.mpr ⟨s_get (ci := 0) (k := 3) C0 dX0_prepare_81 inX0 rfl (by decide) tw1_229, List.forall_mem_cons.mpr ⟨s_ishl C0 dX0_prepare_84, List.forall_mem_cons.mpr ⟨s_icmp_ge C0 dX0_prepare_85 rfl, List.forall_mem_cons.mpr ⟨s_aload_n C0 dX0_prepare_88 rfl, List.forall_mem_cons.mpr ⟨s_iload_n C0 dX0_prepare_89 rfl, List.forall_mem_cons.mpr ⟨s_iload_n C0 dX0_prepare_90 rfl, List.forall_mem_cons.mpr ⟨s_callV (ci := 0) C0 (kX0_fitsTogether l) dX0_prepare_91 rfl qX0_fitsTogether tw4_149 tw4_151 twp_30 tw1_8 tw4_152 rfl (by decide) (by decide), List.forall_mem_cons.mpr ⟨s_if_eq C0 dX0_prepare_94 rfl, List.forall_mem_cons.mpr ⟨s_aload_n C0 dX0_prepare_97 rfl, List.forall_mem_cons.mpr ⟨s_get (ci := 0) (k := 4) C0 dX0_prepare_98 inX0 rfl (by decide) tw1_230, List.forall_mem_cons.mpr ⟨s_iload_n C0 dX0_prepare_101 rfl, List.forall_mem_cons.mpr ⟨s_dup2 C0 dX0_prepare_102, List.forall_mem_cons.mpr ⟨s_iald C0 dX0_prepare_103, List.forall_mem_cons.mpr ⟨s_iconst C0 dX0_prepare_104 rfl, List.forall_mem_cons.mpr ⟨s_iload_n C0 dX0_prepare_105 rfl, List.forall_mem_cons.mpr ⟨s_ishl C0 dX0_prepare_106, List.forall_mem_cons.mpr ⟨s_ior C0 dX0_prepare_107, List.forall_mem_cons.mpr ⟨s_iast C0 dX0_prepare_108, List.forall_mem_cons.mpr ⟨s_iinc C0 dX0_prepare_109 rfl (by decide), List.forall_mem_cons.mpr ⟨s_goto C0 dX0_prepare_112 rfl, List.forall_mem_cons.mpr ⟨s_vret C0 hr dX0_prepare_115, fun _ h => absurd h List.not_mem_nil⟩⟩⟩⟩⟩⟩⟩⟩⟩⟩⟩⟩⟩⟩⟩⟩⟩⟩⟩⟩⟩⟩⟩⟩⟩⟩⟩⟩⟩⟩⟩⟩
def fX0_prepare : Mf := mf 3 (fun K => tl K lX0_prepare)
theorem kX0_prepare (l : Launch) : Okm l yX0_prepare cX0_prepare 3 none 5 fX0_prepare := Okm_tl (own := RX0) (by decide +kernel) rfl (fun C0 hr => List.forall_mem_append.mpr ⟨hX0_prepare_0 l C0 hr, hX0_prepare_1 l C0 hr⟩)
theorem dX0_search_0 : decode cX0_search 0 = .ok (.iload_n 2, 1) := by decide +kernel
theorem dX0_search_1 : decode cX0_search 1 = .ok (.aload_n 0, 1) := by decide +kernel
theorem dX0_search_2 : decode cX0_search 2 = .ok (.getfield 28, 3) := by decide +kernel
theorem dX0_search_5 : decode cX0_search 5 = .ok (.iload_n 1, 1) := by decide +kernel
theorem dX0_search_6 : decode cX0_search 6 = .ok (.iaload, 1) := by decide +kernel
theorem dX0_search_7 : decode cX0_search 7 = .ok (.iadd, 1) := by decide +kernel
theorem dX0_search_8 : decode cX0_search 8 = .ok (.aload_n 0, 1) := by decide +kernel
theorem dX0_search_9 : decode cX0_search 9 = .ok (.getfield 37, 3) := by decide +kernel
theorem dX0_search_12 : decode cX0_search 12 = .ok (.if_icmp .gt 4, 3) := by decide +kernel
theorem dX0_search_15 : decode cX0_search 15 = .ok (.return_, 1) := by decide +kernel
theorem dX0_search_16 : decode cX0_search 16 = .ok (.iload_n 1, 1) := by decide +kernel
theorem dX0_search_17 : decode cX0_search 17 = .ok (.aload_n 0, 1) := by decide +kernel
theorem dX0_search_18 : decode cX0_search 18 = .ok (.getfield 15, 3) := by decide +kernel
theorem dX0_search_21 : decode cX0_search 21 = .ok (.if_icmp .lt 23, 3) := by decide +kernel
theorem dX0_search_24 : decode cX0_search 24 = .ok (.aload_n 0, 1) := by decide +kernel
theorem dX0_search_25 : decode cX0_search 25 = .ok (.iload_n 2, 1) := by decide +kernel
theorem dX0_search_26 : decode cX0_search 26 = .ok (.putfield 37, 3) := by decide +kernel
theorem dX0_search_29 : decode cX0_search 29 = .ok (.aload_n 0, 1) := by decide +kernel
theorem dX0_search_30 : decode cX0_search 30 = .ok (.getfield 31, 3) := by decide +kernel
theorem dX0_search_33 : decode cX0_search 33 = .ok (.iconst 0, 1) := by decide +kernel
theorem dX0_search_34 : decode cX0_search 34 = .ok (.aload_n 0, 1) := by decide +kernel
theorem dX0_search_35 : decode cX0_search 35 = .ok (.getfield 34, 3) := by decide +kernel
theorem dX0_search_38 : decode cX0_search 38 = .ok (.iconst 0, 1) := by decide +kernel
theorem dX0_search_39 : decode cX0_search 39 = .ok (.iconst 5, 1) := by decide +kernel
theorem dX0_search_40 : decode cX0_search 40 = .ok (.invokestatic 99, 3) := by decide +kernel
theorem dX0_search_43 : decode cX0_search 43 = .ok (.return_, 1) := by decide +kernel
theorem dX0_search_44 : decode cX0_search 44 = .ok (.iconst 0, 1) := by decide +kernel
theorem dX0_search_45 : decode cX0_search 45 = .ok (.istore_n 3, 1) := by decide +kernel
theorem dX0_search_46 : decode cX0_search 46 = .ok (.iload_n 3, 1) := by decide +kernel
theorem dX0_search_47 : decode cX0_search 47 = .ok (.aload_n 0, 1) := by decide +kernel
theorem dX0_search_48 : decode cX0_search 48 = .ok (.getfield 40, 3) := by decide +kernel
theorem dX0_search_51 : decode cX0_search 51 = .ok (.getfield 54, 3) := by decide +kernel
theorem dX0_search_54 : decode cX0_search 54 = .ok (.getfield 60, 3) := by decide +kernel
theorem dX0_search_57 : decode cX0_search 57 = .ok (.if_icmp .ge 77, 3) := by decide +kernel
theorem dX0_search_60 : decode cX0_search 60 = .ok (.aload_n 0, 1) := by decide +kernel
theorem dX0_search_61 : decode cX0_search 61 = .ok (.iload_n 3, 1) := by decide +kernel
theorem dX0_search_62 : decode cX0_search 62 = .ok (.aload_n 0, 1) := by decide +kernel
theorem dX0_search_63 : decode cX0_search 63 = .ok (.getfield 22, 3) := by decide +kernel
theorem dX0_search_66 : decode cX0_search 66 = .ok (.iload_n 3, 1) := by decide +kernel
theorem dX0_search_67 : decode cX0_search 67 = .ok (.iaload, 1) := by decide +kernel
theorem dX0_search_68 : decode cX0_search 68 = .ok (.iconst 1, 1) := by decide +kernel
theorem dX0_search_69 : decode cX0_search 69 = .ok (.iload_n 1, 1) := by decide +kernel
theorem dX0_search_70 : decode cX0_search 70 = .ok (.ishl, 1) := by decide +kernel
theorem dX0_search_71 : decode cX0_search 71 = .ok (.ior, 1) := by decide +kernel
theorem dX0_search_72 : decode cX0_search 72 = .ok (.invokevirtual 93, 3) := by decide +kernel
theorem dX0_search_75 : decode cX0_search 75 = .ok (.ifCond .eq 53, 3) := by decide +kernel
theorem dX0_search_78 : decode cX0_search 78 = .ok (.aload_n 0, 1) := by decide +kernel
theorem dX0_search_79 : decode cX0_search 79 = .ok (.getfield 22, 3) := by decide +kernel
theorem dX0_search_82 : decode cX0_search 82 = .ok (.iload_n 3, 1) := by decide +kernel
theorem dX0_search_83 : decode cX0_search 83 = .ok (.dup2, 1) := by decide +kernel
theorem dX0_search_84 : decode cX0_search 84 = .ok (.iaload, 1) := by decide +kernel
theorem dX0_search_85 : decode cX0_search 85 = .ok (.iconst 1, 1) := by decide +kernel
theorem dX0_search_86 : decode cX0_search 86 = .ok (.iload_n 1, 1) := by decide +kernel
theorem dX0_search_87 : decode cX0_search 87 = .ok (.ishl, 1) := by decide +kernel
theorem dX0_search_88 : decode cX0_search 88 = .ok (.ior, 1) := by decide +kernel
theorem dX0_search_89 : decode cX0_search 89 = .ok (.iastore, 1) := by decide +kernel
theorem dX0_search_90 : decode cX0_search 90 = .ok (.aload_n 0, 1) := by decide +kernel
theorem dX0_search_91 : decode cX0_search 91 = .ok (.getfield 31, 3) := by decide +kernel
theorem dX0_search_94 : decode cX0_search 94 = .ok (.iload_n 1, 1) := by decide +kernel
theorem dX0_search_95 : decode cX0_search 95 = .ok (.iload_n 3, 1) := by decide +kernel
theorem dX0_search_96 : decode cX0_search 96 = .ok (.iastore, 1) := by decide +kernel
theorem dX0_search_97 : decode cX0_search 97 = .ok (.aload_n 0, 1) := by decide +kernel
theorem dX0_search_98 : decode cX0_search 98 = .ok (.iload_n 1, 1) := by decide +kernel
theorem dX0_search_99 : decode cX0_search 99 = .ok (.iconst 1, 1) := by decide +kernel
theorem dX0_search_100 : decode cX0_search 100 = .ok (.iadd, 1) := by decide +kernel
theorem dX0_search_101 : decode cX0_search 101 = .ok (.iload_n 2, 1) := by decide +kernel
theorem dX0_search_102 : decode cX0_search 102 = .ok (.aload_n 0, 1) := by decide +kernel
theorem dX0_search_103 : decode cX0_search 103 = .ok (.getfield 25, 3) := by decide +kernel
theorem dX0_search_106 : decode cX0_search 106 = .ok (.iload_n 3, 1) := by decide +kernel
theorem dX0_search_107 : decode cX0_search 107 = .ok (.iconst 5, 1) := by decide +kernel
theorem dX0_search_108 : decode cX0_search 108 = .ok (.imul, 1) := by decide +kernel
theorem dX0_search_109 : decode cX0_search 109 = .ok (.iload_n 1, 1) := by decide +kernel
theorem dX0_search_110 : decode cX0_search 110 = .ok (.iadd, 1) := by decide +kernel
theorem dX0_search_111 : decode cX0_search 111 = .ok (.iaload, 1) := by decide +kernel
theorem dX0_search_112 : decode cX0_search 112 = .ok (.iadd, 1) := by decide +kernel
theorem dX0_search_113 : decode cX0_search 113 = .ok (.invokevirtual 70, 3) := by decide +kernel
theorem dX0_search_116 : decode cX0_search 116 = .ok (.aload_n 0, 1) := by decide +kernel
theorem dX0_search_117 : decode cX0_search 117 = .ok (.getfield 22, 3) := by decide +kernel
theorem dX0_search_120 : decode cX0_search 120 = .ok (.iload_n 3, 1) := by decide +kernel
theorem dX0_search_121 : decode cX0_search 121 = .ok (.dup2, 1) := by decide +kernel
theorem dX0_search_122 : decode cX0_search 122 = .ok (.iaload, 1) := by decide +kernel
theorem dX0_search_123 : decode cX0_search 123 = .ok (.iconst 1, 1) := by decide +kernel
theorem dX0_search_124 : decode cX0_search 124 = .ok (.iload_n 1, 1) := by decide +kernel
theorem dX0_search_125 : decode cX0_search 125 = .ok (.ishl, 1) := by decide +kernel
theorem dX0_search_126 : decode cX0_search 126 = .ok (.ixor, 1) := by decide +kernel
theorem dX0_search_127 : decode cX0_search 127 = .ok (.iastore, 1) := by decide +kernel
theorem dX0_search_128 : decode cX0_search 128 = .ok (.iinc 3 1, 3) := by decide +kernel
theorem dX0_search_131 : decode cX0_search 131 = .ok (.goto (-85), 3) := by decide +kernel
theorem dX0_search_134 : decode cX0_search 134 = .ok (.aload_n 0, 1) := by decide +kernel
theorem dX0_search_135 : decode cX0_search 135 = .ok (.getfield 31, 3) := by decide +kernel
theorem dX0_search_138 : decode cX0_search 138 = .ok (.iload_n 1, 1) := by decide +kernel
theorem dX0_search_139 : decode cX0_search 139 = .ok (.bipush (-2), 2) := by decide +kernel
theorem dX0_search_141 : decode cX0_search 141 = .ok (.iastore, 1) := by decide +kernel
theorem dX0_search_142 : decode cX0_search 142 = .ok (.aload_n 0, 1) := by decide +kernel
theorem dX0_search_143 : decode cX0_search 143 = .ok (.iload_n 1, 1) := by decide +kernel
theorem dX0_search_144 : decode cX0_search 144 = .ok (.iconst 1, 1) := by decide +kernel
theorem dX0_search_145 : decode cX0_search 145 = .ok (.iadd, 1) := by decide +kernel
theorem dX0_search_146 : decode cX0_search 146 = .ok (.iload_n 2, 1) := by decide +kernel
theorem dX0_search_147 : decode cX0_search 147 = .ok (.invokevirtual 70, 3) := by decide +kernel
theorem dX0_search_150 : decode cX0_search 150 = .ok (.return_, 1) := by decide +kernel
def lX0_search_0 (fs : Mf) : List (Nat × (Op ⊕ Nat)) := [(0, .inl (o_iload 2 1)), (1, .inl (o_aload 0 2)), (2, .inl (o_get 0 7 5)), (5, .inl (o_iload 1 6)), (6, .inl (o_iald 7)), (7, .inl (o_iadd 8)), (8, .inl (o_aload 0 9)), (9, .inl (o_get 0 10 12)), (12, .inl (o_icmp_gt 16 15)), (15, .inr 3), (16, .inl (o_iload 1 17)), (17, .inl (o_aload 0 18)), (18, .inl (o_get 0 3 21)), (21, .inl (o_icmp_lt 44 24)), (24, .inl (o_aload 0 25)), (25, .inl (o_iload 2 26)), (26, .inl (o_putI 0 10 29)), (29, .inl (o_aload 0 30)), (30, .inl (o_get 0 8 33)), (33, .inl (o_pushI (nI 0) 34)), (34, .inl (o_aload 0 35)), (35, .inl (o_get 0 9 38)), (38, .inl (o_pushI (nI 0) 39)), (39, .inl (o_pushI (nI 5) 40)), (40, .inl (o_copyI 43)), (43, .inr 3), (44, .inl (o_pushI (nI 0) 45)), (45, .inl (o_istore 3 46)), (46, .inl (o_iload 3 47)), (47, .inl (o_aload 0 48)), (48, .inl (o_get 0 0 51)), (51, .inl (o_get 1 0 54)), (54, .inl (o_get 9 0 57)), (57, .inl (o_icmp_ge 134 60)), (60, .inl (o_aload 0 61)), (61, .inl (o_iload 3 62)), (62, .inl (o_aload 0 63)), (63, .inl (o_get 0 5 66)), (66, .inl (o_iload 3 67)), (67, .inl (o_iald 68))]
def lX0_search_1 (fs : Mf) : List (Nat × (Op ⊕ Nat)) := [(68, .inl (o_pushI (nI 1) 69)), (69, .inl (o_iload 1 70)), (70, .inl (o_ishl 71)), (71, .inl (o_ior 72)), (72, .inl (o_callV fX0_mayHave 2 0 75)), (75, .inl (o_if_eq 128 78)), (78, .inl (o_aload 0 79)), (79, .inl (o_get 0 5 82)), (82, .inl (o_iload 3 83)), (83, .inl (o_dup2 84)), (84, .inl (o_iald 85)), (85, .inl (o_pushI (nI 1) 86)), (86, .inl (o_iload 1 87)), (87, .inl (o_ishl 88)), (88, .inl (o_ior 89)), (89, .inl (o_iast 90)), (90, .inl (o_aload 0 91)), (91, .inl (o_get 0 8 94)), (94, .inl (o_iload 1 95)), (95, .inl (o_iload 3 96)), (96, .inl (o_iast 97)), (97, .inl (o_aload 0 98)), (98, .inl (o_iload 1 99)), (99, .inl (o_pushI (nI 1) 100)), (100, .inl (o_iadd 101)), (101, .inl (o_iload 2 102)), (102, .inl (o_aload 0 103)), (103, .inl (o_get 0 6 106)), (106, .inl (o_iload 3 107)), (107, .inl (o_pushI (nI 5) 108)), (108, .inl (o_imul 109)), (109, .inl (o_iload 1 110)), (110, .inl (o_iadd 111)), (111, .inl (o_iald 112)), (112, .inl (o_iadd 113)), (113, .inl (o_callV fs 2 0 116)), (116, .inl (o_aload 0 117)), (117, .inl (o_get 0 5 120)), (120, .inl (o_iload 3 121)), (121, .inl (o_dup2 122))]
def lX0_search_2 (fs : Mf) : List (Nat × (Op ⊕ Nat)) := [(122, .inl (o_iald 123)), (123, .inl (o_pushI (nI 1) 124)), (124, .inl (o_iload 1 125)), (125, .inl (o_ishl 126)), (126, .inl (o_ixor 127)), (127, .inl (o_iast 128)), (128, .inl (o_iinc 3 (nI 1) 131)), (131, .inl (o_goto 46)), (134, .inl (o_aload 0 135)), (135, .inl (o_get 0 8 138)), (138, .inl (o_iload 1 139)), (139, .inl (o_pushI ((-2)) 141)), (141, .inl (o_iast 142)), (142, .inl (o_aload 0 143)), (143, .inl (o_iload 1 144)), (144, .inl (o_pushI (nI 1) 145)), (145, .inl (o_iadd 146)), (146, .inl (o_iload 2 147)), (147, .inl (o_callV fs 2 0 150)), (150, .inr 3)]
def lX0_search (fs : Mf) : List (Nat × (Op ⊕ Nat)) := lX0_search_0 fs ++ (lX0_search_1 fs ++ (lX0_search_2 fs))
theorem qX0_search : yX0_search.cls = RX0 ∧ yX0_search.cls ≠ "java/lang/invoke/MethodHandle" ∧ yX0_search.cls ≠ "java/lang/invoke/VarHandle" ∧ (parseMethodDescriptor yX0_search.desc).map (fun d => d.parameters.length) = some 2 := by decide +kernel
set_option maxRecDepth 10000 in
theorem hX0_search_0 (l : Launch) {p : Program} {e : Env} {s : State} {m : MethodId} {args : Array Value} {below : List Frame} {meth : Method} {c : Code} {D : va_G} {ad adV : Nat → Nat} {cA : Nat → ClassId} {K : Kt} {fs : Mf} {dd ds : Nat} (hs : Okm l yX0_search cX0_search 4 none ds fs) (hd : ds + 1 ≤ dd) (h1 : 1 ≤ dd) (C0 : Cx p s m args meth c D ad adV cA cX0_search 4 RX0) (hr : meth.sig.returnType = none) : ∀ q ∈ lX0_search_0 fs, Sd p l e (rmd dd) s m args below meth c (MQ below (QQ D ad cA K) args s 0 0 (AA ad)) D ad cA 4 q.1 (opOf K q.2) := List.forall_mem_cons.mpr ⟨s_iload_n C0 dX0_search_0 rfl, List.forall_mem_cons.mpr ⟨s_aload_n C0 dX0_search_1 rfl, List.forall_mem_cons.mpr ⟨s_get (ci := 0) (k := 7) C0 dX0_search_2 inX0 rfl (by decide) tw1_233, List.forall_mem_cons.mpr ⟨s_iload_n C0 dX0_search_5 rfl, List.forall_mem_cons.mpr ⟨s_iald C0 dX0_search_6, List.forall_mem_cons.mpr ⟨s_iadd C0 dX0_search_7, List.forall_mem_cons.mpr ⟨s_aload_n C0 dX0_search_8 rfl, List.forall_mem_cons.mpr ⟨s_get (ci := 0) (k := 10) C0 dX0_search_9 inX0 rfl (by decide) tw1_237, List.forall_mem_cons.mpr ⟨s_icmp_gt C0 dX0_search_12 rfl, List.forall_mem_cons.mpr ⟨s_vret C0 hr dX0_search_15, List.forall_mem_cons.mpr ⟨s_iload_n C0 dX0_search_16 rfl, List.forall_mem_cons.mpr ⟨s_aload_n C0 dX0_search_17 rfl, List.forall_mem_cons.mpr ⟨s_get (ci := 0) (k := 3) C0 dX0_search_18 inX0 rfl (by decide) tw1_229, List.forall_mem_cons.mpr ⟨s_icmp_lt C0 dX0_search_21 rfl, List.forall_mem_cons.mpr ⟨s_aload_n C0 dX0_search_24 rfl, List.forall_mem_cons.mpr ⟨s_iload_n C0 dX0_search_25 rfl, List.forall_mem_cons.mpr ⟨s_putI (ci := 0) (k := 10) C0 dX0_search_26 inX0 tyX0_ok nmX0 rfl (by decide) rfl rfl tw1_237, List.forall_mem_cons.mpr ⟨s_aload_n C0 dX0_search_29 rfl, List.forall_mem_cons.mpr ⟨s_get (ci := 0) (k := 8) C0 dX0_search_30 inX0 rfl (by decide) tw1_234, List.forall_mem_cons.mpr ⟨s_iconst C0 dX0_search_33 rfl, List.forall_mem_cons.mpr ⟨s_aload_n C0 dX0_search_34 rfl, List.forall_mem_cons.mpr ⟨s_get (ci := 0) (k := 9) C0 dX0_search_35 inX0 rfl (by decide) tw1_235, List.forall_mem_cons.mpr ⟨s_iconst C0 dX0_search_38 rfl, List.forall_mem_cons.mpr ⟨s_iconst C0 dX0_search_39 rfl, List.forall_mem_cons.mpr ⟨s_copyI C0 dX0_search_40 tw4_167 tw2_189 tw2_188 tw1_13 rfl h1, List.forall_mem_cons.mpr ⟨s_vret C0 hr dX0_search_43, List.forall_mem_cons.mpr ⟨s_iconst C0 dX0_search_44 rfl, List.forall_mem_cons.mpr ⟨s_istore_n C0 dX0_search_45 rfl (by decide), List.forall_mem_cons.mpr ⟨s_iload_n C0 dX0_search_46 rfl, List.forall_mem_cons.mpr ⟨s_aload_n C0 dX0_search_47 rfl, List.forall_mem_cons.mpr ⟨s_get (ci := 0) (k := 0) C0 dX0_search_48 inX0 rfl (by decide) tw1_226, List.forall_mem_cons.mpr ⟨s_get (ci := 1) (k := 0) C0 dX0_search_51 inX1 rfl (by decide) tw1_191, List.forall_mem_cons.mpr ⟨s_get (ci := 9) (k := 0) C0 dX0_search_54 inX9 rfl (by decide) tw1_81, List.forall_mem_cons.mpr ⟨s_icmp_ge C0 dX0_search_57 rfl, List.forall_mem_cons.mpr ⟨s_aload_n C0 dX0_search_60 rfl, List.forall_mem_cons.mpr ⟨s_iload_n C0 dX0_search_61 rfl, List.forall_mem_cons.mpr ⟨s_aload_n C0 dX0_search_62 rfl, List.forall_mem_cons.mpr ⟨s_get (ci := 0) (k := 5) C0 dX0_search_63 inX0 rfl (by decide) tw1_231, List.forall_mem_cons.mpr ⟨s_iload_n C0 dX0_search_66 rfl, List.forall_mem_cons.mpr ⟨s_iald C0 dX0_search_67, fun _ h => absurd h List.not_mem_nil⟩⟩⟩⟩⟩⟩⟩⟩⟩⟩⟩⟩⟩⟩⟩⟩⟩⟩⟩⟩⟩⟩⟩⟩⟩⟩⟩⟩⟩⟩⟩⟩⟩⟩⟩⟩⟩⟩⟩⟩
set_option maxRecDepth 10000 in
theorem hX0_search_1 (l : Launch) {p : Program} {e : Env} {s : State} {m : MethodId} {args : Array Value} {below : List Frame} {meth : Method} {c : Code} {D : va_G} {ad adV : Nat → Nat} {cA : Nat → ClassId} {K : Kt} {fs : Mf} {dd ds : Nat} (hs : Okm l yX0_search cX0_search 4 none ds fs) (hd : ds + 1 ≤ dd) (h1 : 1 ≤ dd) (C0 : Cx p s m args meth c D ad adV cA cX0_search 4 RX0) (hr : meth.sig.returnType = none) : ∀ q ∈ lX0_search_1 fs, Sd p l e (rmd dd) s m args below meth c (MQ below (QQ D ad cA K) args s 0 0 (AA ad)) D ad cA 4 q.1 (opOf K q.2) := List.forall_mem_cons.mpr ⟨s_iconst C0 dX0_search_68 rfl, List.forall_mem_cons.mpr ⟨s_iload_n C0 dX0_search_69 rfl, List.forall_mem_cons.mpr ⟨s_ishl C0 dX0_search_70, List.forall_mem_cons.mpr ⟨s_ior C0 dX0_search_71, List.forall_mem_cons.mpr ⟨s_callV (ci := 0) C0 (kX0_mayHave l) dX0_search_72 rfl qX0_mayHave tw4_157 tw4_159 twp_31 tw1_8 tw4_160 rfl h1 (by decide), List.forall_mem_cons.mpr ⟨s_if_eq C0 dX0_search_75 rfl, List.forall_mem_cons.mpr ⟨s_aload_n C0 dX0_search_78 rfl, List.forall_mem_cons.mpr ⟨s_get (ci := 0) (k := 5) C0 dX0_search_79 inX0 rfl (by decide) tw1_231, List.forall_mem_cons.mpr ⟨s_iload_n C0 dX0_search_82 rfl, List.forall_mem_cons.mpr ⟨s_dup2 C0 dX0_search_83, List.forall_mem_cons.mpr ⟨s_iald C0 dX0_search_84, List.forall_mem_cons.mpr ⟨s_iconst C0 dX0_search_85 rfl, List.forall_mem_cons.mpr ⟨s_iload_n C0 dX0_search_86 rfl, List.forall_mem_cons.mpr ⟨s_ishl C0 dX0_search_87, List.forall_mem_cons.mpr ⟨s_ior C0 dX0_search_88, List.forall_mem_cons.mpr ⟨s_iast C0 dX0_search_89, List.forall_mem_cons.mpr ⟨s_aload_n C0 dX0_search_90 rfl, List.forall_mem_cons.mpr ⟨s_get (ci := 0) (k := 8) C0 dX0_search_91 inX0 rfl (by decide) tw1_234, List.forall_mem_cons.mpr ⟨s_iload_n C0 dX0_search_94 rfl, List.forall_mem_cons.mpr ⟨s_iload_n C0 dX0_search_95 rfl, List.forall_mem_cons.mpr ⟨s_iast C0 dX0_search_96, List.forall_mem_cons.mpr ⟨s_aload_n C0 dX0_search_97 rfl, List.forall_mem_cons.mpr ⟨s_iload_n C0 dX0_search_98 rfl, List.forall_mem_cons.mpr ⟨s_iconst C0 dX0_search_99 rfl, List.forall_mem_cons.mpr ⟨s_iadd C0 dX0_search_100, List.forall_mem_cons.mpr ⟨s_iload_n C0 dX0_search_101 rfl, List.forall_mem_cons.mpr ⟨s_aload_n C0 dX0_search_102 rfl, List.forall_mem_cons.mpr ⟨s_get (ci := 0) (k := 6) C0 dX0_search_103 inX0 rfl (by decide) tw1_232, List.forall_mem_cons.mpr ⟨s_iload_n C0 dX0_search_106 rfl, List.forall_mem_cons.mpr ⟨s_iconst C0 dX0_search_107 rfl, List.forall_mem_cons.mpr ⟨s_imul C0 dX0_search_108, List.forall_mem_cons.mpr ⟨s_iload_n C0 dX0_search_109 rfl, List.forall_mem_cons.mpr ⟨s_iadd C0 dX0_search_110, List.forall_mem_cons.mpr ⟨s_iald C0 dX0_search_111, List.forall_mem_cons.mpr ⟨s_iadd C0 dX0_search_112, List.forall_mem_cons.mpr ⟨s_callV (ci := 0) C0 hs dX0_search_113 rfl qX0_search tw4_163 tw4_165 twp_32 tw1_8 tw4_166 rfl hd (by decide), List.forall_mem_cons.mpr ⟨s_aload_n C0 dX0_search_116 rfl, List.forall_mem_cons.mpr ⟨s_get (ci := 0) (k := 5) C0 dX0_search_117 inX0 rfl (by decide) tw1_231, List.forall_mem_cons.mpr ⟨s_iload_n C0 dX0_search_120 rfl, List.forall_mem_cons.mpr ⟨s_dup2 C0 dX0_search_121, fun _ h => absurd h List.not_mem_nil⟩⟩⟩⟩⟩⟩⟩⟩⟩⟩⟩⟩⟩⟩⟩⟩⟩⟩⟩⟩⟩⟩⟩⟩⟩⟩⟩⟩⟩⟩⟩⟩⟩⟩⟩⟩⟩⟩⟩⟩
set_option maxRecDepth 10000 in
theorem hX0_search_2 (l : Launch) {p : Program} {e : Env} {s : State} {m : MethodId} {args : Array Value} {below : List Frame} {meth : Method} {c : Code} {D : va_G} {ad adV : Nat → Nat} {cA : Nat → ClassId} {K : Kt} {fs : Mf} {dd ds : Nat} (hs : Okm l yX0_search cX0_search 4 none ds fs) (hd : ds + 1 ≤ dd) (h1 : 1 ≤ dd) (C0 : Cx p s m args meth c D ad adV cA cX0_search 4 RX0) (hr : meth.sig.returnType = none) : ∀ q ∈ lX0_search_2 fs, Sd p l e (rmd dd) s m args below meth c (MQ below (QQ D ad cA K) args s 0 0 (AA ad)) D ad cA 4 q.1 (opOf K q.2) := List.forall_mem_cons.mpr ⟨s_iald C0 dX0_search_122, List.forall_mem_cons.mpr ⟨s_iconst C0 dX0_search_123 rfl, List.forall_mem_cons.mpr ⟨s_iload_n C0 dX0_search_124 rfl, List.forall_mem_cons.mpr ⟨s_ishl C0 dX0_search_125, List.forall_mem_cons.mpr ⟨s_ixor C0 dX0_search_126, List.forall_mem_cons.mpr ⟨s_iast C0 dX0_search_127, List.forall_mem_cons.mpr ⟨s_iinc C0 dX0_search_128 rfl (by decide), List.forall_mem_cons.mpr ⟨s_goto C0 dX0_search_131 rfl, List.forall_mem_cons.mpr ⟨s_aload_n C0 dX0_search_134 rfl, List.forall_mem_cons.mpr ⟨s_get (ci := 0) (k := 8) C0 dX0_search_135 inX0 rfl (by decide) tw1_234, List.forall_mem_cons.mpr ⟨s_iload_n C0 dX0_search_138 rfl, List.forall_mem_cons.mpr ⟨s_bipush C0 dX0_search_139 (by decide +kernel), List.forall_mem_cons.mpr ⟨s_iast C0 dX0_search_141, List.forall_mem_cons.mpr ⟨s_aload_n C0 dX0_search_142 rfl, List.forall_mem_cons.mpr ⟨s_iload_n C0 dX0_search_143 rfl, List.forall_mem_cons.mpr ⟨s_iconst C0 dX0_search_144 rfl, List.forall_mem_cons.mpr ⟨s_iadd C0 dX0_search_145, List.forall_mem_cons.mpr ⟨s_iload_n C0 dX0_search_146 rfl, List.forall_mem_cons.mpr ⟨s_callV (ci := 0) C0 hs dX0_search_147 rfl qX0_search tw4_163 tw4_165 twp_32 tw1_8 tw4_166 rfl hd (by decide), List.forall_mem_cons.mpr ⟨s_vret C0 hr dX0_search_150, fun _ h => absurd h List.not_mem_nil⟩⟩⟩⟩⟩⟩⟩⟩⟩⟩⟩⟩⟩⟩⟩⟩⟩⟩⟩⟩
def fX0_search : Nat → Mf
  | 0 => fun _ _ _ => False
  | n + 1 => mf 4 (fun K => tl K (lX0_search (fX0_search n)))
theorem kX0_search (l : Launch) : ∀ n : Nat, Okm l yX0_search cX0_search 4 none (n + 1) (fX0_search n)
  | 0 => fun _ _ _ _ _ _ _ h => False.elim h
  | n + 1 => Okm_tl (own := RX0) (by decide +kernel) rfl (fun C0 hr => (fun hs hd h1 => List.forall_mem_append.mpr ⟨hX0_search_0 l hs hd h1 C0 hr, List.forall_mem_append.mpr ⟨hX0_search_1 l hs hd h1 C0 hr, hX0_search_2 l hs hd h1 C0 hr⟩⟩) (kX0_search l n) (Nat.le_refl _) (Nat.succ_le_succ (Nat.zero_le _)))
theorem dX0_find_0 : decode cX0_find 0 = .ok (.aload_n 0, 1) := by decide +kernel
theorem dX0_find_1 : decode cX0_find 1 = .ok (.iload_n 1, 1) := by decide +kernel
theorem dX0_find_2 : decode cX0_find 2 = .ok (.putfield 9, 3) := by decide +kernel
theorem dX0_find_5 : decode cX0_find 5 = .ok (.aload_n 0, 1) := by decide +kernel
theorem dX0_find_6 : decode cX0_find 6 = .ok (.iload_n 2, 1) := by decide +kernel
theorem dX0_find_7 : decode cX0_find 7 = .ok (.iconst 5, 1) := by decide +kernel
theorem dX0_find_8 : decode cX0_find 8 = .ok (.invokestatic 48, 3) := by decide +kernel
theorem dX0_find_11 : decode cX0_find 11 = .ok (.putfield 15, 3) := by decide +kernel
theorem dX0_find_14 : decode cX0_find 14 = .ok (.iconst 0, 1) := by decide +kernel
theorem dX0_find_15 : decode cX0_find 15 = .ok (.istore_n 3, 1) := by decide +kernel
theorem dX0_find_16 : decode cX0_find 16 = .ok (.iload_n 3, 1) := by decide +kernel
theorem dX0_find_17 : decode cX0_find 17 = .ok (.aload_n 0, 1) := by decide +kernel
theorem dX0_find_18 : decode cX0_find 18 = .ok (.getfield 40, 3) := by decide +kernel
theorem dX0_find_21 : decode cX0_find 21 = .ok (.getfield 54, 3) := by decide +kernel
theorem dX0_find_24 : decode cX0_find 24 = .ok (.getfield 60, 3) := by decide +kernel
theorem dX0_find_27 : decode cX0_find 27 = .ok (.if_icmp .ge 14, 3) := by decide +kernel
theorem dX0_find_30 : decode cX0_find 30 = .ok (.aload_n 0, 1) := by decide +kernel
theorem dX0_find_31 : decode cX0_find 31 = .ok (.iload_n 3, 1) := by decide +kernel
theorem dX0_find_32 : decode cX0_find 32 = .ok (.invokevirtual 65, 3) := by decide +kernel
theorem dX0_find_35 : decode cX0_find 35 = .ok (.iinc 3 1, 3) := by decide +kernel
theorem dX0_find_38 : decode cX0_find 38 = .ok (.goto (-22), 3) := by decide +kernel
theorem dX0_find_41 : decode cX0_find 41 = .ok (.aload_n 0, 1) := by decide +kernel
theorem dX0_find_42 : decode cX0_find 42 = .ok (.getfield 28, 3) := by decide +kernel
theorem dX0_find_45 : decode cX0_find 45 = .ok (.aload_n 0, 1) := by decide +kernel
theorem dX0_find_46 : decode cX0_find 46 = .ok (.getfield 15, 3) := by decide +kernel
theorem dX0_find_49 : decode cX0_find 49 = .ok (.iconst 0, 1) := by decide +kernel
theorem dX0_find_50 : decode cX0_find 50 = .ok (.iastore, 1) := by decide +kernel
theorem dX0_find_51 : decode cX0_find 51 = .ok (.aload_n 0, 1) := by decide +kernel
theorem dX0_find_52 : decode cX0_find 52 = .ok (.getfield 15, 3) := by decide +kernel
theorem dX0_find_55 : decode cX0_find 55 = .ok (.iconst 1, 1) := by decide +kernel
theorem dX0_find_56 : decode cX0_find 56 = .ok (.isub, 1) := by decide +kernel
theorem dX0_find_57 : decode cX0_find 57 = .ok (.istore_n 3, 1) := by decide +kernel
theorem dX0_find_58 : decode cX0_find 58 = .ok (.iload_n 3, 1) := by decide +kernel
theorem dX0_find_59 : decode cX0_find 59 = .ok (.ifCond .lt 38, 3) := by decide +kernel
theorem dX0_find_62 : decode cX0_find 62 = .ok (.aload_n 0, 1) := by decide +kernel
theorem dX0_find_63 : decode cX0_find 63 = .ok (.getfield 28, 3) := by decide +kernel
theorem dX0_find_66 : decode cX0_find 66 = .ok (.iload_n 3, 1) := by decide +kernel
theorem dX0_find_67 : decode cX0_find 67 = .ok (.ldc 69, 2) := by decide +kernel
theorem dX0_find_69 : decode cX0_find 69 = .ok (.iastore, 1) := by decide +kernel
theorem dX0_find_70 : decode cX0_find 70 = .ok (.aload_n 0, 1) := by decide +kernel
theorem dX0_find_71 : decode cX0_find 71 = .ok (.iconst (-1), 1) := by decide +kernel
theorem dX0_find_72 : decode cX0_find 72 = .ok (.putfield 37, 3) := by decide +kernel
theorem dX0_find_75 : decode cX0_find 75 = .ok (.aload_n 0, 1) := by decide +kernel
theorem dX0_find_76 : decode cX0_find 76 = .ok (.iload_n 3, 1) := by decide +kernel
theorem dX0_find_77 : decode cX0_find 77 = .ok (.iconst 0, 1) := by decide +kernel
theorem dX0_find_78 : decode cX0_find 78 = .ok (.invokevirtual 70, 3) := by decide +kernel
theorem dX0_find_81 : decode cX0_find 81 = .ok (.aload_n 0, 1) := by decide +kernel
theorem dX0_find_82 : decode cX0_find 82 = .ok (.getfield 28, 3) := by decide +kernel
theorem dX0_find_85 : decode cX0_find 85 = .ok (.iload_n 3, 1) := by decide +kernel
theorem dX0_find_86 : decode cX0_find 86 = .ok (.aload_n 0, 1) := by decide +kernel
theorem dX0_find_87 : decode cX0_find 87 = .ok (.getfield 37, 3) := by decide +kernel
theorem dX0_find_90 : decode cX0_find 90 = .ok (.iastore, 1) := by decide +kernel
theorem dX0_find_91 : decode cX0_find 91 = .ok (.iinc 3 (-1), 3) := by decide +kernel
theorem dX0_find_94 : decode cX0_find 94 = .ok (.goto (-36), 3) := by decide +kernel
theorem dX0_find_97 : decode cX0_find 97 = .ok (.return_, 1) := by decide +kernel
def lX0_find_0 : List (Nat × (Op ⊕ Nat)) := [(0, .inl (o_aload 0 1)), (1, .inl (o_iload 1 2)), (2, .inl (o_putI 0 2 5)), (5, .inl (o_aload 0 6)), (6, .inl (o_iload 2 7)), (7, .inl (o_pushI (nI 5) 8)), (8, .inl (o_min 11)), (11, .inl (o_putI 0 3 14)), (14, .inl (o_pushI (nI 0) 15)), (15, .inl (o_istore 3 16)), (16, .inl (o_iload 3 17)), (17, .inl (o_aload 0 18)), (18, .inl (o_get 0 0 21)), (21, .inl (o_get 1 0 24)), (24, .inl (o_get 9 0 27)), (27, .inl (o_icmp_ge 41 30)), (30, .inl (o_aload 0 31)), (31, .inl (o_iload 3 32)), (32, .inl (o_callV fX0_prepare 1 0 35)), (35, .inl (o_iinc 3 (nI 1) 38)), (38, .inl (o_goto 16)), (41, .inl (o_aload 0 42)), (42, .inl (o_get 0 7 45)), (45, .inl (o_aload 0 46)), (46, .inl (o_get 0 3 49)), (49, .inl (o_pushI (nI 0) 50)), (50, .inl (o_iast 51)), (51, .inl (o_aload 0 52)), (52, .inl (o_get 0 3 55)), (55, .inl (o_pushI (nI 1) 56)), (56, .inl (o_isub 57)), (57, .inl (o_istore 3 58)), (58, .inl (o_iload 3 59)), (59, .inl (o_if_lt 97 62)), (62, .inl (o_aload 0 63)), (63, .inl (o_get 0 7 66)), (66, .inl (o_iload 3 67)), (67, .inl (o_pushI (nI 100000000) 69)), (69, .inl (o_iast 70)), (70, .inl (o_aload 0 71))]
def lX0_find_1 : List (Nat × (Op ⊕ Nat)) := [(71, .inl (o_pushI ((-1)) 72)), (72, .inl (o_putI 0 10 75)), (75, .inl (o_aload 0 76)), (76, .inl (o_iload 3 77)), (77, .inl (o_pushI (nI 0) 78)), (78, .inl (o_callV (fX0_search 8) 2 0 81)), (81, .inl (o_aload 0 82)), (82, .inl (o_get 0 7 85)), (85, .inl (o_iload 3 86)), (86, .inl (o_aload 0 87)), (87, .inl (o_get 0 10 90)), (90, .inl (o_iast 91)), (91, .inl (o_iinc 3 ((-1)) 94)), (94, .inl (o_goto 58)), (97, .inr 3)]
def lX0_find : List (Nat × (Op ⊕ Nat)) := lX0_find_0 ++ (lX0_find_1)
theorem qX0_find : yX0_find.cls = RX0 ∧ yX0_find.cls ≠ "java/lang/invoke/MethodHandle" ∧ yX0_find.cls ≠ "java/lang/invoke/VarHandle" ∧ (parseMethodDescriptor yX0_find.desc).map (fun d => d.parameters.length) = some 2 := by decide +kernel
set_option maxRecDepth 10000 in
theorem hX0_find_0 (l : Launch) {p : Program} {e : Env} {s : State} {m : MethodId} {args : Array Value} {below : List Frame} {meth : Method} {c : Code} {D : va_G} {ad adV : Nat → Nat} {cA : Nat → ClassId} {K : Kt} (C0 : Cx p s m args meth c D ad adV cA cX0_find 4 RX0) (hr : meth.sig.returnType = none) : ∀ q ∈ lX0_find_0, Sd p l e (rmd 11) s m args below meth c (MQ below (QQ D ad cA K) args s 0 0 (AA ad)) D ad cA 4 q.1 (opOf K q.2) := List.forall_mem_cons.mpr ⟨s_aload_n C0 dX0_find_0 rfl, List.forall_mem_cons.mpr ⟨s_iload_n C0 dX0_find_1 rfl, List.forall_mem_cons.mpr ⟨s_putI (ci := 0) (k := 2) C0 dX0_find_2 inX0 tyX0_ok nmX0 rfl (by decide) rfl rfl tw1_228, List.forall_mem_cons.mpr ⟨s_aload_n C0 dX0_find_5 rfl, List.forall_mem_cons.mpr ⟨s_iload_n C0 dX0_find_6 rfl, List.forall_mem_cons.mpr ⟨s_iconst C0 dX0_find_7 rfl, List.forall_mem_cons.mpr ⟨s_min C0 dX0_find_8 tw4_141 tw2_195 tw1_14 twm_min rfl (by decide), List.forall_mem_cons.mpr ⟨s_putI (ci := 0) (k := 3) C0 dX0_find_11 inX0 tyX0_ok nmX0 rfl (by decide) rfl rfl tw1_229, List.forall_mem_cons.mpr ⟨s_iconst C0 dX0_find_14 rfl, List.forall_mem_cons.mpr ⟨s_istore_n C0 dX0_find_15 rfl (by decide), List.forall_mem_cons.mpr ⟨s_iload_n C0 dX0_find_16 rfl, List.forall_mem_cons.mpr ⟨s_aload_n C0 dX0_find_17 rfl, List.forall_mem_cons.mpr ⟨s_get (ci := 0) (k := 0) C0 dX0_find_18 inX0 rfl (by decide) tw1_226, List.forall_mem_cons.mpr ⟨s_get (ci := 1) (k := 0) C0 dX0_find_21 inX1 rfl (by decide) tw1_191, List.forall_mem_cons.mpr ⟨s_get (ci := 9) (k := 0) C0 dX0_find_24 inX9 rfl (by decide) tw1_81, List.forall_mem_cons.mpr ⟨s_icmp_ge C0 dX0_find_27 rfl, List.forall_mem_cons.mpr ⟨s_aload_n C0 dX0_find_30 rfl, List.forall_mem_cons.mpr ⟨s_iload_n C0 dX0_find_31 rfl, List.forall_mem_cons.mpr ⟨s_callV (ci := 0) C0 (kX0_prepare l) dX0_find_32 rfl qX0_prepare tw4_142 tw4_144 twp_29 tw1_8 tw4_145 rfl (by decide) (by decide), List.forall_mem_cons.mpr ⟨s_iinc C0 dX0_find_35 rfl (by decide), List.forall_mem_cons.mpr ⟨s_goto C0 dX0_find_38 rfl, List.forall_mem_cons.mpr ⟨s_aload_n C0 dX0_find_41 rfl, List.forall_mem_cons.mpr ⟨s_get (ci := 0) (k := 7) C0 dX0_find_42 inX0 rfl (by decide) tw1_233, List.forall_mem_cons.mpr ⟨s_aload_n C0 dX0_find_45 rfl, List.forall_mem_cons.mpr ⟨s_get (ci := 0) (k := 3) C0 dX0_find_46 inX0 rfl (by decide) tw1_229, List.forall_mem_cons.mpr ⟨s_iconst C0 dX0_find_49 rfl, List.forall_mem_cons.mpr ⟨s_iast C0 dX0_find_50, List.forall_mem_cons.mpr ⟨s_aload_n C0 dX0_find_51 rfl, List.forall_mem_cons.mpr ⟨s_get (ci := 0) (k := 3) C0 dX0_find_52 inX0 rfl (by decide) tw1_229, List.forall_mem_cons.mpr ⟨s_iconst C0 dX0_find_55 rfl, List.forall_mem_cons.mpr ⟨s_isub C0 dX0_find_56, List.forall_mem_cons.mpr ⟨s_istore_n C0 dX0_find_57 rfl (by decide), List.forall_mem_cons.mpr ⟨s_iload_n C0 dX0_find_58 rfl, List.forall_mem_cons.mpr ⟨s_if_lt C0 dX0_find_59 rfl, List.forall_mem_cons.mpr ⟨s_aload_n C0 dX0_find_62 rfl, List.forall_mem_cons.mpr ⟨s_get (ci := 0) (k := 7) C0 dX0_find_63 inX0 rfl (by decide) tw1_233, List.forall_mem_cons.mpr ⟨s_iload_n C0 dX0_find_66 rfl, List.forall_mem_cons.mpr ⟨s_ldc C0 dX0_find_67 tw4_162, List.forall_mem_cons.mpr ⟨s_iast C0 dX0_find_69, List.forall_mem_cons.mpr ⟨s_aload_n C0 dX0_find_70 rfl, fun _ h => absurd h List.not_mem_nil⟩⟩⟩⟩⟩⟩⟩⟩⟩⟩⟩⟩⟩⟩⟩⟩⟩⟩⟩⟩⟩⟩⟩⟩⟩⟩⟩⟩⟩⟩⟩⟩⟩⟩⟩⟩⟩⟩⟩⟩
set_option maxRecDepth 10000 in
theorem hX0_find_1 (l : Launch) {p : Program} {e : Env} {s : State} {m : MethodId} {args : Array Value} {below : List Frame} {meth : Method} {c : Code} {D : va_G} {ad adV : Nat → Nat} {cA : Nat → ClassId} {K : Kt} (C0 : Cx p s m args meth c D ad adV cA cX0_find 4 RX0) (hr : meth.sig.returnType = none) : ∀ q ∈ lX0_find_1, Sd p l e (rmd 11) s m args below meth c (MQ below (QQ D ad cA K) args s 0 0 (AA ad)) D ad cA 4 q.1 (opOf K q.2) := List.forall_mem_cons.mpr ⟨s_iconst C0 dX0_find_71 rfl, List.forall_mem_cons.mpr ⟨s_putI (ci := 0) (k := 10) C0 dX0_find_72 inX0 tyX0_ok nmX0 rfl (by decide) rfl rfl tw1_237, List.forall_mem_cons.mpr ⟨s_aload_n C0 dX0_find_75 rfl, List.forall_mem_cons.mpr ⟨s_iload_n C0 dX0_find_76 rfl, List.forall_mem_cons.mpr ⟨s_iconst C0 dX0_find_77 rfl, List.forall_mem_cons.mpr ⟨s_callV (ci := 0) C0 (kX0_search l 8) dX0_find_78 rfl qX0_search tw4_163 tw4_165 twp_32 tw1_8 tw4_166 rfl (by decide) (by decide), List.forall_mem_cons.mpr ⟨s_aload_n C0 dX0_find_81 rfl, List.forall_mem_cons.mpr ⟨s_get (ci := 0) (k := 7) C0 dX0_find_82 inX0 rfl (by decide) tw1_233, List.forall_mem_cons.mpr ⟨s_iload_n C0 dX0_find_85 rfl, List.forall_mem_cons.mpr ⟨s_aload_n C0 dX0_find_86 rfl, List.forall_mem_cons.mpr ⟨s_get (ci := 0) (k := 10) C0 dX0_find_87 inX0 rfl (by decide) tw1_237, List.forall_mem_cons.mpr ⟨s_iast C0 dX0_find_90, List.forall_mem_cons.mpr ⟨s_iinc C0 dX0_find_91 rfl (by decide), List.forall_mem_cons.mpr ⟨s_goto C0 dX0_find_94 rfl, List.forall_mem_cons.mpr ⟨s_vret C0 hr dX0_find_97, fun _ h => absurd h List.not_mem_nil⟩⟩⟩⟩⟩⟩⟩⟩⟩⟩⟩⟩⟩⟩⟩
def fX0_find : Mf := mf 4 (fun K => tl K lX0_find)
theorem kX0_find (l : Launch) : Okm l yX0_find cX0_find 4 none 11 fX0_find := Okm_tl (own := RX0) (by decide +kernel) rfl (fun C0 hr => List.forall_mem_append.mpr ⟨hX0_find_0 l C0 hr, hX0_find_1 l C0 hr⟩)
theorem dX1_riskOf_0 : decode cX1_riskOf 0 = .ok (.aload_n 0, 1) := by decide +kernel
theorem dX1_riskOf_1 : decode cX1_riskOf 1 = .ok (.getfield 9, 3) := by decide +kernel
theorem dX1_riskOf_4 : decode cX1_riskOf 4 = .ok (.iload_n 1, 1) := by decide +kernel
theorem dX1_riskOf_5 : decode cX1_riskOf 5 = .ok (.iconst 3, 1) := by decide +kernel
theorem dX1_riskOf_6 : decode cX1_riskOf 6 = .ok (.invokevirtual 29, 3) := by decide +kernel
theorem dX1_riskOf_9 : decode cX1_riskOf 9 = .ok (.iconst 0, 1) := by decide +kernel
theorem dX1_riskOf_10 : decode cX1_riskOf 10 = .ok (.iload_n 2, 1) := by decide +kernel
theorem dX1_riskOf_11 : decode cX1_riskOf 11 = .ok (.aload_n 0, 1) := by decide +kernel
theorem dX1_riskOf_12 : decode cX1_riskOf 12 = .ok (.getfield 9, 3) := by decide +kernel
theorem dX1_riskOf_15 : decode cX1_riskOf 15 = .ok (.iload_n 1, 1) := by decide +kernel
theorem dX1_riskOf_16 : decode cX1_riskOf 16 = .ok (.iconst 2, 1) := by decide +kernel
theorem dX1_riskOf_17 : decode cX1_riskOf 17 = .ok (.invokevirtual 29, 3) := by decide +kernel
theorem dX1_riskOf_20 : decode cX1_riskOf 20 = .ok (.isub, 1) := by decide +kernel
theorem dX1_riskOf_21 : decode cX1_riskOf 21 = .ok (.invokestatic 35, 3) := by decide +kernel
theorem dX1_riskOf_24 : decode cX1_riskOf 24 = .ok (.imul, 1) := by decide +kernel
theorem dX1_riskOf_25 : decode cX1_riskOf 25 = .ok (.ireturn, 1) := by decide +kernel
def lX1_riskOf : List (Nat × (Op ⊕ Nat)) := [(0, .inl (o_aload 0 1)), (1, .inl (o_get 1 0 4)), (4, .inl (o_iload 1 5)), (5, .inl (o_pushI (nI 3) 6)), (6, .inl (o_callV fX9_trait 2 9 9)), (9, .inl (o_pushI (nI 0) 10)), (10, .inl (o_iload 2 11)), (11, .inl (o_aload 0 12)), (12, .inl (o_get 1 0 15)), (15, .inl (o_iload 1 16)), (16, .inl (o_pushI (nI 2) 17)), (17, .inl (o_callV fX9_trait 2 9 20)), (20, .inl (o_isub 21)), (21, .inl (o_max 24)), (24, .inl (o_imul 25)), (25, .inr 0)]
theorem qX1_riskOf : yX1_riskOf.cls = RX1 ∧ yX1_riskOf.cls ≠ "java/lang/invoke/MethodHandle" ∧ yX1_riskOf.cls ≠ "java/lang/invoke/VarHandle" ∧ (parseMethodDescriptor yX1_riskOf.desc).map (fun d => d.parameters.length) = some 2 := by decide +kernel
set_option maxRecDepth 10000 in
theorem hX1_riskOf_0 (l : Launch) {p : Program} {e : Env} {s : State} {m : MethodId} {args : Array Value} {below : List Frame} {meth : Method} {c : Code} {D : va_G} {ad adV : Nat → Nat} {cA : Nat → ClassId} {K : Kt} (C0 : Cx p s m args meth c D ad adV cA cX1_riskOf 3 RX1) (hr : meth.sig.returnType = (some .int)) : ∀ q ∈ lX1_riskOf, Sd p l e (rmd 1) s m args below meth c (MQ below (QQ D ad cA K) args s 0 0 (AA ad)) D ad cA 3 q.1 (opOf K q.2) := List.forall_mem_cons.mpr ⟨s_aload_n C0 dX1_riskOf_0 rfl, List.forall_mem_cons.mpr ⟨s_get (ci := 1) (k := 0) C0 dX1_riskOf_1 inX1 rfl (by decide) tw1_190, List.forall_mem_cons.mpr ⟨s_iload_n C0 dX1_riskOf_4 rfl, List.forall_mem_cons.mpr ⟨s_iconst C0 dX1_riskOf_5 rfl, List.forall_mem_cons.mpr ⟨s_callV (ci := 9) C0 (kX9_trait l) dX1_riskOf_6 rfl qX9_trait tw3_205 tw3_73 tw3_74 tw1_4 tw3_75 rfl (by decide) (by decide), List.forall_mem_cons.mpr ⟨s_iconst C0 dX1_riskOf_9 rfl, List.forall_mem_cons.mpr ⟨s_iload_n C0 dX1_riskOf_10 rfl, List.forall_mem_cons.mpr ⟨s_aload_n C0 dX1_riskOf_11 rfl, List.forall_mem_cons.mpr ⟨s_get (ci := 1) (k := 0) C0 dX1_riskOf_12 inX1 rfl (by decide) tw1_190, List.forall_mem_cons.mpr ⟨s_iload_n C0 dX1_riskOf_15 rfl, List.forall_mem_cons.mpr ⟨s_iconst C0 dX1_riskOf_16 rfl, List.forall_mem_cons.mpr ⟨s_callV (ci := 9) C0 (kX9_trait l) dX1_riskOf_17 rfl qX9_trait tw3_205 tw3_73 tw3_74 tw1_4 tw3_75 rfl (by decide) (by decide), List.forall_mem_cons.mpr ⟨s_isub C0 dX1_riskOf_20, List.forall_mem_cons.mpr ⟨s_max C0 dX1_riskOf_21 tw3_212 tw2_198 tw1_14 twm_max rfl (by decide), List.forall_mem_cons.mpr ⟨s_imul C0 dX1_riskOf_24, List.forall_mem_cons.mpr ⟨s_iret C0 hr dX1_riskOf_25, fun _ h => absurd h List.not_mem_nil⟩⟩⟩⟩⟩⟩⟩⟩⟩⟩⟩⟩⟩⟩⟩⟩
def fX1_riskOf : Mf := mf 3 (fun K => tl K lX1_riskOf)
theorem kX1_riskOf (l : Launch) : Okm l yX1_riskOf cX1_riskOf 3 (some .int) 1 fX1_riskOf := Okm_tl (own := RX1) (by decide +kernel) rfl (fun C0 hr => hX1_riskOf_0 l C0 hr)
theorem dX5_armAt_0 : decode cX5_armAt 0 = .ok (.aload_n 0, 1) := by decide +kernel
theorem dX5_armAt_1 : decode cX5_armAt 1 = .ok (.getfield 15, 3) := by decide +kernel
theorem dX5_armAt_4 : decode cX5_armAt 4 = .ok (.iload_n 1, 1) := by decide +kernel
theorem dX5_armAt_5 : decode cX5_armAt 5 = .ok (.iconst 3, 1) := by decide +kernel
theorem dX5_armAt_6 : decode cX5_armAt 6 = .ok (.imul, 1) := by decide +kernel
theorem dX5_armAt_7 : decode cX5_armAt 7 = .ok (.iload_n 2, 1) := by decide +kernel
theorem dX5_armAt_8 : decode cX5_armAt 8 = .ok (.iadd, 1) := by decide +kernel
theorem dX5_armAt_9 : decode cX5_armAt 9 = .ok (.iaload, 1) := by decide +kernel
theorem dX5_armAt_10 : decode cX5_armAt 10 = .ok (.ireturn, 1) := by decide +kernel
def lX5_armAt : List (Nat × (Op ⊕ Nat)) := [(0, .inl (o_aload 0 1)), (1, .inl (o_get 5 1 4)), (4, .inl (o_iload 1 5)), (5, .inl (o_pushI (nI 3) 6)), (6, .inl (o_imul 7)), (7, .inl (o_iload 2 8)), (8, .inl (o_iadd 9)), (9, .inl (o_iald 10)), (10, .inr 0)]
theorem qX5_armAt : yX5_armAt.cls = RX5 ∧ yX5_armAt.cls ≠ "java/lang/invoke/MethodHandle" ∧ yX5_armAt.cls ≠ "java/lang/invoke/VarHandle" ∧ (parseMethodDescriptor yX5_armAt.desc).map (fun d => d.parameters.length) = some 2 := by decide +kernel
set_option maxRecDepth 10000 in
theorem hX5_armAt_0 (l : Launch) {p : Program} {e : Env} {s : State} {m : MethodId} {args : Array Value} {below : List Frame} {meth : Method} {c : Code} {D : va_G} {ad adV : Nat → Nat} {cA : Nat → ClassId} {K : Kt} (C0 : Cx p s m args meth c D ad adV cA cX5_armAt 3 RX5) (hr : meth.sig.returnType = (some .int)) : ∀ q ∈ lX5_armAt, Sd p l e (rmd 0) s m args below meth c (MQ below (QQ D ad cA K) args s 0 0 (AA ad)) D ad cA 3 q.1 (opOf K q.2) := List.forall_mem_cons.mpr ⟨s_aload_n C0 dX5_armAt_0 rfl, List.forall_mem_cons.mpr ⟨s_get (ci := 5) (k := 1) C0 dX5_armAt_1 inX5 rfl (by decide) tw1_172, List.forall_mem_cons.mpr ⟨s_iload_n C0 dX5_armAt_4 rfl, List.forall_mem_cons.mpr ⟨s_iconst C0 dX5_armAt_5 rfl, List.forall_mem_cons.mpr ⟨s_imul C0 dX5_armAt_6, List.forall_mem_cons.mpr ⟨s_iload_n C0 dX5_armAt_7 rfl, List.forall_mem_cons.mpr ⟨s_iadd C0 dX5_armAt_8, List.forall_mem_cons.mpr ⟨s_iald C0 dX5_armAt_9, List.forall_mem_cons.mpr ⟨s_iret C0 hr dX5_armAt_10, fun _ h => absurd h List.not_mem_nil⟩⟩⟩⟩⟩⟩⟩⟩⟩
def fX5_armAt : Mf := mf 3 (fun K => tl K lX5_armAt)
theorem kX5_armAt (l : Launch) : Okm l yX5_armAt cX5_armAt 3 (some .int) 0 fX5_armAt := Okm_tl (own := RX5) (by decide +kernel) rfl (fun C0 hr => hX5_armAt_0 l C0 hr)
theorem dX5_throwsAt_0 : decode cX5_throwsAt 0 = .ok (.aload_n 0, 1) := by decide +kernel
theorem dX5_throwsAt_1 : decode cX5_throwsAt 1 = .ok (.getfield 18, 3) := by decide +kernel
theorem dX5_throwsAt_4 : decode cX5_throwsAt 4 = .ok (.iload_n 1, 1) := by decide +kernel
theorem dX5_throwsAt_5 : decode cX5_throwsAt 5 = .ok (.iconst 3, 1) := by decide +kernel
theorem dX5_throwsAt_6 : decode cX5_throwsAt 6 = .ok (.imul, 1) := by decide +kernel
theorem dX5_throwsAt_7 : decode cX5_throwsAt 7 = .ok (.iload_n 2, 1) := by decide +kernel
theorem dX5_throwsAt_8 : decode cX5_throwsAt 8 = .ok (.iadd, 1) := by decide +kernel
theorem dX5_throwsAt_9 : decode cX5_throwsAt 9 = .ok (.iaload, 1) := by decide +kernel
theorem dX5_throwsAt_10 : decode cX5_throwsAt 10 = .ok (.ireturn, 1) := by decide +kernel
def lX5_throwsAt : List (Nat × (Op ⊕ Nat)) := [(0, .inl (o_aload 0 1)), (1, .inl (o_get 5 2 4)), (4, .inl (o_iload 1 5)), (5, .inl (o_pushI (nI 3) 6)), (6, .inl (o_imul 7)), (7, .inl (o_iload 2 8)), (8, .inl (o_iadd 9)), (9, .inl (o_iald 10)), (10, .inr 0)]
theorem qX5_throwsAt : yX5_throwsAt.cls = RX5 ∧ yX5_throwsAt.cls ≠ "java/lang/invoke/MethodHandle" ∧ yX5_throwsAt.cls ≠ "java/lang/invoke/VarHandle" ∧ (parseMethodDescriptor yX5_throwsAt.desc).map (fun d => d.parameters.length) = some 2 := by decide +kernel
set_option maxRecDepth 10000 in
theorem hX5_throwsAt_0 (l : Launch) {p : Program} {e : Env} {s : State} {m : MethodId} {args : Array Value} {below : List Frame} {meth : Method} {c : Code} {D : va_G} {ad adV : Nat → Nat} {cA : Nat → ClassId} {K : Kt} (C0 : Cx p s m args meth c D ad adV cA cX5_throwsAt 3 RX5) (hr : meth.sig.returnType = (some .int)) : ∀ q ∈ lX5_throwsAt, Sd p l e (rmd 0) s m args below meth c (MQ below (QQ D ad cA K) args s 0 0 (AA ad)) D ad cA 3 q.1 (opOf K q.2) := List.forall_mem_cons.mpr ⟨s_aload_n C0 dX5_throwsAt_0 rfl, List.forall_mem_cons.mpr ⟨s_get (ci := 5) (k := 2) C0 dX5_throwsAt_1 inX5 rfl (by decide) tw1_173, List.forall_mem_cons.mpr ⟨s_iload_n C0 dX5_throwsAt_4 rfl, List.forall_mem_cons.mpr ⟨s_iconst C0 dX5_throwsAt_5 rfl, List.forall_mem_cons.mpr ⟨s_imul C0 dX5_throwsAt_6, List.forall_mem_cons.mpr ⟨s_iload_n C0 dX5_throwsAt_7 rfl, List.forall_mem_cons.mpr ⟨s_iadd C0 dX5_throwsAt_8, List.forall_mem_cons.mpr ⟨s_iald C0 dX5_throwsAt_9, List.forall_mem_cons.mpr ⟨s_iret C0 hr dX5_throwsAt_10, fun _ h => absurd h List.not_mem_nil⟩⟩⟩⟩⟩⟩⟩⟩⟩
def fX5_throwsAt : Mf := mf 3 (fun K => tl K lX5_throwsAt)
theorem kX5_throwsAt (l : Launch) : Okm l yX5_throwsAt cX5_throwsAt 3 (some .int) 0 fX5_throwsAt := Okm_tl (own := RX5) (by decide +kernel) rfl (fun C0 hr => hX5_throwsAt_0 l C0 hr)
theorem dX1_valueAt_0 : decode cX1_valueAt 0 = .ok (.aload_n 0, 1) := by decide +kernel
theorem dX1_valueAt_1 : decode cX1_valueAt 1 = .ok (.aload_n 0, 1) := by decide +kernel
theorem dX1_valueAt_2 : decode cX1_valueAt 2 = .ok (.getfield 15, 3) := by decide +kernel
theorem dX1_valueAt_5 : decode cX1_valueAt 5 = .ok (.iload_n 1, 1) := by decide +kernel
theorem dX1_valueAt_6 : decode cX1_valueAt 6 = .ok (.iload_n 2, 1) := by decide +kernel
theorem dX1_valueAt_7 : decode cX1_valueAt 7 = .ok (.invokevirtual 46, 3) := by decide +kernel
theorem dX1_valueAt_10 : decode cX1_valueAt 10 = .ok (.iload_n 1, 1) := by decide +kernel
theorem dX1_valueAt_11 : decode cX1_valueAt 11 = .ok (.aload_n 0, 1) := by decide +kernel
theorem dX1_valueAt_12 : decode cX1_valueAt 12 = .ok (.getfield 15, 3) := by decide +kernel
theorem dX1_valueAt_15 : decode cX1_valueAt 15 = .ok (.iload_n 1, 1) := by decide +kernel
theorem dX1_valueAt_16 : decode cX1_valueAt 16 = .ok (.iload_n 2, 1) := by decide +kernel
theorem dX1_valueAt_17 : decode cX1_valueAt 17 = .ok (.invokevirtual 51, 3) := by decide +kernel
theorem dX1_valueAt_20 : decode cX1_valueAt 20 = .ok (.invokevirtual 54, 3) := by decide +kernel
theorem dX1_valueAt_23 : decode cX1_valueAt 23 = .ok (.ireturn, 1) := by decide +kernel
def lX1_valueAt : List (Nat × (Op ⊕ Nat)) := [(0, .inl (o_aload 0 1)), (1, .inl (o_aload 0 2)), (2, .inl (o_get 1 1 5)), (5, .inl (o_iload 1 6)), (6, .inl (o_iload 2 7)), (7, .inl (o_callV fX5_armAt 2 5 10)), (10, .inl (o_iload 1 11)), (11, .inl (o_aload 0 12)), (12, .inl (o_get 1 1 15)), (15, .inl (o_iload 1 16)), (16, .inl (o_iload 2 17)), (17, .inl (o_callV fX5_throwsAt 2 5 20)), (20, .inl (o_callV fX1_valueOf 3 1 23)), (23, .inr 0)]
theorem qX1_valueAt : yX1_valueAt.cls = RX1 ∧ yX1_valueAt.cls ≠ "java/lang/invoke/MethodHandle" ∧ yX1_valueAt.cls ≠ "java/lang/invoke/VarHandle" ∧ (parseMethodDescriptor yX1_valueAt.desc).map (fun d => d.parameters.length) = some 2 := by decide +kernel
set_option maxRecDepth 10000 in
theorem hX1_valueAt_0 (l : Launch) {p : Program} {e : Env} {s : State} {m : MethodId} {args : Array Value} {below : List Frame} {meth : Method} {c : Code} {D : va_G} {ad adV : Nat → Nat} {cA : Nat → ClassId} {K : Kt} (C0 : Cx p s m args meth c D ad adV cA cX1_valueAt 3 RX1) (hr : meth.sig.returnType = (some .int)) : ∀ q ∈ lX1_valueAt, Sd p l e (rmd 3) s m args below meth c (MQ below (QQ D ad cA K) args s 0 0 (AA ad)) D ad cA 3 q.1 (opOf K q.2) := List.forall_mem_cons.mpr ⟨s_aload_n C0 dX1_valueAt_0 rfl, List.forall_mem_cons.mpr ⟨s_aload_n C0 dX1_valueAt_1 rfl, List.forall_mem_cons.mpr ⟨s_get (ci := 1) (k := 1) C0 dX1_valueAt_2 inX1 rfl (by decide) tw1_195, List.forall_mem_cons.mpr ⟨s_iload_n C0 dX1_valueAt_5 rfl, List.forall_mem_cons.mpr ⟨s_iload_n C0 dX1_valueAt_6 rfl, List.forall_mem_cons.mpr ⟨s_callV (ci := 5) C0 (kX5_armAt l) dX1_valueAt_7 rfl qX5_armAt tw3_239 tw3_128 tw3_129 tw1_5 tw3_130 rfl (by decide) (by decide), List.forall_mem_cons.mpr ⟨s_iload_n C0 dX1_valueAt_10 rfl, List.forall_mem_cons.mpr ⟨s_aload_n C0 dX1_valueAt_11 rfl, List.forall_mem_cons.mpr ⟨s_get (ci := 1) (k := 1) C0 dX1_valueAt_12 inX1 rfl (by decide) tw1_195, List.forall_mem_cons.mpr ⟨s_iload_n C0 dX1_valueAt_15 rfl, List.forall_mem_cons.mpr ⟨s_iload_n C0 dX1_valueAt_16 rfl, List.forall_mem_cons.mpr ⟨s_callV (ci := 5) C0 (kX5_throwsAt l) dX1_valueAt_17 rfl qX5_throwsAt tw3_230 tw3_132 tw3_133 tw1_5 tw3_134 rfl (by decide) (by decide), List.forall_mem_cons.mpr ⟨s_callV (ci := 1) C0 (kX1_valueOf l) dX1_valueAt_20 rfl qX1_valueOf tw3_201 tw3_202 tw3_203 tw1_6 tw3_204 rfl (by decide) (by decide), List.forall_mem_cons.mpr ⟨s_iret C0 hr dX1_valueAt_23, fun _ h => absurd h List.not_mem_nil⟩⟩⟩⟩⟩⟩⟩⟩⟩⟩⟩⟩⟩⟩
def fX1_valueAt : Mf := mf 3 (fun K => tl K lX1_valueAt)
theorem kX1_valueAt (l : Launch) : Okm l yX1_valueAt cX1_valueAt 3 (some .int) 3 fX1_valueAt := Okm_tl (own := RX1) (by decide +kernel) rfl (fun C0 hr => hX1_valueAt_0 l C0 hr)
theorem dX1_riskAt_0 : decode cX1_riskAt 0 = .ok (.aload_n 0, 1) := by decide +kernel
theorem dX1_riskAt_1 : decode cX1_riskAt 1 = .ok (.aload_n 0, 1) := by decide +kernel
theorem dX1_riskAt_2 : decode cX1_riskAt 2 = .ok (.getfield 15, 3) := by decide +kernel
theorem dX1_riskAt_5 : decode cX1_riskAt 5 = .ok (.iload_n 1, 1) := by decide +kernel
theorem dX1_riskAt_6 : decode cX1_riskAt 6 = .ok (.iload_n 2, 1) := by decide +kernel
theorem dX1_riskAt_7 : decode cX1_riskAt 7 = .ok (.invokevirtual 46, 3) := by decide +kernel
theorem dX1_riskAt_10 : decode cX1_riskAt 10 = .ok (.aload_n 0, 1) := by decide +kernel
theorem dX1_riskAt_11 : decode cX1_riskAt 11 = .ok (.getfield 15, 3) := by decide +kernel
theorem dX1_riskAt_14 : decode cX1_riskAt 14 = .ok (.iload_n 1, 1) := by decide +kernel
theorem dX1_riskAt_15 : decode cX1_riskAt 15 = .ok (.iload_n 2, 1) := by decide +kernel
theorem dX1_riskAt_16 : decode cX1_riskAt 16 = .ok (.invokevirtual 51, 3) := by decide +kernel
theorem dX1_riskAt_19 : decode cX1_riskAt 19 = .ok (.invokevirtual 58, 3) := by decide +kernel
theorem dX1_riskAt_22 : decode cX1_riskAt 22 = .ok (.ireturn, 1) := by decide +kernel
def lX1_riskAt : List (Nat × (Op ⊕ Nat)) := [(0, .inl (o_aload 0 1)), (1, .inl (o_aload 0 2)), (2, .inl (o_get 1 1 5)), (5, .inl (o_iload 1 6)), (6, .inl (o_iload 2 7)), (7, .inl (o_callV fX5_armAt 2 5 10)), (10, .inl (o_aload 0 11)), (11, .inl (o_get 1 1 14)), (14, .inl (o_iload 1 15)), (15, .inl (o_iload 2 16)), (16, .inl (o_callV fX5_throwsAt 2 5 19)), (19, .inl (o_callV fX1_riskOf 2 1 22)), (22, .inr 0)]
theorem qX1_riskAt : yX1_riskAt.cls = RX1 ∧ yX1_riskAt.cls ≠ "java/lang/invoke/MethodHandle" ∧ yX1_riskAt.cls ≠ "java/lang/invoke/VarHandle" ∧ (parseMethodDescriptor yX1_riskAt.desc).map (fun d => d.parameters.length) = some 2 := by decide +kernel
set_option maxRecDepth 10000 in
theorem hX1_riskAt_0 (l : Launch) {p : Program} {e : Env} {s : State} {m : MethodId} {args : Array Value} {below : List Frame} {meth : Method} {c : Code} {D : va_G} {ad adV : Nat → Nat} {cA : Nat → ClassId} {K : Kt} (C0 : Cx p s m args meth c D ad adV cA cX1_riskAt 3 RX1) (hr : meth.sig.returnType = (some .int)) : ∀ q ∈ lX1_riskAt, Sd p l e (rmd 2) s m args below meth c (MQ below (QQ D ad cA K) args s 0 0 (AA ad)) D ad cA 3 q.1 (opOf K q.2) := List.forall_mem_cons.mpr ⟨s_aload_n C0 dX1_riskAt_0 rfl, List.forall_mem_cons.mpr ⟨s_aload_n C0 dX1_riskAt_1 rfl, List.forall_mem_cons.mpr ⟨s_get (ci := 1) (k := 1) C0 dX1_riskAt_2 inX1 rfl (by decide) tw1_195, List.forall_mem_cons.mpr ⟨s_iload_n C0 dX1_riskAt_5 rfl, List.forall_mem_cons.mpr ⟨s_iload_n C0 dX1_riskAt_6 rfl, List.forall_mem_cons.mpr ⟨s_callV (ci := 5) C0 (kX5_armAt l) dX1_riskAt_7 rfl qX5_armAt tw3_239 tw3_128 tw3_129 tw1_5 tw3_130 rfl (by decide) (by decide), List.forall_mem_cons.mpr ⟨s_aload_n C0 dX1_riskAt_10 rfl, List.forall_mem_cons.mpr ⟨s_get (ci := 1) (k := 1) C0 dX1_riskAt_11 inX1 rfl (by decide) tw1_195, List.forall_mem_cons.mpr ⟨s_iload_n C0 dX1_riskAt_14 rfl, List.forall_mem_cons.mpr ⟨s_iload_n C0 dX1_riskAt_15 rfl, List.forall_mem_cons.mpr ⟨s_callV (ci := 5) C0 (kX5_throwsAt l) dX1_riskAt_16 rfl qX5_throwsAt tw3_230 tw3_132 tw3_133 tw1_5 tw3_134 rfl (by decide) (by decide), List.forall_mem_cons.mpr ⟨s_callV (ci := 1) C0 (kX1_riskOf l) dX1_riskAt_19 rfl qX1_riskOf tw4_27 tw4_28 tw4_29 tw1_6 tw4_30 rfl (by decide) (by decide), List.forall_mem_cons.mpr ⟨s_iret C0 hr dX1_riskAt_22, fun _ h => absurd h List.not_mem_nil⟩⟩⟩⟩⟩⟩⟩⟩⟩⟩⟩⟩⟩
def fX1_riskAt : Mf := mf 3 (fun K => tl K lX1_riskAt)
theorem kX1_riskAt (l : Launch) : Okm l yX1_riskAt cX1_riskAt 3 (some .int) 2 fX1_riskAt := Okm_tl (own := RX1) (by decide +kernel) rfl (fun C0 hr => hX1_riskAt_0 l C0 hr)
theorem dX1_leftIn_0 : decode cX1_leftIn 0 = .ok (.aload_n 0, 1) := by decide +kernel
theorem dX1_leftIn_1 : decode cX1_leftIn 1 = .ok (.getfield 9, 3) := by decide +kernel
theorem dX1_leftIn_4 : decode cX1_leftIn 4 = .ok (.iload_n 1, 1) := by decide +kernel
theorem dX1_leftIn_5 : decode cX1_leftIn 5 = .ok (.iconst 2, 1) := by decide +kernel
theorem dX1_leftIn_6 : decode cX1_leftIn 6 = .ok (.invokevirtual 19, 3) := by decide +kernel
theorem dX1_leftIn_9 : decode cX1_leftIn 9 = .ok (.istore_n 2, 1) := by decide +kernel
theorem dX1_leftIn_10 : decode cX1_leftIn 10 = .ok (.iconst 0, 1) := by decide +kernel
theorem dX1_leftIn_11 : decode cX1_leftIn 11 = .ok (.istore_n 3, 1) := by decide +kernel
theorem dX1_leftIn_12 : decode cX1_leftIn 12 = .ok (.iload_n 3, 1) := by decide +kernel
theorem dX1_leftIn_13 : decode cX1_leftIn 13 = .ok (.aload_n 0, 1) := by decide +kernel
theorem dX1_leftIn_14 : decode cX1_leftIn 14 = .ok (.getfield 15, 3) := by decide +kernel
theorem dX1_leftIn_17 : decode cX1_leftIn 17 = .ok (.getfield 61, 3) := by decide +kernel
theorem dX1_leftIn_20 : decode cX1_leftIn 20 = .ok (.iload_n 1, 1) := by decide +kernel
theorem dX1_leftIn_21 : decode cX1_leftIn 21 = .ok (.iaload, 1) := by decide +kernel
theorem dX1_leftIn_22 : decode cX1_leftIn 22 = .ok (.if_icmp .ge 21, 3) := by decide +kernel
theorem dX1_leftIn_25 : decode cX1_leftIn 25 = .ok (.iload_n 2, 1) := by decide +kernel
theorem dX1_leftIn_26 : decode cX1_leftIn 26 = .ok (.aload_n 0, 1) := by decide +kernel
theorem dX1_leftIn_27 : decode cX1_leftIn 27 = .ok (.getfield 15, 3) := by decide +kernel
theorem dX1_leftIn_30 : decode cX1_leftIn 30 = .ok (.iload_n 1, 1) := by decide +kernel
theorem dX1_leftIn_31 : decode cX1_leftIn 31 = .ok (.iload_n 3, 1) := by decide +kernel
theorem dX1_leftIn_32 : decode cX1_leftIn 32 = .ok (.invokevirtual 51, 3) := by decide +kernel
theorem dX1_leftIn_35 : decode cX1_leftIn 35 = .ok (.isub, 1) := by decide +kernel
theorem dX1_leftIn_36 : decode cX1_leftIn 36 = .ok (.istore_n 2, 1) := by decide +kernel
theorem dX1_leftIn_37 : decode cX1_leftIn 37 = .ok (.iinc 3 1, 3) := by decide +kernel
theorem dX1_leftIn_40 : decode cX1_leftIn 40 = .ok (.goto (-28), 3) := by decide +kernel
theorem dX1_leftIn_43 : decode cX1_leftIn 43 = .ok (.iload_n 2, 1) := by decide +kernel
theorem dX1_leftIn_44 : decode cX1_leftIn 44 = .ok (.ireturn, 1) := by decide +kernel
def lX1_leftIn : List (Nat × (Op ⊕ Nat)) := [(0, .inl (o_aload 0 1)), (1, .inl (o_get 1 0 4)), (4, .inl (o_iload 1 5)), (5, .inl (o_pushI (nI 2) 6)), (6, .inl (o_callV fX9_fact 2 9 9)), (9, .inl (o_istore 2 10)), (10, .inl (o_pushI (nI 0) 11)), (11, .inl (o_istore 3 12)), (12, .inl (o_iload 3 13)), (13, .inl (o_aload 0 14)), (14, .inl (o_get 1 1 17)), (17, .inl (o_get 5 0 20)), (20, .inl (o_iload 1 21)), (21, .inl (o_iald 22)), (22, .inl (o_icmp_ge 43 25)), (25, .inl (o_iload 2 26)), (26, .inl (o_aload 0 27)), (27, .inl (o_get 1 1 30)), (30, .inl (o_iload 1 31)), (31, .inl (o_iload 3 32)), (32, .inl (o_callV fX5_throwsAt 2 5 35)), (35, .inl (o_isub 36)), (36, .inl (o_istore 2 37)), (37, .inl (o_iinc 3 (nI 1) 40)), (40, .inl (o_goto 12)), (43, .inl (o_iload 2 44)), (44, .inr 0)]
theorem qX1_leftIn : yX1_leftIn.cls = RX1 ∧ yX1_leftIn.cls ≠ "java/lang/invoke/MethodHandle" ∧ yX1_leftIn.cls ≠ "java/lang/invoke/VarHandle" ∧ (parseMethodDescriptor yX1_leftIn.desc).map (fun d => d.parameters.length) = some 1 := by decide +kernel
set_option maxRecDepth 10000 in
theorem hX1_leftIn_0 (l : Launch) {p : Program} {e : Env} {s : State} {m : MethodId} {args : Array Value} {below : List Frame} {meth : Method} {c : Code} {D : va_G} {ad adV : Nat → Nat} {cA : Nat → ClassId} {K : Kt} (C0 : Cx p s m args meth c D ad adV cA cX1_leftIn 4 RX1) (hr : meth.sig.returnType = (some .int)) : ∀ q ∈ lX1_leftIn, Sd p l e (rmd 1) s m args below meth c (MQ below (QQ D ad cA K) args s 0 0 (AA ad)) D ad cA 4 q.1 (opOf K q.2) := List.forall_mem_cons.mpr ⟨s_aload_n C0 dX1_leftIn_0 rfl, List.forall_mem_cons.mpr ⟨s_get (ci := 1) (k := 0) C0 dX1_leftIn_1 inX1 rfl (by decide) tw1_190, List.forall_mem_cons.mpr ⟨s_iload_n C0 dX1_leftIn_4 rfl, List.forall_mem_cons.mpr ⟨s_iconst C0 dX1_leftIn_5 rfl, List.forall_mem_cons.mpr ⟨s_callV (ci := 9) C0 (kX9_fact l) dX1_leftIn_6 rfl qX9_fact tw3_211 tw3_92 tw3_93 tw1_4 tw3_94 rfl (by decide) (by decide), List.forall_mem_cons.mpr ⟨s_istore_n C0 dX1_leftIn_9 rfl (by decide), List.forall_mem_cons.mpr ⟨s_iconst C0 dX1_leftIn_10 rfl, List.forall_mem_cons.mpr ⟨s_istore_n C0 dX1_leftIn_11 rfl (by decide), List.forall_mem_cons.mpr ⟨s_iload_n C0 dX1_leftIn_12 rfl, List.forall_mem_cons.mpr ⟨s_aload_n C0 dX1_leftIn_13 rfl, List.forall_mem_cons.mpr ⟨s_get (ci := 1) (k := 1) C0 dX1_leftIn_14 inX1 rfl (by decide) tw1_195, List.forall_mem_cons.mpr ⟨s_get (ci := 5) (k := 0) C0 dX1_leftIn_17 inX5 rfl (by decide) tw1_169, List.forall_mem_cons.mpr ⟨s_iload_n C0 dX1_leftIn_20 rfl, List.forall_mem_cons.mpr ⟨s_iald C0 dX1_leftIn_21, List.forall_mem_cons.mpr ⟨s_icmp_ge C0 dX1_leftIn_22 rfl, List.forall_mem_cons.mpr ⟨s_iload_n C0 dX1_leftIn_25 rfl, List.forall_mem_cons.mpr ⟨s_aload_n C0 dX1_leftIn_26 rfl, List.forall_mem_cons.mpr ⟨s_get (ci := 1) (k := 1) C0 dX1_leftIn_27 inX1 rfl (by decide) tw1_195, List.forall_mem_cons.mpr ⟨s_iload_n C0 dX1_leftIn_30 rfl, List.forall_mem_cons.mpr ⟨s_iload_n C0 dX1_leftIn_31 rfl, List.forall_mem_cons.mpr ⟨s_callV (ci := 5) C0 (kX5_throwsAt l) dX1_leftIn_32 rfl qX5_throwsAt tw3_230 tw3_132 tw3_133 tw1_5 tw3_134 rfl (by decide) (by decide), List.forall_mem_cons.mpr ⟨s_isub C0 dX1_leftIn_35, List.forall_mem_cons.mpr ⟨s_istore_n C0 dX1_leftIn_36 rfl (by decide), List.forall_mem_cons.mpr ⟨s_iinc C0 dX1_leftIn_37 rfl (by decide), List.forall_mem_cons.mpr ⟨s_goto C0 dX1_leftIn_40 rfl, List.forall_mem_cons.mpr ⟨s_iload_n C0 dX1_leftIn_43 rfl, List.forall_mem_cons.mpr ⟨s_iret C0 hr dX1_leftIn_44, fun _ h => absurd h List.not_mem_nil⟩⟩⟩⟩⟩⟩⟩⟩⟩⟩⟩⟩⟩⟩⟩⟩⟩⟩⟩⟩⟩⟩⟩⟩⟩⟩⟩
def fX1_leftIn : Mf := mf 4 (fun K => tl K lX1_leftIn)
theorem kX1_leftIn (l : Launch) : Okm l yX1_leftIn cX1_leftIn 4 (some .int) 1 fX1_leftIn := Okm_tl (own := RX1) (by decide +kernel) rfl (fun C0 hr => hX1_leftIn_0 l C0 hr)
theorem dX1_valueOfGame_0 : decode cX1_valueOfGame 0 = .ok (.iconst 0, 1) := by decide +kernel
theorem dX1_valueOfGame_1 : decode cX1_valueOfGame 1 = .ok (.istore_n 2, 1) := by decide +kernel
theorem dX1_valueOfGame_2 : decode cX1_valueOfGame 2 = .ok (.iconst 0, 1) := by decide +kernel
theorem dX1_valueOfGame_3 : decode cX1_valueOfGame 3 = .ok (.istore_n 3, 1) := by decide +kernel
theorem dX1_valueOfGame_4 : decode cX1_valueOfGame 4 = .ok (.iload_n 3, 1) := by decide +kernel
theorem dX1_valueOfGame_5 : decode cX1_valueOfGame 5 = .ok (.aload_n 0, 1) := by decide +kernel
theorem dX1_valueOfGame_6 : decode cX1_valueOfGame 6 = .ok (.getfield 15, 3) := by decide +kernel
theorem dX1_valueOfGame_9 : decode cX1_valueOfGame 9 = .ok (.getfield 61, 3) := by decide +kernel
theorem dX1_valueOfGame_12 : decode cX1_valueOfGame 12 = .ok (.iload_n 1, 1) := by decide +kernel
theorem dX1_valueOfGame_13 : decode cX1_valueOfGame 13 = .ok (.iaload, 1) := by decide +kernel
theorem dX1_valueOfGame_14 : decode cX1_valueOfGame 14 = .ok (.if_icmp .ge 18, 3) := by decide +kernel
theorem dX1_valueOfGame_17 : decode cX1_valueOfGame 17 = .ok (.iload_n 2, 1) := by decide +kernel
theorem dX1_valueOfGame_18 : decode cX1_valueOfGame 18 = .ok (.aload_n 0, 1) := by decide +kernel
theorem dX1_valueOfGame_19 : decode cX1_valueOfGame 19 = .ok (.iload_n 1, 1) := by decide +kernel
theorem dX1_valueOfGame_20 : decode cX1_valueOfGame 20 = .ok (.iload_n 3, 1) := by decide +kernel
theorem dX1_valueOfGame_21 : decode cX1_valueOfGame 21 = .ok (.invokevirtual 64, 3) := by decide +kernel
theorem dX1_valueOfGame_24 : decode cX1_valueOfGame 24 = .ok (.iadd, 1) := by decide +kernel
theorem dX1_valueOfGame_25 : decode cX1_valueOfGame 25 = .ok (.istore_n 2, 1) := by decide +kernel
theorem dX1_valueOfGame_26 : decode cX1_valueOfGame 26 = .ok (.iinc 3 1, 3) := by decide +kernel
theorem dX1_valueOfGame_29 : decode cX1_valueOfGame 29 = .ok (.goto (-25), 3) := by decide +kernel
theorem dX1_valueOfGame_32 : decode cX1_valueOfGame 32 = .ok (.iload_n 2, 1) := by decide +kernel
theorem dX1_valueOfGame_33 : decode cX1_valueOfGame 33 = .ok (.ireturn, 1) := by decide +kernel
def lX1_valueOfGame : List (Nat × (Op ⊕ Nat)) := [(0, .inl (o_pushI (nI 0) 1)), (1, .inl (o_istore 2 2)), (2, .inl (o_pushI (nI 0) 3)), (3, .inl (o_istore 3 4)), (4, .inl (o_iload 3 5)), (5, .inl (o_aload 0 6)), (6, .inl (o_get 1 1 9)), (9, .inl (o_get 5 0 12)), (12, .inl (o_iload 1 13)), (13, .inl (o_iald 14)), (14, .inl (o_icmp_ge 32 17)), (17, .inl (o_iload 2 18)), (18, .inl (o_aload 0 19)), (19, .inl (o_iload 1 20)), (20, .inl (o_iload 3 21)), (21, .inl (o_callV fX1_valueAt 2 1 24)), (24, .inl (o_iadd 25)), (25, .inl (o_istore 2 26)), (26, .inl (o_iinc 3 (nI 1) 29)), (29, .inl (o_goto 4)), (32, .inl (o_iload 2 33)), (33, .inr 0)]
theorem qX1_valueOfGame : yX1_valueOfGame.cls = RX1 ∧ yX1_valueOfGame.cls ≠ "java/lang/invoke/MethodHandle" ∧ yX1_valueOfGame.cls ≠ "java/lang/invoke/VarHandle" ∧ (parseMethodDescriptor yX1_valueOfGame.desc).map (fun d => d.parameters.length) = some 1 := by decide +kernel
set_option maxRecDepth 10000 in
theorem hX1_valueOfGame_0 (l : Launch) {p : Program} {e : Env} {s : State} {m : MethodId} {args : Array Value} {below : List Frame} {meth : Method} {c : Code} {D : va_G} {ad adV : Nat → Nat} {cA : Nat → ClassId} {K : Kt} (C0 : Cx p s m args meth c D ad adV cA cX1_valueOfGame 4 RX1) (hr : meth.sig.returnType = (some .int)) : ∀ q ∈ lX1_valueOfGame, Sd p l e (rmd 4) s m args below meth c (MQ below (QQ D ad cA K) args s 0 0 (AA ad)) D ad cA 4 q.1 (opOf K q.2) := List.forall_mem_cons.mpr ⟨s_iconst C0 dX1_valueOfGame_0 rfl, List.forall_mem_cons.mpr ⟨s_istore_n C0 dX1_valueOfGame_1 rfl (by decide), List.forall_mem_cons.mpr ⟨s_iconst C0 dX1_valueOfGame_2 rfl, List.forall_mem_cons.mpr ⟨s_istore_n C0 dX1_valueOfGame_3 rfl (by decide), List.forall_mem_cons.mpr ⟨s_iload_n C0 dX1_valueOfGame_4 rfl, List.forall_mem_cons.mpr ⟨s_aload_n C0 dX1_valueOfGame_5 rfl, List.forall_mem_cons.mpr ⟨s_get (ci := 1) (k := 1) C0 dX1_valueOfGame_6 inX1 rfl (by decide) tw1_195, List.forall_mem_cons.mpr ⟨s_get (ci := 5) (k := 0) C0 dX1_valueOfGame_9 inX5 rfl (by decide) tw1_169, List.forall_mem_cons.mpr ⟨s_iload_n C0 dX1_valueOfGame_12 rfl, List.forall_mem_cons.mpr ⟨s_iald C0 dX1_valueOfGame_13, List.forall_mem_cons.mpr ⟨s_icmp_ge C0 dX1_valueOfGame_14 rfl, List.forall_mem_cons.mpr ⟨s_iload_n C0 dX1_valueOfGame_17 rfl, List.forall_mem_cons.mpr ⟨s_aload_n C0 dX1_valueOfGame_18 rfl, List.forall_mem_cons.mpr ⟨s_iload_n C0 dX1_valueOfGame_19 rfl, List.forall_mem_cons.mpr ⟨s_iload_n C0 dX1_valueOfGame_20 rfl, List.forall_mem_cons.mpr ⟨s_callV (ci := 1) C0 (kX1_valueAt l) dX1_valueOfGame_21 rfl qX1_valueAt tw3_235 tw3_236 tw3_237 tw1_6 tw3_238 rfl (by decide) (by decide), List.forall_mem_cons.mpr ⟨s_iadd C0 dX1_valueOfGame_24, List.forall_mem_cons.mpr ⟨s_istore_n C0 dX1_valueOfGame_25 rfl (by decide), List.forall_mem_cons.mpr ⟨s_iinc C0 dX1_valueOfGame_26 rfl (by decide), List.forall_mem_cons.mpr ⟨s_goto C0 dX1_valueOfGame_29 rfl, List.forall_mem_cons.mpr ⟨s_iload_n C0 dX1_valueOfGame_32 rfl, List.forall_mem_cons.mpr ⟨s_iret C0 hr dX1_valueOfGame_33, fun _ h => absurd h List.not_mem_nil⟩⟩⟩⟩⟩⟩⟩⟩⟩⟩⟩⟩⟩⟩⟩⟩⟩⟩⟩⟩⟩⟩
def fX1_valueOfGame : Mf := mf 4 (fun K => tl K lX1_valueOfGame)
theorem kX1_valueOfGame (l : Launch) : Okm l yX1_valueOfGame cX1_valueOfGame 4 (some .int) 4 fX1_valueOfGame := Okm_tl (own := RX1) (by decide +kernel) rfl (fun C0 hr => hX1_valueOfGame_0 l C0 hr)
theorem dX1_allOutings_0 : decode cX1_allOutings 0 = .ok (.iconst 0, 1) := by decide +kernel
theorem dX1_allOutings_1 : decode cX1_allOutings 1 = .ok (.istore_n 1, 1) := by decide +kernel
theorem dX1_allOutings_2 : decode cX1_allOutings 2 = .ok (.iconst 0, 1) := by decide +kernel
theorem dX1_allOutings_3 : decode cX1_allOutings 3 = .ok (.istore_n 2, 1) := by decide +kernel
theorem dX1_allOutings_4 : decode cX1_allOutings 4 = .ok (.iload_n 2, 1) := by decide +kernel
theorem dX1_allOutings_5 : decode cX1_allOutings 5 = .ok (.aload_n 0, 1) := by decide +kernel
theorem dX1_allOutings_6 : decode cX1_allOutings 6 = .ok (.getfield 9, 3) := by decide +kernel
theorem dX1_allOutings_9 : decode cX1_allOutings 9 = .ok (.getfield 67, 3) := by decide +kernel
theorem dX1_allOutings_12 : decode cX1_allOutings 12 = .ok (.if_icmp .ge 21, 3) := by decide +kernel
theorem dX1_allOutings_15 : decode cX1_allOutings 15 = .ok (.iload_n 1, 1) := by decide +kernel
theorem dX1_allOutings_16 : decode cX1_allOutings 16 = .ok (.aload_n 0, 1) := by decide +kernel
theorem dX1_allOutings_17 : decode cX1_allOutings 17 = .ok (.getfield 15, 3) := by decide +kernel
theorem dX1_allOutings_20 : decode cX1_allOutings 20 = .ok (.getfield 61, 3) := by decide +kernel
theorem dX1_allOutings_23 : decode cX1_allOutings 23 = .ok (.iload_n 2, 1) := by decide +kernel
theorem dX1_allOutings_24 : decode cX1_allOutings 24 = .ok (.iaload, 1) := by decide +kernel
theorem dX1_allOutings_25 : decode cX1_allOutings 25 = .ok (.iadd, 1) := by decide +kernel
theorem dX1_allOutings_26 : decode cX1_allOutings 26 = .ok (.istore_n 1, 1) := by decide +kernel
theorem dX1_allOutings_27 : decode cX1_allOutings 27 = .ok (.iinc 2 1, 3) := by decide +kernel
theorem dX1_allOutings_30 : decode cX1_allOutings 30 = .ok (.goto (-26), 3) := by decide +kernel
theorem dX1_allOutings_33 : decode cX1_allOutings 33 = .ok (.iload_n 1, 1) := by decide +kernel
theorem dX1_allOutings_34 : decode cX1_allOutings 34 = .ok (.ireturn, 1) := by decide +kernel
def lX1_allOutings : List (Nat × (Op ⊕ Nat)) := [(0, .inl (o_pushI (nI 0) 1)), (1, .inl (o_istore 1 2)), (2, .inl (o_pushI (nI 0) 3)), (3, .inl (o_istore 2 4)), (4, .inl (o_iload 2 5)), (5, .inl (o_aload 0 6)), (6, .inl (o_get 1 0 9)), (9, .inl (o_get 9 4 12)), (12, .inl (o_icmp_ge 33 15)), (15, .inl (o_iload 1 16)), (16, .inl (o_aload 0 17)), (17, .inl (o_get 1 1 20)), (20, .inl (o_get 5 0 23)), (23, .inl (o_iload 2 24)), (24, .inl (o_iald 25)), (25, .inl (o_iadd 26)), (26, .inl (o_istore 1 27)), (27, .inl (o_iinc 2 (nI 1) 30)), (30, .inl (o_goto 4)), (33, .inl (o_iload 1 34)), (34, .inr 0)]
theorem qX1_allOutings : yX1_allOutings.cls = RX1 ∧ yX1_allOutings.cls ≠ "java/lang/invoke/MethodHandle" ∧ yX1_allOutings.cls ≠ "java/lang/invoke/VarHandle" ∧ (parseMethodDescriptor yX1_allOutings.desc).map (fun d => d.parameters.length) = some 0 := by decide +kernel
set_option maxRecDepth 10000 in
theorem hX1_allOutings_0 (l : Launch) {p : Program} {e : Env} {s : State} {m : MethodId} {args : Array Value} {below : List Frame} {meth : Method} {c : Code} {D : va_G} {ad adV : Nat → Nat} {cA : Nat → ClassId} {K : Kt} (C0 : Cx p s m args meth c D ad adV cA cX1_allOutings 3 RX1) (hr : meth.sig.returnType = (some .int)) : ∀ q ∈ lX1_allOutings, Sd p l e (rmd 0) s m args below meth c (MQ below (QQ D ad cA K) args s 0 0 (AA ad)) D ad cA 3 q.1 (opOf K q.2) := List.forall_mem_cons.mpr ⟨s_iconst C0 dX1_allOutings_0 rfl, List.forall_mem_cons.mpr ⟨s_istore_n C0 dX1_allOutings_1 rfl (by decide), List.forall_mem_cons.mpr ⟨s_iconst C0 dX1_allOutings_2 rfl, List.forall_mem_cons.mpr ⟨s_istore_n C0 dX1_allOutings_3 rfl (by decide), List.forall_mem_cons.mpr ⟨s_iload_n C0 dX1_allOutings_4 rfl, List.forall_mem_cons.mpr ⟨s_aload_n C0 dX1_allOutings_5 rfl, List.forall_mem_cons.mpr ⟨s_get (ci := 1) (k := 0) C0 dX1_allOutings_6 inX1 rfl (by decide) tw1_190, List.forall_mem_cons.mpr ⟨s_get (ci := 9) (k := 4) C0 dX1_allOutings_9 inX9 rfl (by decide) tw1_97, List.forall_mem_cons.mpr ⟨s_icmp_ge C0 dX1_allOutings_12 rfl, List.forall_mem_cons.mpr ⟨s_iload_n C0 dX1_allOutings_15 rfl, List.forall_mem_cons.mpr ⟨s_aload_n C0 dX1_allOutings_16 rfl, List.forall_mem_cons.mpr ⟨s_get (ci := 1) (k := 1) C0 dX1_allOutings_17 inX1 rfl (by decide) tw1_195, List.forall_mem_cons.mpr ⟨s_get (ci := 5) (k := 0) C0 dX1_allOutings_20 inX5 rfl (by decide) tw1_169, List.forall_mem_cons.mpr ⟨s_iload_n C0 dX1_allOutings_23 rfl, List.forall_mem_cons.mpr ⟨s_iald C0 dX1_allOutings_24, List.forall_mem_cons.mpr ⟨s_iadd C0 dX1_allOutings_25, List.forall_mem_cons.mpr ⟨s_istore_n C0 dX1_allOutings_26 rfl (by decide), List.forall_mem_cons.mpr ⟨s_iinc C0 dX1_allOutings_27 rfl (by decide), List.forall_mem_cons.mpr ⟨s_goto C0 dX1_allOutings_30 rfl, List.forall_mem_cons.mpr ⟨s_iload_n C0 dX1_allOutings_33 rfl, List.forall_mem_cons.mpr ⟨s_iret C0 hr dX1_allOutings_34, fun _ h => absurd h List.not_mem_nil⟩⟩⟩⟩⟩⟩⟩⟩⟩⟩⟩⟩⟩⟩⟩⟩⟩⟩⟩⟩⟩
def fX1_allOutings : Mf := mf 3 (fun K => tl K lX1_allOutings)
theorem kX1_allOutings (l : Launch) : Okm l yX1_allOutings cX1_allOutings 3 (some .int) 0 fX1_allOutings := Okm_tl (own := RX1) (by decide +kernel) rfl (fun C0 hr => hX1_allOutings_0 l C0 hr)
theorem dX5_loadOf_0 : decode cX5_loadOf 0 = .ok (.aload_n 0, 1) := by decide +kernel
theorem dX5_loadOf_1 : decode cX5_loadOf 1 = .ok (.getfield 21, 3) := by decide +kernel
theorem dX5_loadOf_4 : decode cX5_loadOf 4 = .ok (.iload_n 1, 1) := by decide +kernel
theorem dX5_loadOf_5 : decode cX5_loadOf 5 = .ok (.bipush 20, 2) := by decide +kernel
theorem dX5_loadOf_7 : decode cX5_loadOf 7 = .ok (.imul, 1) := by decide +kernel
theorem dX5_loadOf_8 : decode cX5_loadOf 8 = .ok (.iload_n 2, 1) := by decide +kernel
theorem dX5_loadOf_9 : decode cX5_loadOf 9 = .ok (.iadd, 1) := by decide +kernel
theorem dX5_loadOf_10 : decode cX5_loadOf 10 = .ok (.iaload, 1) := by decide +kernel
theorem dX5_loadOf_11 : decode cX5_loadOf 11 = .ok (.ireturn, 1) := by decide +kernel
def lX5_loadOf : List (Nat × (Op ⊕ Nat)) := [(0, .inl (o_aload 0 1)), (1, .inl (o_get 5 3 4)), (4, .inl (o_iload 1 5)), (5, .inl (o_pushI (nI 20) 7)), (7, .inl (o_imul 8)), (8, .inl (o_iload 2 9)), (9, .inl (o_iadd 10)), (10, .inl (o_iald 11)), (11, .inr 0)]
theorem qX5_loadOf : yX5_loadOf.cls = RX5 ∧ yX5_loadOf.cls ≠ "java/lang/invoke/MethodHandle" ∧ yX5_loadOf.cls ≠ "java/lang/invoke/VarHandle" ∧ (parseMethodDescriptor yX5_loadOf.desc).map (fun d => d.parameters.length) = some 2 := by decide +kernel
set_option maxRecDepth 10000 in
theorem hX5_loadOf_0 (l : Launch) {p : Program} {e : Env} {s : State} {m : MethodId} {args : Array Value} {below : List Frame} {meth : Method} {c : Code} {D : va_G} {ad adV : Nat → Nat} {cA : Nat → ClassId} {K : Kt} (C0 : Cx p s m args meth c D ad adV cA cX5_loadOf 3 RX5) (hr : meth.sig.returnType = (some .int)) : ∀ q ∈ lX5_loadOf, Sd p l e (rmd 0) s m args below meth c (MQ below (QQ D ad cA K) args s 0 0 (AA ad)) D ad cA 3 q.1 (opOf K q.2) := List.forall_mem_cons.mpr ⟨s_aload_n C0 dX5_loadOf_0 rfl, List.forall_mem_cons.mpr ⟨s_get (ci := 5) (k := 3) C0 dX5_loadOf_1 inX5 rfl (by decide) tw1_174, List.forall_mem_cons.mpr ⟨s_iload_n C0 dX5_loadOf_4 rfl, List.forall_mem_cons.mpr ⟨s_bipush C0 dX5_loadOf_5 (by decide +kernel), List.forall_mem_cons.mpr ⟨s_imul C0 dX5_loadOf_7, List.forall_mem_cons.mpr ⟨s_iload_n C0 dX5_loadOf_8 rfl, List.forall_mem_cons.mpr ⟨s_iadd C0 dX5_loadOf_9, List.forall_mem_cons.mpr ⟨s_iald C0 dX5_loadOf_10, List.forall_mem_cons.mpr ⟨s_iret C0 hr dX5_loadOf_11, fun _ h => absurd h List.not_mem_nil⟩⟩⟩⟩⟩⟩⟩⟩⟩
def fX5_loadOf : Mf := mf 3 (fun K => tl K lX5_loadOf)
theorem kX5_loadOf (l : Launch) : Okm l yX5_loadOf cX5_loadOf 3 (some .int) 0 fX5_loadOf := Okm_tl (own := RX5) (by decide +kernel) rfl (fun C0 hr => hX5_loadOf_0 l C0 hr)
theorem dX1_throwsOfArm_0 : decode cX1_throwsOfArm 0 = .ok (.iconst 0, 1) := by decide +kernel
theorem dX1_throwsOfArm_1 : decode cX1_throwsOfArm 1 = .ok (.istore_n 2, 1) := by decide +kernel
theorem dX1_throwsOfArm_2 : decode cX1_throwsOfArm 2 = .ok (.iconst 0, 1) := by decide +kernel
theorem dX1_throwsOfArm_3 : decode cX1_throwsOfArm 3 = .ok (.istore_n 3, 1) := by decide +kernel
theorem dX1_throwsOfArm_4 : decode cX1_throwsOfArm 4 = .ok (.iload_n 3, 1) := by decide +kernel
theorem dX1_throwsOfArm_5 : decode cX1_throwsOfArm 5 = .ok (.aload_n 0, 1) := by decide +kernel
theorem dX1_throwsOfArm_6 : decode cX1_throwsOfArm 6 = .ok (.getfield 9, 3) := by decide +kernel
theorem dX1_throwsOfArm_9 : decode cX1_throwsOfArm 9 = .ok (.getfield 67, 3) := by decide +kernel
theorem dX1_throwsOfArm_12 : decode cX1_throwsOfArm 12 = .ok (.if_icmp .ge 21, 3) := by decide +kernel
theorem dX1_throwsOfArm_15 : decode cX1_throwsOfArm 15 = .ok (.iload_n 2, 1) := by decide +kernel
theorem dX1_throwsOfArm_16 : decode cX1_throwsOfArm 16 = .ok (.aload_n 0, 1) := by decide +kernel
theorem dX1_throwsOfArm_17 : decode cX1_throwsOfArm 17 = .ok (.getfield 15, 3) := by decide +kernel
theorem dX1_throwsOfArm_20 : decode cX1_throwsOfArm 20 = .ok (.iload_n 1, 1) := by decide +kernel
theorem dX1_throwsOfArm_21 : decode cX1_throwsOfArm 21 = .ok (.iload_n 3, 1) := by decide +kernel
theorem dX1_throwsOfArm_22 : decode cX1_throwsOfArm 22 = .ok (.invokevirtual 71, 3) := by decide +kernel
theorem dX1_throwsOfArm_25 : decode cX1_throwsOfArm 25 = .ok (.iadd, 1) := by decide +kernel
theorem dX1_throwsOfArm_26 : decode cX1_throwsOfArm 26 = .ok (.istore_n 2, 1) := by decide +kernel
theorem dX1_throwsOfArm_27 : decode cX1_throwsOfArm 27 = .ok (.iinc 3 1, 3) := by decide +kernel
theorem dX1_throwsOfArm_30 : decode cX1_throwsOfArm 30 = .ok (.goto (-26), 3) := by decide +kernel
theorem dX1_throwsOfArm_33 : decode cX1_throwsOfArm 33 = .ok (.iload_n 2, 1) := by decide +kernel
theorem dX1_throwsOfArm_34 : decode cX1_throwsOfArm 34 = .ok (.ireturn, 1) := by decide +kernel
def lX1_throwsOfArm : List (Nat × (Op ⊕ Nat)) := [(0, .inl (o_pushI (nI 0) 1)), (1, .inl (o_istore 2 2)), (2, .inl (o_pushI (nI 0) 3)), (3, .inl (o_istore 3 4)), (4, .inl (o_iload 3 5)), (5, .inl (o_aload 0 6)), (6, .inl (o_get 1 0 9)), (9, .inl (o_get 9 4 12)), (12, .inl (o_icmp_ge 33 15)), (15, .inl (o_iload 2 16)), (16, .inl (o_aload 0 17)), (17, .inl (o_get 1 1 20)), (20, .inl (o_iload 1 21)), (21, .inl (o_iload 3 22)), (22, .inl (o_callV fX5_loadOf 2 5 25)), (25, .inl (o_iadd 26)), (26, .inl (o_istore 2 27)), (27, .inl (o_iinc 3 (nI 1) 30)), (30, .inl (o_goto 4)), (33, .inl (o_iload 2 34)), (34, .inr 0)]
theorem qX1_throwsOfArm : yX1_throwsOfArm.cls = RX1 ∧ yX1_throwsOfArm.cls ≠ "java/lang/invoke/MethodHandle" ∧ yX1_throwsOfArm.cls ≠ "java/lang/invoke/VarHandle" ∧ (parseMethodDescriptor yX1_throwsOfArm.desc).map (fun d => d.parameters.length) = some 1 := by decide +kernel
set_option maxRecDepth 10000 in
theorem hX1_throwsOfArm_0 (l : Launch) {p : Program} {e : Env} {s : State} {m : MethodId} {args : Array Value} {below : List Frame} {meth : Method} {c : Code} {D : va_G} {ad adV : Nat → Nat} {cA : Nat → ClassId} {K : Kt} (C0 : Cx p s m args meth c D ad adV cA cX1_throwsOfArm 4 RX1) (hr : meth.sig.returnType = (some .int)) : ∀ q ∈ lX1_throwsOfArm, Sd p l e (rmd 1) s m args below meth c (MQ below (QQ D ad cA K) args s 0 0 (AA ad)) D ad cA 4 q.1 (opOf K q.2) := List.forall_mem_cons.mpr ⟨s_iconst C0 dX1_throwsOfArm_0 rfl, List.forall_mem_cons.mpr ⟨s_istore_n C0 dX1_throwsOfArm_1 rfl (by decide), List.forall_mem_cons.mpr ⟨s_iconst C0 dX1_throwsOfArm_2 rfl, List.forall_mem_cons.mpr ⟨s_istore_n C0 dX1_throwsOfArm_3 rfl (by decide), List.forall_mem_cons.mpr ⟨s_iload_n C0 dX1_throwsOfArm_4 rfl, List.forall_mem_cons.mpr ⟨s_aload_n C0 dX1_throwsOfArm_5 rfl, List.forall_mem_cons.mpr ⟨s_get (ci := 1) (k := 0) C0 dX1_throwsOfArm_6 inX1 rfl (by decide) tw1_190, List.forall_mem_cons.mpr ⟨s_get (ci := 9) (k := 4) C0 dX1_throwsOfArm_9 inX9 rfl (by decide) tw1_97, List.forall_mem_cons.mpr ⟨s_icmp_ge C0 dX1_throwsOfArm_12 rfl, List.forall_mem_cons.mpr ⟨s_iload_n C0 dX1_throwsOfArm_15 rfl, List.forall_mem_cons.mpr ⟨s_aload_n C0 dX1_throwsOfArm_16 rfl, List.forall_mem_cons.mpr ⟨s_get (ci := 1) (k := 1) C0 dX1_throwsOfArm_17 inX1 rfl (by decide) tw1_195, List.forall_mem_cons.mpr ⟨s_iload_n C0 dX1_throwsOfArm_20 rfl, List.forall_mem_cons.mpr ⟨s_iload_n C0 dX1_throwsOfArm_21 rfl, List.forall_mem_cons.mpr ⟨s_callV (ci := 5) C0 (kX5_loadOf l) dX1_throwsOfArm_22 rfl qX5_loadOf tw3_184 tw3_185 tw3_186 tw1_5 tw3_187 rfl (by decide) (by decide), List.forall_mem_cons.mpr ⟨s_iadd C0 dX1_throwsOfArm_25, List.forall_mem_cons.mpr ⟨s_istore_n C0 dX1_throwsOfArm_26 rfl (by decide), List.forall_mem_cons.mpr ⟨s_iinc C0 dX1_throwsOfArm_27 rfl (by decide), List.forall_mem_cons.mpr ⟨s_goto C0 dX1_throwsOfArm_30 rfl, List.forall_mem_cons.mpr ⟨s_iload_n C0 dX1_throwsOfArm_33 rfl, List.forall_mem_cons.mpr ⟨s_iret C0 hr dX1_throwsOfArm_34, fun _ h => absurd h List.not_mem_nil⟩⟩⟩⟩⟩⟩⟩⟩⟩⟩⟩⟩⟩⟩⟩⟩⟩⟩⟩⟩⟩
def fX1_throwsOfArm : Mf := mf 4 (fun K => tl K lX1_throwsOfArm)
theorem kX1_throwsOfArm (l : Launch) : Okm l yX1_throwsOfArm cX1_throwsOfArm 4 (some .int) 1 fX1_throwsOfArm := Okm_tl (own := RX1) (by decide +kernel) rfl (fun C0 hr => hX1_throwsOfArm_0 l C0 hr)
theorem dX5_has_0 : decode cX5_has 0 = .ok (.aload_n 0, 1) := by decide +kernel
theorem dX5_has_1 : decode cX5_has 1 = .ok (.iload_n 1, 1) := by decide +kernel
theorem dX5_has_2 : decode cX5_has 2 = .ok (.iload_n 2, 1) := by decide +kernel
theorem dX5_has_3 : decode cX5_has 3 = .ok (.invokevirtual 24, 3) := by decide +kernel
theorem dX5_has_6 : decode cX5_has 6 = .ok (.ifCond .le 7, 3) := by decide +kernel
theorem dX5_has_9 : decode cX5_has 9 = .ok (.iconst 1, 1) := by decide +kernel
theorem dX5_has_10 : decode cX5_has 10 = .ok (.goto 4, 3) := by decide +kernel
theorem dX5_has_13 : decode cX5_has 13 = .ok (.iconst 0, 1) := by decide +kernel
theorem dX5_has_14 : decode cX5_has 14 = .ok (.ireturn, 1) := by decide +kernel
def lX5_has : List (Nat × (Op ⊕ Nat)) := [(0, .inl (o_aload 0 1)), (1, .inl (o_iload 1 2)), (2, .inl (o_iload 2 3)), (3, .inl (o_callV fX5_loadOf 2 5 6)), (6, .inl (o_if_le 13 9)), (9, .inl (o_pushI (nI 1) 10)), (10, .inl (o_goto 14)), (13, .inl (o_pushI (nI 0) 14)), (14, .inr 1)]
theorem qX5_has : yX5_has.cls = RX5 ∧ yX5_has.cls ≠ "java/lang/invoke/MethodHandle" ∧ yX5_has.cls ≠ "java/lang/invoke/VarHandle" ∧ (parseMethodDescriptor yX5_has.desc).map (fun d => d.parameters.length) = some 2 := by decide +kernel
set_option maxRecDepth 10000 in
theorem hX5_has_0 (l : Launch) {p : Program} {e : Env} {s : State} {m : MethodId} {args : Array Value} {below : List Frame} {meth : Method} {c : Code} {D : va_G} {ad adV : Nat → Nat} {cA : Nat → ClassId} {K : Kt} (C0 : Cx p s m args meth c D ad adV cA cX5_has 3 RX5) (hr : meth.sig.returnType = (some .boolean)) : ∀ q ∈ lX5_has, Sd p l e (rmd 1) s m args below meth c (MQ below (QQ D ad cA K) args s 0 0 (AA ad)) D ad cA 3 q.1 (opOf K q.2) := List.forall_mem_cons.mpr ⟨s_aload_n C0 dX5_has_0 rfl, List.forall_mem_cons.mpr ⟨s_iload_n C0 dX5_has_1 rfl, List.forall_mem_cons.mpr ⟨s_iload_n C0 dX5_has_2 rfl, List.forall_mem_cons.mpr ⟨s_callV (ci := 5) C0 (kX5_loadOf l) dX5_has_3 rfl qX5_loadOf tw3_196 tw3_185 tw3_186 tw1_5 tw3_187 rfl (by decide) (by decide), List.forall_mem_cons.mpr ⟨s_if_le C0 dX5_has_6 rfl, List.forall_mem_cons.mpr ⟨s_iconst C0 dX5_has_9 rfl, List.forall_mem_cons.mpr ⟨s_goto C0 dX5_has_10 rfl, List.forall_mem_cons.mpr ⟨s_iconst C0 dX5_has_13 rfl, List.forall_mem_cons.mpr ⟨s_zret C0 hr dX5_has_14, fun _ h => absurd h List.not_mem_nil⟩⟩⟩⟩⟩⟩⟩⟩⟩
def fX5_has : Mf := mf 3 (fun K => tl K lX5_has)
theorem kX5_has (l : Launch) : Okm l yX5_has cX5_has 3 (some .boolean) 1 fX5_has := Okm_tl (own := RX5) (by decide +kernel) rfl (fun C0 hr => hX5_has_0 l C0 hr)
theorem dX1_outingsOfArm_0 : decode cX1_outingsOfArm 0 = .ok (.iconst 0, 1) := by decide +kernel
theorem dX1_outingsOfArm_1 : decode cX1_outingsOfArm 1 = .ok (.istore_n 2, 1) := by decide +kernel
theorem dX1_outingsOfArm_2 : decode cX1_outingsOfArm 2 = .ok (.iconst 0, 1) := by decide +kernel
theorem dX1_outingsOfArm_3 : decode cX1_outingsOfArm 3 = .ok (.istore_n 3, 1) := by decide +kernel
theorem dX1_outingsOfArm_4 : decode cX1_outingsOfArm 4 = .ok (.iload_n 3, 1) := by decide +kernel
theorem dX1_outingsOfArm_5 : decode cX1_outingsOfArm 5 = .ok (.aload_n 0, 1) := by decide +kernel
theorem dX1_outingsOfArm_6 : decode cX1_outingsOfArm 6 = .ok (.getfield 9, 3) := by decide +kernel
theorem dX1_outingsOfArm_9 : decode cX1_outingsOfArm 9 = .ok (.getfield 67, 3) := by decide +kernel
theorem dX1_outingsOfArm_12 : decode cX1_outingsOfArm 12 = .ok (.if_icmp .ge 29, 3) := by decide +kernel
theorem dX1_outingsOfArm_15 : decode cX1_outingsOfArm 15 = .ok (.iload_n 2, 1) := by decide +kernel
theorem dX1_outingsOfArm_16 : decode cX1_outingsOfArm 16 = .ok (.aload_n 0, 1) := by decide +kernel
theorem dX1_outingsOfArm_17 : decode cX1_outingsOfArm 17 = .ok (.getfield 15, 3) := by decide +kernel
theorem dX1_outingsOfArm_20 : decode cX1_outingsOfArm 20 = .ok (.iload_n 1, 1) := by decide +kernel
theorem dX1_outingsOfArm_21 : decode cX1_outingsOfArm 21 = .ok (.iload_n 3, 1) := by decide +kernel
theorem dX1_outingsOfArm_22 : decode cX1_outingsOfArm 22 = .ok (.invokevirtual 74, 3) := by decide +kernel
theorem dX1_outingsOfArm_25 : decode cX1_outingsOfArm 25 = .ok (.ifCond .eq 7, 3) := by decide +kernel
theorem dX1_outingsOfArm_28 : decode cX1_outingsOfArm 28 = .ok (.iconst 1, 1) := by decide +kernel
theorem dX1_outingsOfArm_29 : decode cX1_outingsOfArm 29 = .ok (.goto 4, 3) := by decide +kernel
theorem dX1_outingsOfArm_32 : decode cX1_outingsOfArm 32 = .ok (.iconst 0, 1) := by decide +kernel
theorem dX1_outingsOfArm_33 : decode cX1_outingsOfArm 33 = .ok (.iadd, 1) := by decide +kernel
theorem dX1_outingsOfArm_34 : decode cX1_outingsOfArm 34 = .ok (.istore_n 2, 1) := by decide +kernel
theorem dX1_outingsOfArm_35 : decode cX1_outingsOfArm 35 = .ok (.iinc 3 1, 3) := by decide +kernel
theorem dX1_outingsOfArm_38 : decode cX1_outingsOfArm 38 = .ok (.goto (-34), 3) := by decide +kernel
theorem dX1_outingsOfArm_41 : decode cX1_outingsOfArm 41 = .ok (.iload_n 2, 1) := by decide +kernel
theorem dX1_outingsOfArm_42 : decode cX1_outingsOfArm 42 = .ok (.ireturn, 1) := by decide +kernel
def lX1_outingsOfArm : List (Nat × (Op ⊕ Nat)) := [(0, .inl (o_pushI (nI 0) 1)), (1, .inl (o_istore 2 2)), (2, .inl (o_pushI (nI 0) 3)), (3, .inl (o_istore 3 4)), (4, .inl (o_iload 3 5)), (5, .inl (o_aload 0 6)), (6, .inl (o_get 1 0 9)), (9, .inl (o_get 9 4 12)), (12, .inl (o_icmp_ge 41 15)), (15, .inl (o_iload 2 16)), (16, .inl (o_aload 0 17)), (17, .inl (o_get 1 1 20)), (20, .inl (o_iload 1 21)), (21, .inl (o_iload 3 22)), (22, .inl (o_callV fX5_has 2 5 25)), (25, .inl (o_if_eq 32 28)), (28, .inl (o_pushI (nI 1) 29)), (29, .inl (o_goto 33)), (32, .inl (o_pushI (nI 0) 33)), (33, .inl (o_iadd 34)), (34, .inl (o_istore 2 35)), (35, .inl (o_iinc 3 (nI 1) 38)), (38, .inl (o_goto 4)), (41, .inl (o_iload 2 42)), (42, .inr 0)]
theorem qX1_outingsOfArm : yX1_outingsOfArm.cls = RX1 ∧ yX1_outingsOfArm.cls ≠ "java/lang/invoke/MethodHandle" ∧ yX1_outingsOfArm.cls ≠ "java/lang/invoke/VarHandle" ∧ (parseMethodDescriptor yX1_outingsOfArm.desc).map (fun d => d.parameters.length) = some 1 := by decide +kernel
set_option maxRecDepth 10000 in
theorem hX1_outingsOfArm_0 (l : Launch) {p : Program} {e : Env} {s : State} {m : MethodId} {args : Array Value} {below : List Frame} {meth : Method} {c : Code} {D : va_G} {ad adV : Nat → Nat} {cA : Nat → ClassId} {K : Kt} (C0 : Cx p s m args meth c D ad adV cA cX1_outingsOfArm 4 RX1) (hr : meth.sig.returnType = (some .int)) : ∀ q ∈ lX1_outingsOfArm, Sd p l e (rmd 2) s m args below meth c (MQ below (QQ D ad cA K) args s 0 0 (AA ad)) D ad cA 4 q.1 (opOf K q.2) := List.forall_mem_cons.mpr ⟨s_iconst C0 dX1_outingsOfArm_0 rfl, List.forall_mem_cons.mpr ⟨s_istore_n C0 dX1_outingsOfArm_1 rfl (by decide), List.forall_mem_cons.mpr ⟨s_iconst C0 dX1_outingsOfArm_2 rfl, List.forall_mem_cons.mpr ⟨s_istore_n C0 dX1_outingsOfArm_3 rfl (by decide), List.forall_mem_cons.mpr ⟨s_iload_n C0 dX1_outingsOfArm_4 rfl, List.forall_mem_cons.mpr ⟨s_aload_n C0 dX1_outingsOfArm_5 rfl, List.forall_mem_cons.mpr ⟨s_get (ci := 1) (k := 0) C0 dX1_outingsOfArm_6 inX1 rfl (by decide) tw1_190, List.forall_mem_cons.mpr ⟨s_get (ci := 9) (k := 4) C0 dX1_outingsOfArm_9 inX9 rfl (by decide) tw1_97, List.forall_mem_cons.mpr ⟨s_icmp_ge C0 dX1_outingsOfArm_12 rfl, List.forall_mem_cons.mpr ⟨s_iload_n C0 dX1_outingsOfArm_15 rfl, List.forall_mem_cons.mpr ⟨s_aload_n C0 dX1_outingsOfArm_16 rfl, List.forall_mem_cons.mpr ⟨s_get (ci := 1) (k := 1) C0 dX1_outingsOfArm_17 inX1 rfl (by decide) tw1_195, List.forall_mem_cons.mpr ⟨s_iload_n C0 dX1_outingsOfArm_20 rfl, List.forall_mem_cons.mpr ⟨s_iload_n C0 dX1_outingsOfArm_21 rfl, List.forall_mem_cons.mpr ⟨s_callV (ci := 5) C0 (kX5_has l) dX1_outingsOfArm_22 rfl qX5_has tw3_192 tw3_193 tw3_194 tw1_5 tw3_195 rfl (by decide) (by decide), List.forall_mem_cons.mpr ⟨s_if_eq C0 dX1_outingsOfArm_25 rfl, List.forall_mem_cons.mpr ⟨s_iconst C0 dX1_outingsOfArm_28 rfl, List.forall_mem_cons.mpr ⟨s_goto C0 dX1_outingsOfArm_29 rfl, List.forall_mem_cons.mpr ⟨s_iconst C0 dX1_outingsOfArm_32 rfl, List.forall_mem_cons.mpr ⟨s_iadd C0 dX1_outingsOfArm_33, List.forall_mem_cons.mpr ⟨s_istore_n C0 dX1_outingsOfArm_34 rfl (by decide), List.forall_mem_cons.mpr ⟨s_iinc C0 dX1_outingsOfArm_35 rfl (by decide), List.forall_mem_cons.mpr ⟨s_goto C0 dX1_outingsOfArm_38 rfl, List.forall_mem_cons.mpr ⟨s_iload_n C0 dX1_outingsOfArm_41 rfl, List.forall_mem_cons.mpr ⟨s_iret C0 hr dX1_outingsOfArm_42, fun _ h => absurd h List.not_mem_nil⟩⟩⟩⟩⟩⟩⟩⟩⟩⟩⟩⟩⟩⟩⟩⟩⟩⟩⟩⟩⟩⟩⟩⟩⟩
def fX1_outingsOfArm : Mf := mf 4 (fun K => tl K lX1_outingsOfArm)
theorem kX1_outingsOfArm (l : Launch) : Okm l yX1_outingsOfArm cX1_outingsOfArm 4 (some .int) 2 fX1_outingsOfArm := Okm_tl (own := RX1) (by decide +kernel) rfl (fun C0 hr => hX1_outingsOfArm_0 l C0 hr)
theorem dX1_valueOfArm_0 : decode cX1_valueOfArm 0 = .ok (.iconst 0, 1) := by decide +kernel
theorem dX1_valueOfArm_1 : decode cX1_valueOfArm 1 = .ok (.istore_n 2, 1) := by decide +kernel
theorem dX1_valueOfArm_2 : decode cX1_valueOfArm 2 = .ok (.iconst 0, 1) := by decide +kernel
theorem dX1_valueOfArm_3 : decode cX1_valueOfArm 3 = .ok (.istore_n 3, 1) := by decide +kernel
theorem dX1_valueOfArm_4 : decode cX1_valueOfArm 4 = .ok (.iload_n 3, 1) := by decide +kernel
theorem dX1_valueOfArm_5 : decode cX1_valueOfArm 5 = .ok (.aload_n 0, 1) := by decide +kernel
theorem dX1_valueOfArm_6 : decode cX1_valueOfArm 6 = .ok (.getfield 9, 3) := by decide +kernel
theorem dX1_valueOfArm_9 : decode cX1_valueOfArm 9 = .ok (.getfield 67, 3) := by decide +kernel
theorem dX1_valueOfArm_12 : decode cX1_valueOfArm 12 = .ok (.if_icmp .ge 27, 3) := by decide +kernel
theorem dX1_valueOfArm_15 : decode cX1_valueOfArm 15 = .ok (.iload_n 2, 1) := by decide +kernel
theorem dX1_valueOfArm_16 : decode cX1_valueOfArm 16 = .ok (.aload_n 0, 1) := by decide +kernel
theorem dX1_valueOfArm_17 : decode cX1_valueOfArm 17 = .ok (.iload_n 1, 1) := by decide +kernel
theorem dX1_valueOfArm_18 : decode cX1_valueOfArm 18 = .ok (.iload_n 3, 1) := by decide +kernel
theorem dX1_valueOfArm_19 : decode cX1_valueOfArm 19 = .ok (.aload_n 0, 1) := by decide +kernel
theorem dX1_valueOfArm_20 : decode cX1_valueOfArm 20 = .ok (.getfield 15, 3) := by decide +kernel
theorem dX1_valueOfArm_23 : decode cX1_valueOfArm 23 = .ok (.iload_n 1, 1) := by decide +kernel
theorem dX1_valueOfArm_24 : decode cX1_valueOfArm 24 = .ok (.iload_n 3, 1) := by decide +kernel
theorem dX1_valueOfArm_25 : decode cX1_valueOfArm 25 = .ok (.invokevirtual 71, 3) := by decide +kernel
theorem dX1_valueOfArm_28 : decode cX1_valueOfArm 28 = .ok (.invokevirtual 54, 3) := by decide +kernel
theorem dX1_valueOfArm_31 : decode cX1_valueOfArm 31 = .ok (.iadd, 1) := by decide +kernel
theorem dX1_valueOfArm_32 : decode cX1_valueOfArm 32 = .ok (.istore_n 2, 1) := by decide +kernel
theorem dX1_valueOfArm_33 : decode cX1_valueOfArm 33 = .ok (.iinc 3 1, 3) := by decide +kernel
theorem dX1_valueOfArm_36 : decode cX1_valueOfArm 36 = .ok (.goto (-32), 3) := by decide +kernel
theorem dX1_valueOfArm_39 : decode cX1_valueOfArm 39 = .ok (.iload_n 2, 1) := by decide +kernel
theorem dX1_valueOfArm_40 : decode cX1_valueOfArm 40 = .ok (.ireturn, 1) := by decide +kernel
def lX1_valueOfArm : List (Nat × (Op ⊕ Nat)) := [(0, .inl (o_pushI (nI 0) 1)), (1, .inl (o_istore 2 2)), (2, .inl (o_pushI (nI 0) 3)), (3, .inl (o_istore 3 4)), (4, .inl (o_iload 3 5)), (5, .inl (o_aload 0 6)), (6, .inl (o_get 1 0 9)), (9, .inl (o_get 9 4 12)), (12, .inl (o_icmp_ge 39 15)), (15, .inl (o_iload 2 16)), (16, .inl (o_aload 0 17)), (17, .inl (o_iload 1 18)), (18, .inl (o_iload 3 19)), (19, .inl (o_aload 0 20)), (20, .inl (o_get 1 1 23)), (23, .inl (o_iload 1 24)), (24, .inl (o_iload 3 25)), (25, .inl (o_callV fX5_loadOf 2 5 28)), (28, .inl (o_callV fX1_valueOf 3 1 31)), (31, .inl (o_iadd 32)), (32, .inl (o_istore 2 33)), (33, .inl (o_iinc 3 (nI 1) 36)), (36, .inl (o_goto 4)), (39, .inl (o_iload 2 40)), (40, .inr 0)]
theorem qX1_valueOfArm : yX1_valueOfArm.cls = RX1 ∧ yX1_valueOfArm.cls ≠ "java/lang/invoke/MethodHandle" ∧ yX1_valueOfArm.cls ≠ "java/lang/invoke/VarHandle" ∧ (parseMethodDescriptor yX1_valueOfArm.desc).map (fun d => d.parameters.length) = some 1 := by decide +kernel
set_option maxRecDepth 10000 in
theorem hX1_valueOfArm_0 (l : Launch) {p : Program} {e : Env} {s : State} {m : MethodId} {args : Array Value} {below : List Frame} {meth : Method} {c : Code} {D : va_G} {ad adV : Nat → Nat} {cA : Nat → ClassId} {K : Kt} (C0 : Cx p s m args meth c D ad adV cA cX1_valueOfArm 4 RX1) (hr : meth.sig.returnType = (some .int)) : ∀ q ∈ lX1_valueOfArm, Sd p l e (rmd 3) s m args below meth c (MQ below (QQ D ad cA K) args s 0 0 (AA ad)) D ad cA 4 q.1 (opOf K q.2) := List.forall_mem_cons.mpr ⟨s_iconst C0 dX1_valueOfArm_0 rfl, List.forall_mem_cons.mpr ⟨s_istore_n C0 dX1_valueOfArm_1 rfl (by decide), List.forall_mem_cons.mpr ⟨s_iconst C0 dX1_valueOfArm_2 rfl, List.forall_mem_cons.mpr ⟨s_istore_n C0 dX1_valueOfArm_3 rfl (by decide), List.forall_mem_cons.mpr ⟨s_iload_n C0 dX1_valueOfArm_4 rfl, List.forall_mem_cons.mpr ⟨s_aload_n C0 dX1_valueOfArm_5 rfl, List.forall_mem_cons.mpr ⟨s_get (ci := 1) (k := 0) C0 dX1_valueOfArm_6 inX1 rfl (by decide) tw1_190, List.forall_mem_cons.mpr ⟨s_get (ci := 9) (k := 4) C0 dX1_valueOfArm_9 inX9 rfl (by decide) tw1_97, List.forall_mem_cons.mpr ⟨s_icmp_ge C0 dX1_valueOfArm_12 rfl, List.forall_mem_cons.mpr ⟨s_iload_n C0 dX1_valueOfArm_15 rfl, List.forall_mem_cons.mpr ⟨s_aload_n C0 dX1_valueOfArm_16 rfl, List.forall_mem_cons.mpr ⟨s_iload_n C0 dX1_valueOfArm_17 rfl, List.forall_mem_cons.mpr ⟨s_iload_n C0 dX1_valueOfArm_18 rfl, List.forall_mem_cons.mpr ⟨s_aload_n C0 dX1_valueOfArm_19 rfl, List.forall_mem_cons.mpr ⟨s_get (ci := 1) (k := 1) C0 dX1_valueOfArm_20 inX1 rfl (by decide) tw1_195, List.forall_mem_cons.mpr ⟨s_iload_n C0 dX1_valueOfArm_23 rfl, List.forall_mem_cons.mpr ⟨s_iload_n C0 dX1_valueOfArm_24 rfl, List.forall_mem_cons.mpr ⟨s_callV (ci := 5) C0 (kX5_loadOf l) dX1_valueOfArm_25 rfl qX5_loadOf tw3_184 tw3_185 tw3_186 tw1_5 tw3_187 rfl (by decide) (by decide), List.forall_mem_cons.mpr ⟨s_callV (ci := 1) C0 (kX1_valueOf l) dX1_valueOfArm_28 rfl qX1_valueOf tw3_201 tw3_202 tw3_203 tw1_6 tw3_204 rfl (by decide) (by decide), List.forall_mem_cons.mpr ⟨s_iadd C0 dX1_valueOfArm_31, List.forall_mem_cons.mpr ⟨s_istore_n C0 dX1_valueOfArm_32 rfl (by decide), List.forall_mem_cons.mpr ⟨s_iinc C0 dX1_valueOfArm_33 rfl (by decide), List.forall_mem_cons.mpr ⟨s_goto C0 dX1_valueOfArm_36 rfl, List.forall_mem_cons.mpr ⟨s_iload_n C0 dX1_valueOfArm_39 rfl, List.forall_mem_cons.mpr ⟨s_iret C0 hr dX1_valueOfArm_40, fun _ h => absurd h List.not_mem_nil⟩⟩⟩⟩⟩⟩⟩⟩⟩⟩⟩⟩⟩⟩⟩⟩⟩⟩⟩⟩⟩⟩⟩⟩⟩
def fX1_valueOfArm : Mf := mf 4 (fun K => tl K lX1_valueOfArm)
theorem kX1_valueOfArm (l : Launch) : Okm l yX1_valueOfArm cX1_valueOfArm 4 (some .int) 3 fX1_valueOfArm := Okm_tl (own := RX1) (by decide +kernel) rfl (fun C0 hr => hX1_valueOfArm_0 l C0 hr)
theorem dX10_within_0 : decode cX10_within 0 = .ok (.iload_n 0, 1) := by decide +kernel
theorem dX10_within_1 : decode cX10_within 1 = .ok (.iload_n 1, 1) := by decide +kernel
theorem dX10_within_2 : decode cX10_within 2 = .ok (.if_icmp .lt 12, 3) := by decide +kernel
theorem dX10_within_5 : decode cX10_within 5 = .ok (.iload_n 0, 1) := by decide +kernel
theorem dX10_within_6 : decode cX10_within 6 = .ok (.iload_n 2, 1) := by decide +kernel
theorem dX10_within_7 : decode cX10_within 7 = .ok (.if_icmp .gt 7, 3) := by decide +kernel
theorem dX10_within_10 : decode cX10_within 10 = .ok (.iconst 1, 1) := by decide +kernel
theorem dX10_within_11 : decode cX10_within 11 = .ok (.goto 4, 3) := by decide +kernel
theorem dX10_within_14 : decode cX10_within 14 = .ok (.iconst 0, 1) := by decide +kernel
theorem dX10_within_15 : decode cX10_within 15 = .ok (.ireturn, 1) := by decide +kernel
def lX10_within : List (Nat × (Op ⊕ Nat)) := [(0, .inl (o_iload 0 1)), (1, .inl (o_iload 1 2)), (2, .inl (o_icmp_lt 14 5)), (5, .inl (o_iload 0 6)), (6, .inl (o_iload 2 7)), (7, .inl (o_icmp_gt 14 10)), (10, .inl (o_pushI (nI 1) 11)), (11, .inl (o_goto 15)), (14, .inl (o_pushI (nI 0) 15)), (15, .inr 1)]
theorem qX10_within : yX10_within.cls ≠ "java/lang/invoke/MethodHandle" ∧ yX10_within.cls ≠ "java/lang/invoke/VarHandle" ∧ (parseMethodDescriptor yX10_within.desc).map (fun d => d.parameters.length) = some 3 := by decide +kernel
set_option maxRecDepth 10000 in
theorem hX10_within_0 (l : Launch) {p : Program} {e : Env} {s : State} {m : MethodId} {args : Array Value} {below : List Frame} {meth : Method} {c : Code} {D : va_G} {ad adV : Nat → Nat} {cA : Nat → ClassId} {K : Kt} (C0 : Cx p s m args meth c D ad adV cA cX10_within 3 RX10) (hr : meth.sig.returnType = (some .boolean)) : ∀ q ∈ lX10_within, Sd p l e (rmd 0) s m args below meth c (MQ below (QQ D ad cA K) args s 0 0 (AA ad)) D ad cA 3 q.1 (opOf K q.2) := List.forall_mem_cons.mpr ⟨s_iload_n C0 dX10_within_0 rfl, List.forall_mem_cons.mpr ⟨s_iload_n C0 dX10_within_1 rfl, List.forall_mem_cons.mpr ⟨s_icmp_lt C0 dX10_within_2 rfl, List.forall_mem_cons.mpr ⟨s_iload_n C0 dX10_within_5 rfl, List.forall_mem_cons.mpr ⟨s_iload_n C0 dX10_within_6 rfl, List.forall_mem_cons.mpr ⟨s_icmp_gt C0 dX10_within_7 rfl, List.forall_mem_cons.mpr ⟨s_iconst C0 dX10_within_10 rfl, List.forall_mem_cons.mpr ⟨s_goto C0 dX10_within_11 rfl, List.forall_mem_cons.mpr ⟨s_iconst C0 dX10_within_14 rfl, List.forall_mem_cons.mpr ⟨s_zret C0 hr dX10_within_15, fun _ h => absurd h List.not_mem_nil⟩⟩⟩⟩⟩⟩⟩⟩⟩⟩
def fX10_within : Mf := mf 3 (fun K => tl K lX10_within)
theorem kX10_within (l : Launch) : Okm l yX10_within cX10_within 3 (some .boolean) 0 fX10_within := Okm_tl (own := RX10) (by decide +kernel) rfl (fun C0 hr => hX10_within_0 l C0 hr)
theorem dX1_weekOfArm_0 : decode cX1_weekOfArm 0 = .ok (.iconst 0, 1) := by decide +kernel
theorem dX1_weekOfArm_1 : decode cX1_weekOfArm 1 = .ok (.istore_n 3, 1) := by decide +kernel
theorem dX1_weekOfArm_2 : decode cX1_weekOfArm 2 = .ok (.iconst 0, 1) := by decide +kernel
theorem dX1_weekOfArm_3 : decode cX1_weekOfArm 3 = .ok (.istore 4, 2) := by decide +kernel
theorem dX1_weekOfArm_5 : decode cX1_weekOfArm 5 = .ok (.iload 4, 2) := by decide +kernel
theorem dX1_weekOfArm_7 : decode cX1_weekOfArm 7 = .ok (.aload_n 0, 1) := by decide +kernel
theorem dX1_weekOfArm_8 : decode cX1_weekOfArm 8 = .ok (.getfield 9, 3) := by decide +kernel
theorem dX1_weekOfArm_11 : decode cX1_weekOfArm 11 = .ok (.getfield 67, 3) := by decide +kernel
theorem dX1_weekOfArm_14 : decode cX1_weekOfArm 14 = .ok (.if_icmp .ge 45, 3) := by decide +kernel
theorem dX1_weekOfArm_17 : decode cX1_weekOfArm 17 = .ok (.aload_n 0, 1) := by decide +kernel
theorem dX1_weekOfArm_18 : decode cX1_weekOfArm 18 = .ok (.getfield 9, 3) := by decide +kernel
theorem dX1_weekOfArm_21 : decode cX1_weekOfArm 21 = .ok (.iload 4, 2) := by decide +kernel
theorem dX1_weekOfArm_23 : decode cX1_weekOfArm 23 = .ok (.iconst 0, 1) := by decide +kernel
theorem dX1_weekOfArm_24 : decode cX1_weekOfArm 24 = .ok (.invokevirtual 19, 3) := by decide +kernel
theorem dX1_weekOfArm_27 : decode cX1_weekOfArm 27 = .ok (.iload_n 2, 1) := by decide +kernel
theorem dX1_weekOfArm_28 : decode cX1_weekOfArm 28 = .ok (.bipush 7, 2) := by decide +kernel
theorem dX1_weekOfArm_30 : decode cX1_weekOfArm 30 = .ok (.isub, 1) := by decide +kernel
theorem dX1_weekOfArm_31 : decode cX1_weekOfArm 31 = .ok (.iconst 1, 1) := by decide +kernel
theorem dX1_weekOfArm_32 : decode cX1_weekOfArm 32 = .ok (.iadd, 1) := by decide +kernel
theorem dX1_weekOfArm_33 : decode cX1_weekOfArm 33 = .ok (.iload_n 2, 1) := by decide +kernel
theorem dX1_weekOfArm_34 : decode cX1_weekOfArm 34 = .ok (.invokestatic 78, 3) := by decide +kernel
theorem dX1_weekOfArm_37 : decode cX1_weekOfArm 37 = .ok (.ifCond .eq 16, 3) := by decide +kernel
theorem dX1_weekOfArm_40 : decode cX1_weekOfArm 40 = .ok (.iload_n 3, 1) := by decide +kernel
theorem dX1_weekOfArm_41 : decode cX1_weekOfArm 41 = .ok (.aload_n 0, 1) := by decide +kernel
theorem dX1_weekOfArm_42 : decode cX1_weekOfArm 42 = .ok (.getfield 15, 3) := by decide +kernel
theorem dX1_weekOfArm_45 : decode cX1_weekOfArm 45 = .ok (.iload_n 1, 1) := by decide +kernel
theorem dX1_weekOfArm_46 : decode cX1_weekOfArm 46 = .ok (.iload 4, 2) := by decide +kernel
theorem dX1_weekOfArm_48 : decode cX1_weekOfArm 48 = .ok (.invokevirtual 71, 3) := by decide +kernel
theorem dX1_weekOfArm_51 : decode cX1_weekOfArm 51 = .ok (.iadd, 1) := by decide +kernel
theorem dX1_weekOfArm_52 : decode cX1_weekOfArm 52 = .ok (.istore_n 3, 1) := by decide +kernel
theorem dX1_weekOfArm_53 : decode cX1_weekOfArm 53 = .ok (.iinc 4 1, 3) := by decide +kernel
theorem dX1_weekOfArm_56 : decode cX1_weekOfArm 56 = .ok (.goto (-51), 3) := by decide +kernel
theorem dX1_weekOfArm_59 : decode cX1_weekOfArm 59 = .ok (.iload_n 3, 1) := by decide +kernel
theorem dX1_weekOfArm_60 : decode cX1_weekOfArm 60 = .ok (.ireturn, 1) := by decide +kernel
def lX1_weekOfArm : List (Nat × (Op ⊕ Nat)) := [(0, .inl (o_pushI (nI 0) 1)), (1, .inl (o_istore 3 2)), (2, .inl (o_pushI (nI 0) 3)), (3, .inl (o_istore 4 5)), (5, .inl (o_iload 4 7)), (7, .inl (o_aload 0 8)), (8, .inl (o_get 1 0 11)), (11, .inl (o_get 9 4 14)), (14, .inl (o_icmp_ge 59 17)), (17, .inl (o_aload 0 18)), (18, .inl (o_get 1 0 21)), (21, .inl (o_iload 4 23)), (23, .inl (o_pushI (nI 0) 24)), (24, .inl (o_callV fX9_fact 2 9 27)), (27, .inl (o_iload 2 28)), (28, .inl (o_pushI (nI 7) 30)), (30, .inl (o_isub 31)), (31, .inl (o_pushI (nI 1) 32)), (32, .inl (o_iadd 33)), (33, .inl (o_iload 2 34)), (34, .inl (o_callS fX10_within 3 37)), (37, .inl (o_if_eq 53 40)), (40, .inl (o_iload 3 41)), (41, .inl (o_aload 0 42)), (42, .inl (o_get 1 1 45)), (45, .inl (o_iload 1 46)), (46, .inl (o_iload 4 48)), (48, .inl (o_callV fX5_loadOf 2 5 51)), (51, .inl (o_iadd 52)), (52, .inl (o_istore 3 53)), (53, .inl (o_iinc 4 (nI 1) 56)), (56, .inl (o_goto 5)), (59, .inl (o_iload 3 60)), (60, .inr 0)]
theorem qX1_weekOfArm : yX1_weekOfArm.cls = RX1 ∧ yX1_weekOfArm.cls ≠ "java/lang/invoke/MethodHandle" ∧ yX1_weekOfArm.cls ≠ "java/lang/invoke/VarHandle" ∧ (parseMethodDescriptor yX1_weekOfArm.desc).map (fun d => d.parameters.length) = some 2 := by decide +kernel
set_option maxRecDepth 10000 in
theorem hX1_weekOfArm_0 (l : Launch) {p : Program} {e : Env} {s : State} {m : MethodId} {args : Array Value} {below : List Frame} {meth : Method} {c : Code} {D : va_G} {ad adV : Nat → Nat} {cA : Nat → ClassId} {K : Kt} (C0 : Cx p s m args meth c D ad adV cA cX1_weekOfArm 5 RX1) (hr : meth.sig.returnType = (some .int)) : ∀ q ∈ lX1_weekOfArm, Sd p l e (rmd 1) s m args below meth c (MQ below (QQ D ad cA K) args s 0 0 (AA ad)) D ad cA 5 q.1 (opOf K q.2) := List.forall_mem_cons.mpr ⟨s_iconst C0 dX1_weekOfArm_0 rfl, List.forall_mem_cons.mpr ⟨s_istore_n C0 dX1_weekOfArm_1 rfl (by decide), List.forall_mem_cons.mpr ⟨s_iconst C0 dX1_weekOfArm_2 rfl, List.forall_mem_cons.mpr ⟨s_istore C0 dX1_weekOfArm_3 (by decide), List.forall_mem_cons.mpr ⟨s_iload C0 dX1_weekOfArm_5, List.forall_mem_cons.mpr ⟨s_aload_n C0 dX1_weekOfArm_7 rfl, List.forall_mem_cons.mpr ⟨s_get (ci := 1) (k := 0) C0 dX1_weekOfArm_8 inX1 rfl (by decide) tw1_190, List.forall_mem_cons.mpr ⟨s_get (ci := 9) (k := 4) C0 dX1_weekOfArm_11 inX9 rfl (by decide) tw1_97, List.forall_mem_cons.mpr ⟨s_icmp_ge C0 dX1_weekOfArm_14 rfl, List.forall_mem_cons.mpr ⟨s_aload_n C0 dX1_weekOfArm_17 rfl, List.forall_mem_cons.mpr ⟨s_get (ci := 1) (k := 0) C0 dX1_weekOfArm_18 inX1 rfl (by decide) tw1_190, List.forall_mem_cons.mpr ⟨s_iload C0 dX1_weekOfArm_21, List.forall_mem_cons.mpr ⟨s_iconst C0 dX1_weekOfArm_23 rfl, List.forall_mem_cons.mpr ⟨s_callV (ci := 9) C0 (kX9_fact l) dX1_weekOfArm_24 rfl qX9_fact tw3_211 tw3_92 tw3_93 tw1_4 tw3_94 rfl (by decide) (by decide), List.forall_mem_cons.mpr ⟨s_iload_n C0 dX1_weekOfArm_27 rfl, List.forall_mem_cons.mpr ⟨s_bipush C0 dX1_weekOfArm_28 (by decide +kernel), List.forall_mem_cons.mpr ⟨s_isub C0 dX1_weekOfArm_30, List.forall_mem_cons.mpr ⟨s_iconst C0 dX1_weekOfArm_31 rfl, List.forall_mem_cons.mpr ⟨s_iadd C0 dX1_weekOfArm_32, List.forall_mem_cons.mpr ⟨s_iload_n C0 dX1_weekOfArm_33 rfl, List.forall_mem_cons.mpr ⟨s_callN C0 (kX10_within l) dX1_weekOfArm_34 qX10_within (List.mem_of_getElem? (i := 5) rfl) tw2_171 tw1_1 tw2_172 rfl (by decide) (by decide), List.forall_mem_cons.mpr ⟨s_if_eq C0 dX1_weekOfArm_37 rfl, List.forall_mem_cons.mpr ⟨s_iload_n C0 dX1_weekOfArm_40 rfl, List.forall_mem_cons.mpr ⟨s_aload_n C0 dX1_weekOfArm_41 rfl, List.forall_mem_cons.mpr ⟨s_get (ci := 1) (k := 1) C0 dX1_weekOfArm_42 inX1 rfl (by decide) tw1_195, List.forall_mem_cons.mpr ⟨s_iload_n C0 dX1_weekOfArm_45 rfl, List.forall_mem_cons.mpr ⟨s_iload C0 dX1_weekOfArm_46, List.forall_mem_cons.mpr ⟨s_callV (ci := 5) C0 (kX5_loadOf l) dX1_weekOfArm_48 rfl qX5_loadOf tw3_184 tw3_185 tw3_186 tw1_5 tw3_187 rfl (by decide) (by decide), List.forall_mem_cons.mpr ⟨s_iadd C0 dX1_weekOfArm_51, List.forall_mem_cons.mpr ⟨s_istore_n C0 dX1_weekOfArm_52 rfl (by decide), List.forall_mem_cons.mpr ⟨s_iinc C0 dX1_weekOfArm_53 rfl (by decide), List.forall_mem_cons.mpr ⟨s_goto C0 dX1_weekOfArm_56 rfl, List.forall_mem_cons.mpr ⟨s_iload_n C0 dX1_weekOfArm_59 rfl, List.forall_mem_cons.mpr ⟨s_iret C0 hr dX1_weekOfArm_60, fun _ h => absurd h List.not_mem_nil⟩⟩⟩⟩⟩⟩⟩⟩⟩⟩⟩⟩⟩⟩⟩⟩⟩⟩⟩⟩⟩⟩⟩⟩⟩⟩⟩⟩⟩⟩⟩⟩⟩⟩
def fX1_weekOfArm : Mf := mf 5 (fun K => tl K lX1_weekOfArm)
theorem kX1_weekOfArm (l : Launch) : Okm l yX1_weekOfArm cX1_weekOfArm 5 (some .int) 1 fX1_weekOfArm := Okm_tl (own := RX1) (by decide +kernel) rfl (fun C0 hr => hX1_weekOfArm_0 l C0 hr)
