theorem dX10_work_0 : decode cX10_work 0 = .ok (.aload_n 0, 1) := by decide +kernel
theorem dX10_work_1 : decode cX10_work 1 = .ok (.iload_n 1, 1) := by decide +kernel
theorem dX10_work_2 : decode cX10_work 2 = .ok (.invokevirtual 162, 3) := by decide +kernel
theorem dX10_work_5 : decode cX10_work 5 = .ok (.ifCond .ne 9, 3) := by decide +kernel
theorem dX10_work_8 : decode cX10_work 8 = .ok (.aload_n 0, 1) := by decide +kernel
theorem dX10_work_9 : decode cX10_work 9 = .ok (.iconst 1, 1) := by decide +kernel
theorem dX10_work_10 : decode cX10_work 10 = .ok (.invokevirtual 108, 3) := by decide +kernel
theorem dX10_work_13 : decode cX10_work 13 = .ok (.ireturn, 1) := by decide +kernel
theorem dX10_work_14 : decode cX10_work 14 = .ok (.iload_n 2, 1) := by decide +kernel
theorem dX10_work_15 : decode cX10_work 15 = .ok (.iconst 0, 1) := by decide +kernel
theorem dX10_work_16 : decode cX10_work 16 = .ok (.bipush 59, 2) := by decide +kernel
theorem dX10_work_18 : decode cX10_work 18 = .ok (.invokestatic 104, 3) := by decide +kernel
theorem dX10_work_21 : decode cX10_work 21 = .ok (.ifCond .ne 9, 3) := by decide +kernel
theorem dX10_work_24 : decode cX10_work 24 = .ok (.aload_n 0, 1) := by decide +kernel
theorem dX10_work_25 : decode cX10_work 25 = .ok (.iconst 2, 1) := by decide +kernel
theorem dX10_work_26 : decode cX10_work 26 = .ok (.invokevirtual 108, 3) := by decide +kernel
theorem dX10_work_29 : decode cX10_work 29 = .ok (.ireturn, 1) := by decide +kernel
theorem dX10_work_30 : decode cX10_work 30 = .ok (.aload_n 0, 1) := by decide +kernel
theorem dX10_work_31 : decode cX10_work 31 = .ok (.aload_n 0, 1) := by decide +kernel
theorem dX10_work_32 : decode cX10_work 32 = .ok (.getfield 44, 3) := by decide +kernel
theorem dX10_work_35 : decode cX10_work 35 = .ok (.iload_n 1, 1) := by decide +kernel
theorem dX10_work_36 : decode cX10_work 36 = .ok (.iload_n 2, 1) := by decide +kernel
theorem dX10_work_37 : decode cX10_work 37 = .ok (.invokevirtual 274, 3) := by decide +kernel
theorem dX10_work_40 : decode cX10_work 40 = .ok (.invokevirtual 138, 3) := by decide +kernel
theorem dX10_work_43 : decode cX10_work 43 = .ok (.ireturn, 1) := by decide +kernel
def lX10_work : List (Nat × (Op ⊕ Nat)) := [(0, .inl (o_aload 0 1)), (1, .inl (o_iload 1 2)), (2, .inl (o_callV fX10_hasArm 1 10 5)), (5, .inl (o_if_ne 14 8)), (8, .inl (o_aload 0 9)), (9, .inl (o_pushI (nI 1) 10)), (10, .inl (o_callV fX10_refuse 1 10 13)), (13, .inr 0), (14, .inl (o_iload 2 15)), (15, .inl (o_pushI (nI 0) 16)), (16, .inl (o_pushI (nI 59) 18)), (18, .inl (o_callS fX10_within 3 21)), (21, .inl (o_if_ne 30 24)), (24, .inl (o_aload 0 25)), (25, .inl (o_pushI (nI 2) 26)), (26, .inl (o_callV fX10_refuse 1 10 29)), (29, .inr 0), (30, .inl (o_aload 0 31)), (31, .inl (o_aload 0 32)), (32, .inl (o_get 10 4 35)), (35, .inl (o_iload 1 36)), (36, .inl (o_iload 2 37)), (37, .inl (o_callV fX1_weekOfArm 2 1 40)), (40, .inl (o_callV fX10_answer 1 10 43)), (43, .inr 0)]
theorem qX10_work : yX10_work.cls = RX10 ∧ yX10_work.cls ≠ "java/lang/invoke/MethodHandle" ∧ yX10_work.cls ≠ "java/lang/invoke/VarHandle" ∧ (parseMethodDescriptor yX10_work.desc).map (fun d => d.parameters.length) = some 2 := by decide +kernel
set_option maxRecDepth 10000 in
theorem hX10_work_0 (l : Launch) {p : Program} {e : Env} {s : State} {m : MethodId} {args : Array Value} {below : List Frame} {meth : Method} {c : Code} {D : va_G} {ad adV : Nat → Nat} {cA : Nat → ClassId} {K : Kt} (C0 : Cx p s m args meth c D ad adV cA cX10_work 3 RX10) (hr : meth.sig.returnType = (some .int)) : ∀ q ∈ lX10_work, Sd p l e (rmd 2) s m args below meth c (MQ below (QQ D ad cA K) args s 0 0 (AA ad)) D ad cA 3 q.1 (opOf K q.2) := List.forall_mem_cons.mpr ⟨s_aload_n C0 dX10_work_0 rfl, List.forall_mem_cons.mpr ⟨s_iload_n C0 dX10_work_1 rfl, List.forall_mem_cons.mpr ⟨s_callV (ci := 10) C0 (kX10_hasArm l) dX10_work_2 rfl qX10_hasArm tw3_171 tw3_173 twp_17 tw1_1 tw3_174 rfl (by decide) (by decide), List.forall_mem_cons.mpr ⟨s_if_ne C0 dX10_work_5 rfl, List.forall_mem_cons.mpr ⟨s_aload_n C0 dX10_work_8 rfl, List.forall_mem_cons.mpr ⟨s_iconst C0 dX10_work_9 rfl, List.forall_mem_cons.mpr ⟨s_callV (ci := 10) C0 (kX10_refuse l) dX10_work_10 rfl qX10_refuse tw2_173 tw2_175 twp_0 tw1_1 tw2_176 rfl (by decide) (by decide), List.forall_mem_cons.mpr ⟨s_iret C0 hr dX10_work_13, List.forall_mem_cons.mpr ⟨s_iload_n C0 dX10_work_14 rfl, List.forall_mem_cons.mpr ⟨s_iconst C0 dX10_work_15 rfl, List.forall_mem_cons.mpr ⟨s_bipush C0 dX10_work_16 (by decide +kernel), List.forall_mem_cons.mpr ⟨s_callS C0 (kX10_within l) dX10_work_18 qX10_within tw2_170 tw2_171 tw1_1 tw2_172 rfl (by decide) (by decide), List.forall_mem_cons.mpr ⟨s_if_ne C0 dX10_work_21 rfl, List.forall_mem_cons.mpr ⟨s_aload_n C0 dX10_work_24 rfl, List.forall_mem_cons.mpr ⟨s_iconst C0 dX10_work_25 rfl, List.forall_mem_cons.mpr ⟨s_callV (ci := 10) C0 (kX10_refuse l) dX10_work_26 rfl qX10_refuse tw2_173 tw2_175 twp_0 tw1_1 tw2_176 rfl (by decide) (by decide), List.forall_mem_cons.mpr ⟨s_iret C0 hr dX10_work_29, List.forall_mem_cons.mpr ⟨s_aload_n C0 dX10_work_30 rfl, List.forall_mem_cons.mpr ⟨s_aload_n C0 dX10_work_31 rfl, List.forall_mem_cons.mpr ⟨s_get (ci := 10) (k := 4) C0 dX10_work_32 inX10 rfl (by decide) tw2_122, List.forall_mem_cons.mpr ⟨s_iload_n C0 dX10_work_35 rfl, List.forall_mem_cons.mpr ⟨s_iload_n C0 dX10_work_36 rfl, List.forall_mem_cons.mpr ⟨s_callV (ci := 1) C0 (kX1_weekOfArm l) dX10_work_37 rfl qX1_weekOfArm tw4_202 tw4_203 tw4_204 tw1_6 tw4_205 rfl (by decide) (by decide), List.forall_mem_cons.mpr ⟨s_callV (ci := 10) C0 (kX10_answer l) dX10_work_40 rfl qX10_answer tw3_139 tw3_141 twp_14 tw1_1 tw3_142 rfl (by decide) (by decide), List.forall_mem_cons.mpr ⟨s_iret C0 hr dX10_work_43, fun _ h => absurd h List.not_mem_nil⟩⟩⟩⟩⟩⟩⟩⟩⟩⟩⟩⟩⟩⟩⟩⟩⟩⟩⟩⟩⟩⟩⟩⟩⟩
def fX10_work : Mf := mf 3 (fun K => tl K lX10_work)
theorem kX10_work (l : Launch) : Okm l yX10_work cX10_work 3 (some .int) 2 fX10_work := Okm_tl (own := RX10) (by decide +kernel) rfl (fun C0 hr => hX10_work_0 l C0 hr)
theorem dX10_busiest_0 : decode cX10_busiest 0 = .ok (.aload_n 0, 1) := by decide +kernel
theorem dX10_busiest_1 : decode cX10_busiest 1 = .ok (.iload_n 1, 1) := by decide +kernel
theorem dX10_busiest_2 : decode cX10_busiest 2 = .ok (.invokevirtual 162, 3) := by decide +kernel
theorem dX10_busiest_5 : decode cX10_busiest 5 = .ok (.ifCond .eq 12, 3) := by decide +kernel
theorem dX10_busiest_8 : decode cX10_busiest 8 = .ok (.iload_n 2, 1) := by decide +kernel
theorem dX10_busiest_9 : decode cX10_busiest 9 = .ok (.iconst 0, 1) := by decide +kernel
theorem dX10_busiest_10 : decode cX10_busiest 10 = .ok (.iconst 1, 1) := by decide +kernel
theorem dX10_busiest_11 : decode cX10_busiest 11 = .ok (.invokestatic 104, 3) := by decide +kernel
theorem dX10_busiest_14 : decode cX10_busiest 14 = .ok (.ifCond .ne 9, 3) := by decide +kernel
theorem dX10_busiest_17 : decode cX10_busiest 17 = .ok (.aload_n 0, 1) := by decide +kernel
theorem dX10_busiest_18 : decode cX10_busiest 18 = .ok (.iconst 1, 1) := by decide +kernel
theorem dX10_busiest_19 : decode cX10_busiest 19 = .ok (.invokevirtual 108, 3) := by decide +kernel
theorem dX10_busiest_22 : decode cX10_busiest 22 = .ok (.ireturn, 1) := by decide +kernel
theorem dX10_busiest_23 : decode cX10_busiest 23 = .ok (.iconst 0, 1) := by decide +kernel
theorem dX10_busiest_24 : decode cX10_busiest 24 = .ok (.istore_n 3, 1) := by decide +kernel
theorem dX10_busiest_25 : decode cX10_busiest 25 = .ok (.iconst 0, 1) := by decide +kernel
theorem dX10_busiest_26 : decode cX10_busiest 26 = .ok (.istore 4, 2) := by decide +kernel
theorem dX10_busiest_28 : decode cX10_busiest 28 = .ok (.iconst 0, 1) := by decide +kernel
theorem dX10_busiest_29 : decode cX10_busiest 29 = .ok (.istore 5, 2) := by decide +kernel
theorem dX10_busiest_31 : decode cX10_busiest 31 = .ok (.iload 5, 2) := by decide +kernel
theorem dX10_busiest_33 : decode cX10_busiest 33 = .ok (.bipush 60, 2) := by decide +kernel
theorem dX10_busiest_35 : decode cX10_busiest 35 = .ok (.if_icmp .ge 34, 3) := by decide +kernel
theorem dX10_busiest_38 : decode cX10_busiest 38 = .ok (.aload_n 0, 1) := by decide +kernel
theorem dX10_busiest_39 : decode cX10_busiest 39 = .ok (.getfield 44, 3) := by decide +kernel
theorem dX10_busiest_42 : decode cX10_busiest 42 = .ok (.iload_n 1, 1) := by decide +kernel
theorem dX10_busiest_43 : decode cX10_busiest 43 = .ok (.iload 5, 2) := by decide +kernel
theorem dX10_busiest_45 : decode cX10_busiest 45 = .ok (.invokevirtual 274, 3) := by decide +kernel
theorem dX10_busiest_48 : decode cX10_busiest 48 = .ok (.istore 6, 2) := by decide +kernel
theorem dX10_busiest_50 : decode cX10_busiest 50 = .ok (.iload 6, 2) := by decide +kernel
theorem dX10_busiest_52 : decode cX10_busiest 52 = .ok (.iload_n 3, 1) := by decide +kernel
theorem dX10_busiest_53 : decode cX10_busiest 53 = .ok (.if_icmp .le 10, 3) := by decide +kernel
theorem dX10_busiest_56 : decode cX10_busiest 56 = .ok (.iload 6, 2) := by decide +kernel
theorem dX10_busiest_58 : decode cX10_busiest 58 = .ok (.istore_n 3, 1) := by decide +kernel
theorem dX10_busiest_59 : decode cX10_busiest 59 = .ok (.iload 5, 2) := by decide +kernel
theorem dX10_busiest_61 : decode cX10_busiest 61 = .ok (.istore 4, 2) := by decide +kernel
theorem dX10_busiest_63 : decode cX10_busiest 63 = .ok (.iinc 5 1, 3) := by decide +kernel
theorem dX10_busiest_66 : decode cX10_busiest 66 = .ok (.goto (-35), 3) := by decide +kernel
theorem dX10_busiest_69 : decode cX10_busiest 69 = .ok (.aload_n 0, 1) := by decide +kernel
theorem dX10_busiest_70 : decode cX10_busiest 70 = .ok (.iload_n 2, 1) := by decide +kernel
theorem dX10_busiest_71 : decode cX10_busiest 71 = .ok (.ifCond .ne 7, 3) := by decide +kernel
theorem dX10_busiest_74 : decode cX10_busiest 74 = .ok (.iload_n 3, 1) := by decide +kernel
theorem dX10_busiest_75 : decode cX10_busiest 75 = .ok (.goto 5, 3) := by decide +kernel
theorem dX10_busiest_78 : decode cX10_busiest 78 = .ok (.iload 4, 2) := by decide +kernel
theorem dX10_busiest_80 : decode cX10_busiest 80 = .ok (.invokevirtual 138, 3) := by decide +kernel
theorem dX10_busiest_83 : decode cX10_busiest 83 = .ok (.ireturn, 1) := by decide +kernel
def lX10_busiest_0 : List (Nat × (Op ⊕ Nat)) := [(0, .inl (o_aload 0 1)), (1, .inl (o_iload 1 2)), (2, .inl (o_callV fX10_hasArm 1 10 5)), (5, .inl (o_if_eq 17 8)), (8, .inl (o_iload 2 9)), (9, .inl (o_pushI (nI 0) 10)), (10, .inl (o_pushI (nI 1) 11)), (11, .inl (o_callS fX10_within 3 14)), (14, .inl (o_if_ne 23 17)), (17, .inl (o_aload 0 18)), (18, .inl (o_pushI (nI 1) 19)), (19, .inl (o_callV fX10_refuse 1 10 22)), (22, .inr 0), (23, .inl (o_pushI (nI 0) 24)), (24, .inl (o_istore 3 25)), (25, .inl (o_pushI (nI 0) 26)), (26, .inl (o_istore 4 28)), (28, .inl (o_pushI (nI 0) 29)), (29, .inl (o_istore 5 31)), (31, .inl (o_iload 5 33)), (33, .inl (o_pushI (nI 60) 35)), (35, .inl (o_icmp_ge 69 38)), (38, .inl (o_aload 0 39)), (39, .inl (o_get 10 4 42)), (42, .inl (o_iload 1 43)), (43, .inl (o_iload 5 45)), (45, .inl (o_callV fX1_weekOfArm 2 1 48)), (48, .inl (o_istore 6 50)), (50, .inl (o_iload 6 52)), (52, .inl (o_iload 3 53)), (53, .inl (o_icmp_le 63 56)), (56, .inl (o_iload 6 58)), (58, .inl (o_istore 3 59)), (59, .inl (o_iload 5 61)), (61, .inl (o_istore 4 63)), (63, .inl (o_iinc 5 (nI 1) 66)), (66, .inl (o_goto 31)), (69, .inl (o_aload 0 70)), (70, .inl (o_iload 2 71)), (71, .inl (o_if_ne 78 74))]
def lX10_busiest_1 : List (Nat × (Op ⊕ Nat)) := [(74, .inl (o_iload 3 75)), (75, .inl (o_goto 80)), (78, .inl (o_iload 4 80)), (80, .inl (o_callV fX10_answer 1 10 83)), (83, .inr 0)]
def lX10_busiest : List (Nat × (Op ⊕ Nat)) := lX10_busiest_0 ++ (lX10_busiest_1)
theorem qX10_busiest : yX10_busiest.cls = RX10 ∧ yX10_busiest.cls ≠ "java/lang/invoke/MethodHandle" ∧ yX10_busiest.cls ≠ "java/lang/invoke/VarHandle" ∧ (parseMethodDescriptor yX10_busiest.desc).map (fun d => d.parameters.length) = some 2 := by decide +kernel
set_option maxRecDepth 10000 in
theorem hX10_busiest_0 (l : Launch) {p : Program} {e : Env} {s : State} {m : MethodId} {args : Array Value} {below : List Frame} {meth : Method} {c : Code} {D : va_G} {ad adV : Nat → Nat} {cA : Nat → ClassId} {K : Kt} (C0 : Cx p s m args meth c D ad adV cA cX10_busiest 7 RX10) (hr : meth.sig.returnType = (some .int)) : ∀ q ∈ lX10_busiest_0, Sd p l e (rmd 2) s m args below meth c (MQ below (QQ D ad cA K) args s 0 0 (AA ad)) D ad cA 7 q.1 (opOf K q.2) := List.forall_mem_cons.mpr ⟨s_aload_n C0 dX10_busiest_0 rfl, List.forall_mem_cons.mpr ⟨s_iload_n C0 dX10_busiest_1 rfl, List.forall_mem_cons.mpr ⟨s_callV (ci := 10) C0 (kX10_hasArm l) dX10_busiest_2 rfl qX10_hasArm tw3_171 tw3_173 twp_17 tw1_1 tw3_174 rfl (by decide) (by decide), List.forall_mem_cons.mpr ⟨s_if_eq C0 dX10_busiest_5 rfl, List.forall_mem_cons.mpr ⟨s_iload_n C0 dX10_busiest_8 rfl, List.forall_mem_cons.mpr ⟨s_iconst C0 dX10_busiest_9 rfl, List.forall_mem_cons.mpr ⟨s_iconst C0 dX10_busiest_10 rfl, List.forall_mem_cons.mpr ⟨s_callS C0 (kX10_within l) dX10_busiest_11 qX10_within tw2_170 tw2_171 tw1_1 tw2_172 rfl (by decide) (by decide), List.forall_mem_cons.mpr ⟨s_if_ne C0 dX10_busiest_14 rfl, List.forall_mem_cons.mpr ⟨s_aload_n C0 dX10_busiest_17 rfl, List.forall_mem_cons.mpr ⟨s_iconst C0 dX10_busiest_18 rfl, List.forall_mem_cons.mpr ⟨s_callV (ci := 10) C0 (kX10_refuse l) dX10_busiest_19 rfl qX10_refuse tw2_173 tw2_175 twp_0 tw1_1 tw2_176 rfl (by decide) (by decide), List.forall_mem_cons.mpr ⟨s_iret C0 hr dX10_busiest_22, List.forall_mem_cons.mpr ⟨s_iconst C0 dX10_busiest_23 rfl, List.forall_mem_cons.mpr ⟨s_istore_n C0 dX10_busiest_24 rfl (by decide), List.forall_mem_cons.mpr ⟨s_iconst C0 dX10_busiest_25 rfl, List.forall_mem_cons.mpr ⟨s_istore C0 dX10_busiest_26 (by decide), List.forall_mem_cons.mpr ⟨s_iconst C0 dX10_busiest_28 rfl, List.forall_mem_cons.mpr ⟨s_istore C0 dX10_busiest_29 (by decide), List.forall_mem_cons.mpr ⟨s_iload C0 dX10_busiest_31, List.forall_mem_cons.mpr ⟨s_bipush C0 dX10_busiest_33 (by decide +kernel), List.forall_mem_cons.mpr ⟨s_icmp_ge C0 dX10_busiest_35 rfl, List.forall_mem_cons.mpr ⟨s_aload_n C0 dX10_busiest_38 rfl, List.forall_mem_cons.mpr ⟨s_get (ci := 10) (k := 4) C0 dX10_busiest_39 inX10 rfl (by decide) tw2_122, List.forall_mem_cons.mpr ⟨s_iload_n C0 dX10_busiest_42 rfl, List.forall_mem_cons.mpr ⟨s_iload C0 dX10_busiest_43, List.forall_mem_cons.mpr ⟨s_callV (ci := 1) C0 (kX1_weekOfArm l) dX10_busiest_45 rfl qX1_weekOfArm tw4_202 tw4_203 tw4_204 tw1_6 tw4_205 rfl (by decide) (by decide), List.forall_mem_cons.mpr ⟨s_istore C0 dX10_busiest_48 (by decide), List.forall_mem_cons.mpr ⟨s_iload C0 dX10_busiest_50, List.forall_mem_cons.mpr ⟨s_iload_n C0 dX10_busiest_52 rfl, List.forall_mem_cons.mpr ⟨s_icmp_le C0 dX10_busiest_53 rfl, List.forall_mem_cons.mpr ⟨s_iload C0 dX10_busiest_56, List.forall_mem_cons.mpr ⟨s_istore_n C0 dX10_busiest_58 rfl (by decide), List.forall_mem_cons.mpr ⟨s_iload C0 dX10_busiest_59, List.forall_mem_cons.mpr ⟨s_istore C0 dX10_busiest_61 (by decide), List.forall_mem_cons.mpr ⟨s_iinc C0 dX10_busiest_63 rfl (by decide), List.forall_mem_cons.mpr ⟨s_goto C0 dX10_busiest_66 rfl, List.forall_mem_cons.mpr ⟨s_aload_n C0 dX10_busiest_69 rfl, List.forall_mem_cons.mpr ⟨s_iload_n C0 dX10_busiest_70 rfl, List.forall_mem_cons.mpr ⟨s_if_ne C0 dX10_busiest_71 rfl, fun _ h => absurd h List.not_mem_nil⟩⟩⟩⟩⟩⟩⟩⟩⟩⟩⟩⟩⟩⟩⟩⟩⟩⟩⟩⟩⟩⟩⟩⟩⟩⟩⟩⟩⟩⟩⟩⟩⟩⟩⟩⟩⟩⟩⟩⟩
set_option maxRecDepth 10000 in
theorem hX10_busiest_1 (l : Launch) {p : Program} {e : Env} {s : State} {m : MethodId} {args : Array Value} {below : List Frame} {meth : Method} {c : Code} {D : va_G} {ad adV : Nat → Nat} {cA : Nat → ClassId} {K : Kt} (C0 : Cx p s m args meth c D ad adV cA cX10_busiest 7 RX10) (hr : meth.sig.returnType = (some .int)) : ∀ q ∈ lX10_busiest_1, Sd p l e (rmd 2) s m args below meth c (MQ below (QQ D ad cA K) args s 0 0 (AA ad)) D ad cA 7 q.1 (opOf K q.2) := List.forall_mem_cons.mpr ⟨s_iload_n C0 dX10_busiest_74 rfl, List.forall_mem_cons.mpr ⟨s_goto C0 dX10_busiest_75 rfl, List.forall_mem_cons.mpr ⟨s_iload C0 dX10_busiest_78, List.forall_mem_cons.mpr ⟨s_callV (ci := 10) C0 (kX10_answer l) dX10_busiest_80 rfl qX10_answer tw3_139 tw3_141 twp_14 tw1_1 tw3_142 rfl (by decide) (by decide), List.forall_mem_cons.mpr ⟨s_iret C0 hr dX10_busiest_83, fun _ h => absurd h List.not_mem_nil⟩⟩⟩⟩⟩
def fX10_busiest : Mf := mf 7 (fun K => tl K lX10_busiest)
theorem kX10_busiest (l : Launch) : Okm l yX10_busiest cX10_busiest 7 (some .int) 2 fX10_busiest := Okm_tl (own := RX10) (by decide +kernel) rfl (fun C0 hr => List.forall_mem_append.mpr ⟨hX10_busiest_0 l C0 hr, hX10_busiest_1 l C0 hr⟩)
theorem dX10_idle_0 : decode cX10_idle 0 = .ok (.aload_n 0, 1) := by decide +kernel
theorem dX10_idle_1 : decode cX10_idle 1 = .ok (.iload_n 1, 1) := by decide +kernel
theorem dX10_idle_2 : decode cX10_idle 2 = .ok (.invokevirtual 162, 3) := by decide +kernel
theorem dX10_idle_5 : decode cX10_idle 5 = .ok (.ifCond .ne 9, 3) := by decide +kernel
theorem dX10_idle_8 : decode cX10_idle 8 = .ok (.aload_n 0, 1) := by decide +kernel
theorem dX10_idle_9 : decode cX10_idle 9 = .ok (.iconst 1, 1) := by decide +kernel
theorem dX10_idle_10 : decode cX10_idle 10 = .ok (.invokevirtual 108, 3) := by decide +kernel
theorem dX10_idle_13 : decode cX10_idle 13 = .ok (.ireturn, 1) := by decide +kernel
theorem dX10_idle_14 : decode cX10_idle 14 = .ok (.iconst 0, 1) := by decide +kernel
theorem dX10_idle_15 : decode cX10_idle 15 = .ok (.istore_n 2, 1) := by decide +kernel
theorem dX10_idle_16 : decode cX10_idle 16 = .ok (.iconst (-1), 1) := by decide +kernel
theorem dX10_idle_17 : decode cX10_idle 17 = .ok (.istore_n 3, 1) := by decide +kernel
theorem dX10_idle_18 : decode cX10_idle 18 = .ok (.iconst 0, 1) := by decide +kernel
theorem dX10_idle_19 : decode cX10_idle 19 = .ok (.istore 4, 2) := by decide +kernel
theorem dX10_idle_21 : decode cX10_idle 21 = .ok (.iload 4, 2) := by decide +kernel
theorem dX10_idle_23 : decode cX10_idle 23 = .ok (.aload_n 0, 1) := by decide +kernel
theorem dX10_idle_24 : decode cX10_idle 24 = .ok (.getfield 28, 3) := by decide +kernel
theorem dX10_idle_27 : decode cX10_idle 27 = .ok (.getfield 135, 3) := by decide +kernel
theorem dX10_idle_30 : decode cX10_idle 30 = .ok (.if_icmp .ge 52, 3) := by decide +kernel
theorem dX10_idle_33 : decode cX10_idle 33 = .ok (.aload_n 0, 1) := by decide +kernel
theorem dX10_idle_34 : decode cX10_idle 34 = .ok (.getfield 35, 3) := by decide +kernel
theorem dX10_idle_37 : decode cX10_idle 37 = .ok (.iload_n 1, 1) := by decide +kernel
theorem dX10_idle_38 : decode cX10_idle 38 = .ok (.iload 4, 2) := by decide +kernel
theorem dX10_idle_40 : decode cX10_idle 40 = .ok (.invokevirtual 277, 3) := by decide +kernel
theorem dX10_idle_43 : decode cX10_idle 43 = .ok (.ifCond .eq 33, 3) := by decide +kernel
theorem dX10_idle_46 : decode cX10_idle 46 = .ok (.iload_n 2, 1) := by decide +kernel
theorem dX10_idle_47 : decode cX10_idle 47 = .ok (.aload_n 0, 1) := by decide +kernel
theorem dX10_idle_48 : decode cX10_idle 48 = .ok (.getfield 28, 3) := by decide +kernel
theorem dX10_idle_51 : decode cX10_idle 51 = .ok (.iload 4, 2) := by decide +kernel
theorem dX10_idle_53 : decode cX10_idle 53 = .ok (.iconst 0, 1) := by decide +kernel
theorem dX10_idle_54 : decode cX10_idle 54 = .ok (.invokevirtual 190, 3) := by decide +kernel
theorem dX10_idle_57 : decode cX10_idle 57 = .ok (.iload_n 3, 1) := by decide +kernel
theorem dX10_idle_58 : decode cX10_idle 58 = .ok (.isub, 1) := by decide +kernel
theorem dX10_idle_59 : decode cX10_idle 59 = .ok (.iconst 1, 1) := by decide +kernel
theorem dX10_idle_60 : decode cX10_idle 60 = .ok (.isub, 1) := by decide +kernel
theorem dX10_idle_61 : decode cX10_idle 61 = .ok (.invokestatic 280, 3) := by decide +kernel
theorem dX10_idle_64 : decode cX10_idle 64 = .ok (.istore_n 2, 1) := by decide +kernel
theorem dX10_idle_65 : decode cX10_idle 65 = .ok (.aload_n 0, 1) := by decide +kernel
theorem dX10_idle_66 : decode cX10_idle 66 = .ok (.getfield 28, 3) := by decide +kernel
theorem dX10_idle_69 : decode cX10_idle 69 = .ok (.iload 4, 2) := by decide +kernel
theorem dX10_idle_71 : decode cX10_idle 71 = .ok (.iconst 0, 1) := by decide +kernel
theorem dX10_idle_72 : decode cX10_idle 72 = .ok (.invokevirtual 190, 3) := by decide +kernel
theorem dX10_idle_75 : decode cX10_idle 75 = .ok (.istore_n 3, 1) := by decide +kernel
theorem dX10_idle_76 : decode cX10_idle 76 = .ok (.iinc 4 1, 3) := by decide +kernel
theorem dX10_idle_79 : decode cX10_idle 79 = .ok (.goto (-58), 3) := by decide +kernel
theorem dX10_idle_82 : decode cX10_idle 82 = .ok (.aload_n 0, 1) := by decide +kernel
theorem dX10_idle_83 : decode cX10_idle 83 = .ok (.iload_n 2, 1) := by decide +kernel
theorem dX10_idle_84 : decode cX10_idle 84 = .ok (.bipush 60, 2) := by decide +kernel
theorem dX10_idle_86 : decode cX10_idle 86 = .ok (.iload_n 3, 1) := by decide +kernel
theorem dX10_idle_87 : decode cX10_idle 87 = .ok (.isub, 1) := by decide +kernel
theorem dX10_idle_88 : decode cX10_idle 88 = .ok (.iconst 1, 1) := by decide +kernel
theorem dX10_idle_89 : decode cX10_idle 89 = .ok (.isub, 1) := by decide +kernel
theorem dX10_idle_90 : decode cX10_idle 90 = .ok (.invokestatic 280, 3) := by decide +kernel
theorem dX10_idle_93 : decode cX10_idle 93 = .ok (.invokevirtual 138, 3) := by decide +kernel
theorem dX10_idle_96 : decode cX10_idle 96 = .ok (.ireturn, 1) := by decide +kernel
def lX10_idle_0 : List (Nat × (Op ⊕ Nat)) := [(0, .inl (o_aload 0 1)), (1, .inl (o_iload 1 2)), (2, .inl (o_callV fX10_hasArm 1 10 5)), (5, .inl (o_if_ne 14 8)), (8, .inl (o_aload 0 9)), (9, .inl (o_pushI (nI 1) 10)), (10, .inl (o_callV fX10_refuse 1 10 13)), (13, .inr 0), (14, .inl (o_pushI (nI 0) 15)), (15, .inl (o_istore 2 16)), (16, .inl (o_pushI ((-1)) 17)), (17, .inl (o_istore 3 18)), (18, .inl (o_pushI (nI 0) 19)), (19, .inl (o_istore 4 21)), (21, .inl (o_iload 4 23)), (23, .inl (o_aload 0 24)), (24, .inl (o_get 10 2 27)), (27, .inl (o_get 9 4 30)), (30, .inl (o_icmp_ge 82 33)), (33, .inl (o_aload 0 34)), (34, .inl (o_get 10 3 37)), (37, .inl (o_iload 1 38)), (38, .inl (o_iload 4 40)), (40, .inl (o_callV fX5_has 2 5 43)), (43, .inl (o_if_eq 76 46)), (46, .inl (o_iload 2 47)), (47, .inl (o_aload 0 48)), (48, .inl (o_get 10 2 51)), (51, .inl (o_iload 4 53)), (53, .inl (o_pushI (nI 0) 54)), (54, .inl (o_callV fX9_fact 2 9 57)), (57, .inl (o_iload 3 58)), (58, .inl (o_isub 59)), (59, .inl (o_pushI (nI 1) 60)), (60, .inl (o_isub 61)), (61, .inl (o_max 64)), (64, .inl (o_istore 2 65)), (65, .inl (o_aload 0 66)), (66, .inl (o_get 10 2 69)), (69, .inl (o_iload 4 71))]
def lX10_idle_1 : List (Nat × (Op ⊕ Nat)) := [(71, .inl (o_pushI (nI 0) 72)), (72, .inl (o_callV fX9_fact 2 9 75)), (75, .inl (o_istore 3 76)), (76, .inl (o_iinc 4 (nI 1) 79)), (79, .inl (o_goto 21)), (82, .inl (o_aload 0 83)), (83, .inl (o_iload 2 84)), (84, .inl (o_pushI (nI 60) 86)), (86, .inl (o_iload 3 87)), (87, .inl (o_isub 88)), (88, .inl (o_pushI (nI 1) 89)), (89, .inl (o_isub 90)), (90, .inl (o_max 93)), (93, .inl (o_callV fX10_answer 1 10 96)), (96, .inr 0)]
def lX10_idle : List (Nat × (Op ⊕ Nat)) := lX10_idle_0 ++ (lX10_idle_1)
theorem qX10_idle : yX10_idle.cls = RX10 ∧ yX10_idle.cls ≠ "java/lang/invoke/MethodHandle" ∧ yX10_idle.cls ≠ "java/lang/invoke/VarHandle" ∧ (parseMethodDescriptor yX10_idle.desc).map (fun d => d.parameters.length) = some 1 := by decide +kernel
set_option maxRecDepth 10000 in
theorem hX10_idle_0 (l : Launch) {p : Program} {e : Env} {s : State} {m : MethodId} {args : Array Value} {below : List Frame} {meth : Method} {c : Code} {D : va_G} {ad adV : Nat → Nat} {cA : Nat → ClassId} {K : Kt} (C0 : Cx p s m args meth c D ad adV cA cX10_idle 5 RX10) (hr : meth.sig.returnType = (some .int)) : ∀ q ∈ lX10_idle_0, Sd p l e (rmd 2) s m args below meth c (MQ below (QQ D ad cA K) args s 0 0 (AA ad)) D ad cA 5 q.1 (opOf K q.2) := List.forall_mem_cons.mpr ⟨s_aload_n C0 dX10_idle_0 rfl, List.forall_mem_cons.mpr ⟨s_iload_n C0 dX10_idle_1 rfl, List.forall_mem_cons.mpr ⟨s_callV (ci := 10) C0 (kX10_hasArm l) dX10_idle_2 rfl qX10_hasArm tw3_171 tw3_173 twp_17 tw1_1 tw3_174 rfl (by decide) (by decide), List.forall_mem_cons.mpr ⟨s_if_ne C0 dX10_idle_5 rfl, List.forall_mem_cons.mpr ⟨s_aload_n C0 dX10_idle_8 rfl, List.forall_mem_cons.mpr ⟨s_iconst C0 dX10_idle_9 rfl, List.forall_mem_cons.mpr ⟨s_callV (ci := 10) C0 (kX10_refuse l) dX10_idle_10 rfl qX10_refuse tw2_173 tw2_175 twp_0 tw1_1 tw2_176 rfl (by decide) (by decide), List.forall_mem_cons.mpr ⟨s_iret C0 hr dX10_idle_13, List.forall_mem_cons.mpr ⟨s_iconst C0 dX10_idle_14 rfl, List.forall_mem_cons.mpr ⟨s_istore_n C0 dX10_idle_15 rfl (by decide), List.forall_mem_cons.mpr ⟨s_iconst C0 dX10_idle_16 rfl, List.forall_mem_cons.mpr ⟨s_istore_n C0 dX10_idle_17 rfl (by decide), List.forall_mem_cons.mpr ⟨s_iconst C0 dX10_idle_18 rfl, List.forall_mem_cons.mpr ⟨s_istore C0 dX10_idle_19 (by decide), List.forall_mem_cons.mpr ⟨s_iload C0 dX10_idle_21, List.forall_mem_cons.mpr ⟨s_aload_n C0 dX10_idle_23 rfl, List.forall_mem_cons.mpr ⟨s_get (ci := 10) (k := 2) C0 dX10_idle_24 inX10 rfl (by decide) tw2_120, List.forall_mem_cons.mpr ⟨s_get (ci := 9) (k := 4) C0 dX10_idle_27 inX9 rfl (by decide) tw1_95, List.forall_mem_cons.mpr ⟨s_icmp_ge C0 dX10_idle_30 rfl, List.forall_mem_cons.mpr ⟨s_aload_n C0 dX10_idle_33 rfl, List.forall_mem_cons.mpr ⟨s_get (ci := 10) (k := 3) C0 dX10_idle_34 inX10 rfl (by decide) tw2_121, List.forall_mem_cons.mpr ⟨s_iload_n C0 dX10_idle_37 rfl, List.forall_mem_cons.mpr ⟨s_iload C0 dX10_idle_38, List.forall_mem_cons.mpr ⟨s_callV (ci := 5) C0 (kX5_has l) dX10_idle_40 rfl qX5_has tw4_215 tw3_193 tw3_194 tw1_5 tw3_195 rfl (by decide) (by decide), List.forall_mem_cons.mpr ⟨s_if_eq C0 dX10_idle_43 rfl, List.forall_mem_cons.mpr ⟨s_iload_n C0 dX10_idle_46 rfl, List.forall_mem_cons.mpr ⟨s_aload_n C0 dX10_idle_47 rfl, List.forall_mem_cons.mpr ⟨s_get (ci := 10) (k := 2) C0 dX10_idle_48 inX10 rfl (by decide) tw2_120, List.forall_mem_cons.mpr ⟨s_iload C0 dX10_idle_51, List.forall_mem_cons.mpr ⟨s_iconst C0 dX10_idle_53 rfl, List.forall_mem_cons.mpr ⟨s_callV (ci := 9) C0 (kX9_fact l) dX10_idle_54 rfl qX9_fact tw3_225 tw3_92 tw3_93 tw1_4 tw3_94 rfl (by decide) (by decide), List.forall_mem_cons.mpr ⟨s_iload_n C0 dX10_idle_57 rfl, List.forall_mem_cons.mpr ⟨s_isub C0 dX10_idle_58, List.forall_mem_cons.mpr ⟨s_iconst C0 dX10_idle_59 rfl, List.forall_mem_cons.mpr ⟨s_isub C0 dX10_idle_60, List.forall_mem_cons.mpr ⟨s_max C0 dX10_idle_61 tw4_216 tw2_198 tw1_14 twm_max rfl (by decide), List.forall_mem_cons.mpr ⟨s_istore_n C0 dX10_idle_64 rfl (by decide), List.forall_mem_cons.mpr ⟨s_aload_n C0 dX10_idle_65 rfl, List.forall_mem_cons.mpr ⟨s_get (ci := 10) (k := 2) C0 dX10_idle_66 inX10 rfl (by decide) tw2_120, List.forall_mem_cons.mpr ⟨s_iload C0 dX10_idle_69, fun _ h => absurd h List.not_mem_nil⟩⟩⟩⟩⟩⟩⟩⟩⟩⟩⟩⟩⟩⟩⟩⟩⟩⟩⟩⟩⟩⟩⟩⟩⟩⟩⟩⟩⟩⟩⟩⟩⟩⟩⟩⟩⟩⟩⟩⟩
set_option maxRecDepth 10000 in
theorem hX10_idle_1 (l : Launch) {p : Program} {e : Env} {s : State} {m : MethodId} {args : Array Value} {below : List Frame} {meth : Method} {c : Code} {D : va_G} {ad adV : Nat → Nat} {cA : Nat → ClassId} {K : Kt} (C0 : Cx p s m args meth c D ad adV cA cX10_idle 5 RX10) (hr : meth.sig.returnType = (some .int)) : ∀ q ∈ lX10_idle_1, Sd p l e (rmd 2) s m args below meth c (MQ below (QQ D ad cA K) args s 0 0 (AA ad)) D ad cA 5 q.1 (opOf K q.2) := List.forall_mem_cons.mpr ⟨s_iconst C0 dX10_idle_71 rfl, List.forall_mem_cons.mpr ⟨s_callV (ci := 9) C0 (kX9_fact l) dX10_idle_72 rfl qX9_fact tw3_225 tw3_92 tw3_93 tw1_4 tw3_94 rfl (by decide) (by decide), List.forall_mem_cons.mpr ⟨s_istore_n C0 dX10_idle_75 rfl (by decide), List.forall_mem_cons.mpr ⟨s_iinc C0 dX10_idle_76 rfl (by decide), List.forall_mem_cons.mpr ⟨s_goto C0 dX10_idle_79 rfl, List.forall_mem_cons.mpr ⟨s_aload_n C0 dX10_idle_82 rfl, List.forall_mem_cons.mpr ⟨s_iload_n C0 dX10_idle_83 rfl, List.forall_mem_cons.mpr ⟨s_bipush C0 dX10_idle_84 (by decide +kernel), List.forall_mem_cons.mpr ⟨s_iload_n C0 dX10_idle_86 rfl, List.forall_mem_cons.mpr ⟨s_isub C0 dX10_idle_87, List.forall_mem_cons.mpr ⟨s_iconst C0 dX10_idle_88 rfl, List.forall_mem_cons.mpr ⟨s_isub C0 dX10_idle_89, List.forall_mem_cons.mpr ⟨s_max C0 dX10_idle_90 tw4_216 tw2_198 tw1_14 twm_max rfl (by decide), List.forall_mem_cons.mpr ⟨s_callV (ci := 10) C0 (kX10_answer l) dX10_idle_93 rfl qX10_answer tw3_139 tw3_141 twp_14 tw1_1 tw3_142 rfl (by decide) (by decide), List.forall_mem_cons.mpr ⟨s_iret C0 hr dX10_idle_96, fun _ h => absurd h List.not_mem_nil⟩⟩⟩⟩⟩⟩⟩⟩⟩⟩⟩⟩⟩⟩⟩
def fX10_idle : Mf := mf 5 (fun K => tl K lX10_idle)
theorem kX10_idle (l : Launch) : Okm l yX10_idle cX10_idle 5 (some .int) 2 fX10_idle := Okm_tl (own := RX10) (by decide +kernel) rfl (fun C0 hr => List.forall_mem_append.mpr ⟨hX10_idle_0 l C0 hr, hX10_idle_1 l C0 hr⟩)
theorem dX10_gap_0 : decode cX10_gap 0 = .ok (.aload_n 0, 1) := by decide +kernel
theorem dX10_gap_1 : decode cX10_gap 1 = .ok (.iload_n 1, 1) := by decide +kernel
theorem dX10_gap_2 : decode cX10_gap 2 = .ok (.invokevirtual 162, 3) := by decide +kernel
theorem dX10_gap_5 : decode cX10_gap 5 = .ok (.ifCond .ne 9, 3) := by decide +kernel
theorem dX10_gap_8 : decode cX10_gap 8 = .ok (.aload_n 0, 1) := by decide +kernel
theorem dX10_gap_9 : decode cX10_gap 9 = .ok (.iconst 1, 1) := by decide +kernel
theorem dX10_gap_10 : decode cX10_gap 10 = .ok (.invokevirtual 108, 3) := by decide +kernel
theorem dX10_gap_13 : decode cX10_gap 13 = .ok (.ireturn, 1) := by decide +kernel
theorem dX10_gap_14 : decode cX10_gap 14 = .ok (.ldc_w 285, 3) := by decide +kernel
theorem dX10_gap_17 : decode cX10_gap 17 = .ok (.istore_n 2, 1) := by decide +kernel
theorem dX10_gap_18 : decode cX10_gap 18 = .ok (.iconst (-1), 1) := by decide +kernel
theorem dX10_gap_19 : decode cX10_gap 19 = .ok (.istore_n 3, 1) := by decide +kernel
theorem dX10_gap_20 : decode cX10_gap 20 = .ok (.iconst 0, 1) := by decide +kernel
theorem dX10_gap_21 : decode cX10_gap 21 = .ok (.istore 4, 2) := by decide +kernel
theorem dX10_gap_23 : decode cX10_gap 23 = .ok (.iload 4, 2) := by decide +kernel
theorem dX10_gap_25 : decode cX10_gap 25 = .ok (.aload_n 0, 1) := by decide +kernel
theorem dX10_gap_26 : decode cX10_gap 26 = .ok (.getfield 28, 3) := by decide +kernel
theorem dX10_gap_29 : decode cX10_gap 29 = .ok (.getfield 135, 3) := by decide +kernel
theorem dX10_gap_32 : decode cX10_gap 32 = .ok (.if_icmp .ge 48, 3) := by decide +kernel
theorem dX10_gap_35 : decode cX10_gap 35 = .ok (.aload_n 0, 1) := by decide +kernel
theorem dX10_gap_36 : decode cX10_gap 36 = .ok (.getfield 35, 3) := by decide +kernel
theorem dX10_gap_39 : decode cX10_gap 39 = .ok (.iload_n 1, 1) := by decide +kernel
theorem dX10_gap_40 : decode cX10_gap 40 = .ok (.iload 4, 2) := by decide +kernel
theorem dX10_gap_42 : decode cX10_gap 42 = .ok (.invokevirtual 277, 3) := by decide +kernel
theorem dX10_gap_45 : decode cX10_gap 45 = .ok (.ifCond .ne 6, 3) := by decide +kernel
theorem dX10_gap_48 : decode cX10_gap 48 = .ok (.goto 26, 3) := by decide +kernel
theorem dX10_gap_51 : decode cX10_gap 51 = .ok (.iload_n 3, 1) := by decide +kernel
theorem dX10_gap_52 : decode cX10_gap 52 = .ok (.iconst (-1), 1) := by decide +kernel
theorem dX10_gap_53 : decode cX10_gap 53 = .ok (.if_icmp .eq 18, 3) := by decide +kernel
theorem dX10_gap_56 : decode cX10_gap 56 = .ok (.iload_n 2, 1) := by decide +kernel
theorem dX10_gap_57 : decode cX10_gap 57 = .ok (.aload_n 0, 1) := by decide +kernel
theorem dX10_gap_58 : decode cX10_gap 58 = .ok (.getfield 28, 3) := by decide +kernel
theorem dX10_gap_61 : decode cX10_gap 61 = .ok (.iload_n 3, 1) := by decide +kernel
theorem dX10_gap_62 : decode cX10_gap 62 = .ok (.iload 4, 2) := by decide +kernel
theorem dX10_gap_64 : decode cX10_gap 64 = .ok (.invokevirtual 286, 3) := by decide +kernel
theorem dX10_gap_67 : decode cX10_gap 67 = .ok (.invokestatic 289, 3) := by decide +kernel
theorem dX10_gap_70 : decode cX10_gap 70 = .ok (.istore_n 2, 1) := by decide +kernel
theorem dX10_gap_71 : decode cX10_gap 71 = .ok (.iload 4, 2) := by decide +kernel
theorem dX10_gap_73 : decode cX10_gap 73 = .ok (.istore_n 3, 1) := by decide +kernel
theorem dX10_gap_74 : decode cX10_gap 74 = .ok (.iinc 4 1, 3) := by decide +kernel
theorem dX10_gap_77 : decode cX10_gap 77 = .ok (.goto (-54), 3) := by decide +kernel
theorem dX10_gap_80 : decode cX10_gap 80 = .ok (.aload_n 0, 1) := by decide +kernel
theorem dX10_gap_81 : decode cX10_gap 81 = .ok (.iload_n 2, 1) := by decide +kernel
theorem dX10_gap_82 : decode cX10_gap 82 = .ok (.ldc_w 285, 3) := by decide +kernel
theorem dX10_gap_85 : decode cX10_gap 85 = .ok (.if_icmp .ne 8, 3) := by decide +kernel
theorem dX10_gap_88 : decode cX10_gap 88 = .ok (.bipush (-2), 2) := by decide +kernel
theorem dX10_gap_90 : decode cX10_gap 90 = .ok (.goto 4, 3) := by decide +kernel
theorem dX10_gap_93 : decode cX10_gap 93 = .ok (.iload_n 2, 1) := by decide +kernel
theorem dX10_gap_94 : decode cX10_gap 94 = .ok (.invokevirtual 138, 3) := by decide +kernel
theorem dX10_gap_97 : decode cX10_gap 97 = .ok (.ireturn, 1) := by decide +kernel
def lX10_gap_0 : List (Nat × (Op ⊕ Nat)) := [(0, .inl (o_aload 0 1)), (1, .inl (o_iload 1 2)), (2, .inl (o_callV fX10_hasArm 1 10 5)), (5, .inl (o_if_ne 14 8)), (8, .inl (o_aload 0 9)), (9, .inl (o_pushI (nI 1) 10)), (10, .inl (o_callV fX10_refuse 1 10 13)), (13, .inr 0), (14, .inl (o_pushI (nI 1000000) 17)), (17, .inl (o_istore 2 18)), (18, .inl (o_pushI ((-1)) 19)), (19, .inl (o_istore 3 20)), (20, .inl (o_pushI (nI 0) 21)), (21, .inl (o_istore 4 23)), (23, .inl (o_iload 4 25)), (25, .inl (o_aload 0 26)), (26, .inl (o_get 10 2 29)), (29, .inl (o_get 9 4 32)), (32, .inl (o_icmp_ge 80 35)), (35, .inl (o_aload 0 36)), (36, .inl (o_get 10 3 39)), (39, .inl (o_iload 1 40)), (40, .inl (o_iload 4 42)), (42, .inl (o_callV fX5_has 2 5 45)), (45, .inl (o_if_ne 51 48)), (48, .inl (o_goto 74)), (51, .inl (o_iload 3 52)), (52, .inl (o_pushI ((-1)) 53)), (53, .inl (o_icmp_eq 71 56)), (56, .inl (o_iload 2 57)), (57, .inl (o_aload 0 58)), (58, .inl (o_get 10 2 61)), (61, .inl (o_iload 3 62)), (62, .inl (o_iload 4 64)), (64, .inl (o_callV fX9_daysFrom 2 9 67)), (67, .inl (o_min 70)), (70, .inl (o_istore 2 71)), (71, .inl (o_iload 4 73)), (73, .inl (o_istore 3 74)), (74, .inl (o_iinc 4 (nI 1) 77))]
def lX10_gap_1 : List (Nat × (Op ⊕ Nat)) := [(77, .inl (o_goto 23)), (80, .inl (o_aload 0 81)), (81, .inl (o_iload 2 82)), (82, .inl (o_pushI (nI 1000000) 85)), (85, .inl (o_icmp_ne 93 88)), (88, .inl (o_pushI ((-2)) 90)), (90, .inl (o_goto 94)), (93, .inl (o_iload 2 94)), (94, .inl (o_callV fX10_answer 1 10 97)), (97, .inr 0)]
def lX10_gap : List (Nat × (Op ⊕ Nat)) := lX10_gap_0 ++ (lX10_gap_1)
theorem qX10_gap : yX10_gap.cls = RX10 ∧ yX10_gap.cls ≠ "java/lang/invoke/MethodHandle" ∧ yX10_gap.cls ≠ "java/lang/invoke/VarHandle" ∧ (parseMethodDescriptor yX10_gap.desc).map (fun d => d.parameters.length) = some 1 := by decide +kernel
set_option maxRecDepth 10000 in
theorem hX10_gap_0 (l : Launch) {p : Program} {e : Env} {s : State} {m : MethodId} {args : Array Value} {below : List Frame} {meth : Method} {c : Code} {D : va_G} {ad adV : Nat → Nat} {cA : Nat → ClassId} {K : Kt} (C0 : Cx p s m args meth c D ad adV cA cX10_gap 5 RX10) (hr : meth.sig.returnType = (some .int)) : ∀ q ∈ lX10_gap_0, Sd p l e (rmd 2) s m args below meth c (MQ below (QQ D ad cA K) args s 0 0 (AA ad)) D ad cA 5 q.1 (opOf K q.2) := List.forall_mem_cons.mpr ⟨s_aload_n C0 dX10_gap_0 rfl, List.forall_mem_cons.mpr ⟨s_iload_n C0 dX10_gap_1 rfl, List.forall_mem_cons.mpr ⟨s_callV (ci := 10) C0 (kX10_hasArm l) dX10_gap_2 rfl qX10_hasArm tw3_171 tw3_173 twp_17 tw1_1 tw3_174 rfl (by decide) (by decide), List.forall_mem_cons.mpr ⟨s_if_ne C0 dX10_gap_5 rfl, List.forall_mem_cons.mpr ⟨s_aload_n C0 dX10_gap_8 rfl, List.forall_mem_cons.mpr ⟨s_iconst C0 dX10_gap_9 rfl, List.forall_mem_cons.mpr ⟨s_callV (ci := 10) C0 (kX10_refuse l) dX10_gap_10 rfl qX10_refuse tw2_173 tw2_175 twp_0 tw1_1 tw2_176 rfl (by decide) (by decide), List.forall_mem_cons.mpr ⟨s_iret C0 hr dX10_gap_13, List.forall_mem_cons.mpr ⟨s_ldcw C0 dX10_gap_14 tw4_221, List.forall_mem_cons.mpr ⟨s_istore_n C0 dX10_gap_17 rfl (by decide), List.forall_mem_cons.mpr ⟨s_iconst C0 dX10_gap_18 rfl, List.forall_mem_cons.mpr ⟨s_istore_n C0 dX10_gap_19 rfl (by decide), List.forall_mem_cons.mpr ⟨s_iconst C0 dX10_gap_20 rfl, List.forall_mem_cons.mpr ⟨s_istore C0 dX10_gap_21 (by decide), List.forall_mem_cons.mpr ⟨s_iload C0 dX10_gap_23, List.forall_mem_cons.mpr ⟨s_aload_n C0 dX10_gap_25 rfl, List.forall_mem_cons.mpr ⟨s_get (ci := 10) (k := 2) C0 dX10_gap_26 inX10 rfl (by decide) tw2_120, List.forall_mem_cons.mpr ⟨s_get (ci := 9) (k := 4) C0 dX10_gap_29 inX9 rfl (by decide) tw1_95, List.forall_mem_cons.mpr ⟨s_icmp_ge C0 dX10_gap_32 rfl, List.forall_mem_cons.mpr ⟨s_aload_n C0 dX10_gap_35 rfl, List.forall_mem_cons.mpr ⟨s_get (ci := 10) (k := 3) C0 dX10_gap_36 inX10 rfl (by decide) tw2_121, List.forall_mem_cons.mpr ⟨s_iload_n C0 dX10_gap_39 rfl, List.forall_mem_cons.mpr ⟨s_iload C0 dX10_gap_40, List.forall_mem_cons.mpr ⟨s_callV (ci := 5) C0 (kX5_has l) dX10_gap_42 rfl qX5_has tw4_215 tw3_193 tw3_194 tw1_5 tw3_195 rfl (by decide) (by decide), List.forall_mem_cons.mpr ⟨s_if_ne C0 dX10_gap_45 rfl, List.forall_mem_cons.mpr ⟨s_goto C0 dX10_gap_48 rfl, List.forall_mem_cons.mpr ⟨s_iload_n C0 dX10_gap_51 rfl, List.forall_mem_cons.mpr ⟨s_iconst C0 dX10_gap_52 rfl, List.forall_mem_cons.mpr ⟨s_icmp_eq C0 dX10_gap_53 rfl, List.forall_mem_cons.mpr ⟨s_iload_n C0 dX10_gap_56 rfl, List.forall_mem_cons.mpr ⟨s_aload_n C0 dX10_gap_57 rfl, List.forall_mem_cons.mpr ⟨s_get (ci := 10) (k := 2) C0 dX10_gap_58 inX10 rfl (by decide) tw2_120, List.forall_mem_cons.mpr ⟨s_iload_n C0 dX10_gap_61 rfl, List.forall_mem_cons.mpr ⟨s_iload C0 dX10_gap_62, List.forall_mem_cons.mpr ⟨s_callV (ci := 9) C0 (kX9_daysFrom l) dX10_gap_64 rfl qX9_daysFrom tw4_222 tw4_60 tw4_61 tw1_4 tw4_62 rfl (by decide) (by decide), List.forall_mem_cons.mpr ⟨s_min C0 dX10_gap_67 tw4_223 tw2_195 tw1_14 twm_min rfl (by decide), List.forall_mem_cons.mpr ⟨s_istore_n C0 dX10_gap_70 rfl (by decide), List.forall_mem_cons.mpr ⟨s_iload C0 dX10_gap_71, List.forall_mem_cons.mpr ⟨s_istore_n C0 dX10_gap_73 rfl (by decide), List.forall_mem_cons.mpr ⟨s_iinc C0 dX10_gap_74 rfl (by decide), fun _ h => absurd h List.not_mem_nil⟩⟩⟩⟩⟩⟩⟩⟩⟩⟩⟩⟩⟩⟩⟩⟩⟩⟩⟩⟩⟩⟩⟩⟩⟩⟩⟩⟩⟩⟩⟩⟩⟩⟩⟩⟩⟩⟩⟩⟩
set_option maxRecDepth 10000 in
theorem hX10_gap_1 (l : Launch) {p : Program} {e : Env} {s : State} {m : MethodId} {args : Array Value} {below : List Frame} {meth : Method} {c : Code} {D : va_G} {ad adV : Nat → Nat} {cA : Nat → ClassId} {K : Kt} (C0 : Cx p s m args meth c D ad adV cA cX10_gap 5 RX10) (hr : meth.sig.returnType = (some .int)) : ∀ q ∈ lX10_gap_1, Sd p l e (rmd 2) s m args below meth c (MQ below (QQ D ad cA K) args s 0 0 (AA ad)) D ad cA 5 q.1 (opOf K q.2) := List.forall_mem_cons.mpr ⟨s_goto C0 dX10_gap_77 rfl, List.forall_mem_cons.mpr ⟨s_aload_n C0 dX10_gap_80 rfl, List.forall_mem_cons.mpr ⟨s_iload_n C0 dX10_gap_81 rfl, List.forall_mem_cons.mpr ⟨s_ldcw C0 dX10_gap_82 tw4_221, List.forall_mem_cons.mpr ⟨s_icmp_ne C0 dX10_gap_85 rfl, List.forall_mem_cons.mpr ⟨s_bipush C0 dX10_gap_88 (by decide +kernel), List.forall_mem_cons.mpr ⟨s_goto C0 dX10_gap_90 rfl, List.forall_mem_cons.mpr ⟨s_iload_n C0 dX10_gap_93 rfl, List.forall_mem_cons.mpr ⟨s_callV (ci := 10) C0 (kX10_answer l) dX10_gap_94 rfl qX10_answer tw3_139 tw3_141 twp_14 tw1_1 tw3_142 rfl (by decide) (by decide), List.forall_mem_cons.mpr ⟨s_iret C0 hr dX10_gap_97, fun _ h => absurd h List.not_mem_nil⟩⟩⟩⟩⟩⟩⟩⟩⟩⟩
def fX10_gap : Mf := mf 5 (fun K => tl K lX10_gap)
theorem kX10_gap (l : Launch) : Okm l yX10_gap cX10_gap 5 (some .int) 2 fX10_gap := Okm_tl (own := RX10) (by decide +kernel) rfl (fun C0 hr => List.forall_mem_append.mpr ⟨hX10_gap_0 l C0 hr, hX10_gap_1 l C0 hr⟩)
theorem dX10_hands_0 : decode cX10_hands 0 = .ok (.aload_n 0, 1) := by decide +kernel
theorem dX10_hands_1 : decode cX10_hands 1 = .ok (.iload_n 1, 1) := by decide +kernel
theorem dX10_hands_2 : decode cX10_hands 2 = .ok (.invokevirtual 184, 3) := by decide +kernel
theorem dX10_hands_5 : decode cX10_hands 5 = .ok (.ifCond .ne 9, 3) := by decide +kernel
theorem dX10_hands_8 : decode cX10_hands 8 = .ok (.aload_n 0, 1) := by decide +kernel
theorem dX10_hands_9 : decode cX10_hands 9 = .ok (.iconst 1, 1) := by decide +kernel
theorem dX10_hands_10 : decode cX10_hands 10 = .ok (.invokevirtual 108, 3) := by decide +kernel
theorem dX10_hands_13 : decode cX10_hands 13 = .ok (.ireturn, 1) := by decide +kernel
theorem dX10_hands_14 : decode cX10_hands 14 = .ok (.iconst 0, 1) := by decide +kernel
theorem dX10_hands_15 : decode cX10_hands 15 = .ok (.istore_n 3, 1) := by decide +kernel
theorem dX10_hands_16 : decode cX10_hands 16 = .ok (.iconst 0, 1) := by decide +kernel
theorem dX10_hands_17 : decode cX10_hands 17 = .ok (.istore 4, 2) := by decide +kernel
theorem dX10_hands_19 : decode cX10_hands 19 = .ok (.iload 4, 2) := by decide +kernel
theorem dX10_hands_21 : decode cX10_hands 21 = .ok (.aload_n 0, 1) := by decide +kernel
theorem dX10_hands_22 : decode cX10_hands 22 = .ok (.getfield 35, 3) := by decide +kernel
theorem dX10_hands_25 : decode cX10_hands 25 = .ok (.getfield 193, 3) := by decide +kernel
theorem dX10_hands_28 : decode cX10_hands 28 = .ok (.iload_n 1, 1) := by decide +kernel
theorem dX10_hands_29 : decode cX10_hands 29 = .ok (.iaload, 1) := by decide +kernel
theorem dX10_hands_30 : decode cX10_hands 30 = .ok (.if_icmp .ge 57, 3) := by decide +kernel
theorem dX10_hands_33 : decode cX10_hands 33 = .ok (.aload_n 0, 1) := by decide +kernel
theorem dX10_hands_34 : decode cX10_hands 34 = .ok (.getfield 28, 3) := by decide +kernel
theorem dX10_hands_37 : decode cX10_hands 37 = .ok (.getfield 169, 3) := by decide +kernel
theorem dX10_hands_40 : decode cX10_hands 40 = .ok (.aload_n 0, 1) := by decide +kernel
theorem dX10_hands_41 : decode cX10_hands 41 = .ok (.getfield 35, 3) := by decide +kernel
theorem dX10_hands_44 : decode cX10_hands 44 = .ok (.iload_n 1, 1) := by decide +kernel
theorem dX10_hands_45 : decode cX10_hands 45 = .ok (.iload 4, 2) := by decide +kernel
theorem dX10_hands_47 : decode cX10_hands 47 = .ok (.invokevirtual 213, 3) := by decide +kernel
theorem dX10_hands_50 : decode cX10_hands 50 = .ok (.iaload, 1) := by decide +kernel
theorem dX10_hands_51 : decode cX10_hands 51 = .ok (.iconst 1, 1) := by decide +kernel
theorem dX10_hands_52 : decode cX10_hands 52 = .ok (.if_icmp .ne 7, 3) := by decide +kernel
theorem dX10_hands_55 : decode cX10_hands 55 = .ok (.iconst 1, 1) := by decide +kernel
theorem dX10_hands_56 : decode cX10_hands 56 = .ok (.goto 4, 3) := by decide +kernel
theorem dX10_hands_59 : decode cX10_hands 59 = .ok (.iconst 0, 1) := by decide +kernel
theorem dX10_hands_60 : decode cX10_hands 60 = .ok (.istore 5, 2) := by decide +kernel
theorem dX10_hands_62 : decode cX10_hands 62 = .ok (.iload 5, 2) := by decide +kernel
theorem dX10_hands_64 : decode cX10_hands 64 = .ok (.iload_n 2, 1) := by decide +kernel
theorem dX10_hands_65 : decode cX10_hands 65 = .ok (.if_icmp .ne 16, 3) := by decide +kernel
theorem dX10_hands_68 : decode cX10_hands 68 = .ok (.iload_n 3, 1) := by decide +kernel
theorem dX10_hands_69 : decode cX10_hands 69 = .ok (.aload_n 0, 1) := by decide +kernel
theorem dX10_hands_70 : decode cX10_hands 70 = .ok (.getfield 35, 3) := by decide +kernel
theorem dX10_hands_73 : decode cX10_hands 73 = .ok (.iload_n 1, 1) := by decide +kernel
theorem dX10_hands_74 : decode cX10_hands 74 = .ok (.iload 4, 2) := by decide +kernel
theorem dX10_hands_76 : decode cX10_hands 76 = .ok (.invokevirtual 216, 3) := by decide +kernel
theorem dX10_hands_79 : decode cX10_hands 79 = .ok (.iadd, 1) := by decide +kernel
theorem dX10_hands_80 : decode cX10_hands 80 = .ok (.istore_n 3, 1) := by decide +kernel
theorem dX10_hands_81 : decode cX10_hands 81 = .ok (.iinc 4 1, 3) := by decide +kernel
theorem dX10_hands_84 : decode cX10_hands 84 = .ok (.goto (-65), 3) := by decide +kernel
theorem dX10_hands_87 : decode cX10_hands 87 = .ok (.aload_n 0, 1) := by decide +kernel
theorem dX10_hands_88 : decode cX10_hands 88 = .ok (.iload_n 3, 1) := by decide +kernel
theorem dX10_hands_89 : decode cX10_hands 89 = .ok (.invokevirtual 138, 3) := by decide +kernel
theorem dX10_hands_92 : decode cX10_hands 92 = .ok (.ireturn, 1) := by decide +kernel
def lX10_hands_0 : List (Nat × (Op ⊕ Nat)) := [(0, .inl (o_aload 0 1)), (1, .inl (o_iload 1 2)), (2, .inl (o_callV fX10_hasGame 1 10 5)), (5, .inl (o_if_ne 14 8)), (8, .inl (o_aload 0 9)), (9, .inl (o_pushI (nI 1) 10)), (10, .inl (o_callV fX10_refuse 1 10 13)), (13, .inr 0), (14, .inl (o_pushI (nI 0) 15)), (15, .inl (o_istore 3 16)), (16, .inl (o_pushI (nI 0) 17)), (17, .inl (o_istore 4 19)), (19, .inl (o_iload 4 21)), (21, .inl (o_aload 0 22)), (22, .inl (o_get 10 3 25)), (25, .inl (o_get 5 0 28)), (28, .inl (o_iload 1 29)), (29, .inl (o_iald 30)), (30, .inl (o_icmp_ge 87 33)), (33, .inl (o_aload 0 34)), (34, .inl (o_get 10 2 37)), (37, .inl (o_get 9 2 40)), (40, .inl (o_aload 0 41)), (41, .inl (o_get 10 3 44)), (44, .inl (o_iload 1 45)), (45, .inl (o_iload 4 47)), (47, .inl (o_callV fX5_armAt 2 5 50)), (50, .inl (o_iald 51)), (51, .inl (o_pushI (nI 1) 52)), (52, .inl (o_icmp_ne 59 55)), (55, .inl (o_pushI (nI 1) 56)), (56, .inl (o_goto 60)), (59, .inl (o_pushI (nI 0) 60)), (60, .inl (o_istore 5 62)), (62, .inl (o_iload 5 64)), (64, .inl (o_iload 2 65)), (65, .inl (o_icmp_ne 81 68)), (68, .inl (o_iload 3 69)), (69, .inl (o_aload 0 70)), (70, .inl (o_get 10 3 73))]
def lX10_hands_1 : List (Nat × (Op ⊕ Nat)) := [(73, .inl (o_iload 1 74)), (74, .inl (o_iload 4 76)), (76, .inl (o_callV fX5_throwsAt 2 5 79)), (79, .inl (o_iadd 80)), (80, .inl (o_istore 3 81)), (81, .inl (o_iinc 4 (nI 1) 84)), (84, .inl (o_goto 19)), (87, .inl (o_aload 0 88)), (88, .inl (o_iload 3 89)), (89, .inl (o_callV fX10_answer 1 10 92)), (92, .inr 0)]
def lX10_hands : List (Nat × (Op ⊕ Nat)) := lX10_hands_0 ++ (lX10_hands_1)
theorem qX10_hands : yX10_hands.cls = RX10 ∧ yX10_hands.cls ≠ "java/lang/invoke/MethodHandle" ∧ yX10_hands.cls ≠ "java/lang/invoke/VarHandle" ∧ (parseMethodDescriptor yX10_hands.desc).map (fun d => d.parameters.length) = some 2 := by decide +kernel
set_option maxRecDepth 10000 in
theorem hX10_hands_0 (l : Launch) {p : Program} {e : Env} {s : State} {m : MethodId} {args : Array Value} {below : List Frame} {meth : Method} {c : Code} {D : va_G} {ad adV : Nat → Nat} {cA : Nat → ClassId} {K : Kt} (C0 : Cx p s m args meth c D ad adV cA cX10_hands 6 RX10) (hr : meth.sig.returnType = (some .int)) : ∀ q ∈ lX10_hands_0, Sd p l e (rmd 2) s m args below meth c (MQ below (QQ D ad cA K) args s 0 0 (AA ad)) D ad cA 6 q.1 (opOf K q.2) := List.forall_mem_cons.mpr ⟨s_aload_n C0 dX10_hands_0 rfl, List.forall_mem_cons.mpr ⟨s_iload_n C0 dX10_hands_1 rfl, List.forall_mem_cons.mpr ⟨s_callV (ci := 10) C0 (kX10_hasGame l) dX10_hands_2 rfl qX10_hasGame tw3_217 tw3_219 twp_19 tw1_1 tw3_220 rfl (by decide) (by decide), List.forall_mem_cons.mpr ⟨s_if_ne C0 dX10_hands_5 rfl, List.forall_mem_cons.mpr ⟨s_aload_n C0 dX10_hands_8 rfl, List.forall_mem_cons.mpr ⟨s_iconst C0 dX10_hands_9 rfl, List.forall_mem_cons.mpr ⟨s_callV (ci := 10) C0 (kX10_refuse l) dX10_hands_10 rfl qX10_refuse tw2_173 tw2_175 twp_0 tw1_1 tw2_176 rfl (by decide) (by decide), List.forall_mem_cons.mpr ⟨s_iret C0 hr dX10_hands_13, List.forall_mem_cons.mpr ⟨s_iconst C0 dX10_hands_14 rfl, List.forall_mem_cons.mpr ⟨s_istore_n C0 dX10_hands_15 rfl (by decide), List.forall_mem_cons.mpr ⟨s_iconst C0 dX10_hands_16 rfl, List.forall_mem_cons.mpr ⟨s_istore C0 dX10_hands_17 (by decide), List.forall_mem_cons.mpr ⟨s_iload C0 dX10_hands_19, List.forall_mem_cons.mpr ⟨s_aload_n C0 dX10_hands_21 rfl, List.forall_mem_cons.mpr ⟨s_get (ci := 10) (k := 3) C0 dX10_hands_22 inX10 rfl (by decide) tw2_121, List.forall_mem_cons.mpr ⟨s_get (ci := 5) (k := 0) C0 dX10_hands_25 inX5 rfl (by decide) tw1_171, List.forall_mem_cons.mpr ⟨s_iload_n C0 dX10_hands_28 rfl, List.forall_mem_cons.mpr ⟨s_iald C0 dX10_hands_29, List.forall_mem_cons.mpr ⟨s_icmp_ge C0 dX10_hands_30 rfl, List.forall_mem_cons.mpr ⟨s_aload_n C0 dX10_hands_33 rfl, List.forall_mem_cons.mpr ⟨s_get (ci := 10) (k := 2) C0 dX10_hands_34 inX10 rfl (by decide) tw2_120, List.forall_mem_cons.mpr ⟨s_get (ci := 9) (k := 2) C0 dX10_hands_37 inX9 rfl (by decide) tw1_90, List.forall_mem_cons.mpr ⟨s_aload_n C0 dX10_hands_40 rfl, List.forall_mem_cons.mpr ⟨s_get (ci := 10) (k := 3) C0 dX10_hands_41 inX10 rfl (by decide) tw2_121, List.forall_mem_cons.mpr ⟨s_iload_n C0 dX10_hands_44 rfl, List.forall_mem_cons.mpr ⟨s_iload C0 dX10_hands_45, List.forall_mem_cons.mpr ⟨s_callV (ci := 5) C0 (kX5_armAt l) dX10_hands_47 rfl qX5_armAt tw4_20 tw3_128 tw3_129 tw1_5 tw3_130 rfl (by decide) (by decide), List.forall_mem_cons.mpr ⟨s_iald C0 dX10_hands_50, List.forall_mem_cons.mpr ⟨s_iconst C0 dX10_hands_51 rfl, List.forall_mem_cons.mpr ⟨s_icmp_ne C0 dX10_hands_52 rfl, List.forall_mem_cons.mpr ⟨s_iconst C0 dX10_hands_55 rfl, List.forall_mem_cons.mpr ⟨s_goto C0 dX10_hands_56 rfl, List.forall_mem_cons.mpr ⟨s_iconst C0 dX10_hands_59 rfl, List.forall_mem_cons.mpr ⟨s_istore C0 dX10_hands_60 (by decide), List.forall_mem_cons.mpr ⟨s_iload C0 dX10_hands_62, List.forall_mem_cons.mpr ⟨s_iload_n C0 dX10_hands_64 rfl, List.forall_mem_cons.mpr ⟨s_icmp_ne C0 dX10_hands_65 rfl, List.forall_mem_cons.mpr ⟨s_iload_n C0 dX10_hands_68 rfl, List.forall_mem_cons.mpr ⟨s_aload_n C0 dX10_hands_69 rfl, List.forall_mem_cons.mpr ⟨s_get (ci := 10) (k := 3) C0 dX10_hands_70 inX10 rfl (by decide) tw2_121, fun _ h => absurd h List.not_mem_nil⟩⟩⟩⟩⟩⟩⟩⟩⟩⟩⟩⟩⟩⟩⟩⟩⟩⟩⟩⟩⟩⟩⟩⟩⟩⟩⟩⟩⟩⟩⟩⟩⟩⟩⟩⟩⟩⟩⟩⟩
set_option maxRecDepth 10000 in
theorem hX10_hands_1 (l : Launch) {p : Program} {e : Env} {s : State} {m : MethodId} {args : Array Value} {below : List Frame} {meth : Method} {c : Code} {D : va_G} {ad adV : Nat → Nat} {cA : Nat → ClassId} {K : Kt} (C0 : Cx p s m args meth c D ad adV cA cX10_hands 6 RX10) (hr : meth.sig.returnType = (some .int)) : ∀ q ∈ lX10_hands_1, Sd p l e (rmd 2) s m args below meth c (MQ below (QQ D ad cA K) args s 0 0 (AA ad)) D ad cA 6 q.1 (opOf K q.2) := List.forall_mem_cons.mpr ⟨s_iload_n C0 dX10_hands_73 rfl, List.forall_mem_cons.mpr ⟨s_iload C0 dX10_hands_74, List.forall_mem_cons.mpr ⟨s_callV (ci := 5) C0 (kX5_throwsAt l) dX10_hands_76 rfl qX5_throwsAt tw4_21 tw3_132 tw3_133 tw1_5 tw3_134 rfl (by decide) (by decide), List.forall_mem_cons.mpr ⟨s_iadd C0 dX10_hands_79, List.forall_mem_cons.mpr ⟨s_istore_n C0 dX10_hands_80 rfl (by decide), List.forall_mem_cons.mpr ⟨s_iinc C0 dX10_hands_81 rfl (by decide), List.forall_mem_cons.mpr ⟨s_goto C0 dX10_hands_84 rfl, List.forall_mem_cons.mpr ⟨s_aload_n C0 dX10_hands_87 rfl, List.forall_mem_cons.mpr ⟨s_iload_n C0 dX10_hands_88 rfl, List.forall_mem_cons.mpr ⟨s_callV (ci := 10) C0 (kX10_answer l) dX10_hands_89 rfl qX10_answer tw3_139 tw3_141 twp_14 tw1_1 tw3_142 rfl (by decide) (by decide), List.forall_mem_cons.mpr ⟨s_iret C0 hr dX10_hands_92, fun _ h => absurd h List.not_mem_nil⟩⟩⟩⟩⟩⟩⟩⟩⟩⟩⟩
def fX10_hands : Mf := mf 6 (fun K => tl K lX10_hands)
theorem kX10_hands (l : Launch) : Okm l yX10_hands cX10_hands 6 (some .int) 2 fX10_hands := Okm_tl (own := RX10) (by decide +kernel) rfl (fun C0 hr => List.forall_mem_append.mpr ⟨hX10_hands_0 l C0 hr, hX10_hands_1 l C0 hr⟩)
theorem dX10_bare_0 : decode cX10_bare 0 = .ok (.aload_n 0, 1) := by decide +kernel
theorem dX10_bare_1 : decode cX10_bare 1 = .ok (.invokevirtual 141, 3) := by decide +kernel
theorem dX10_bare_4 : decode cX10_bare 4 = .ok (.ifCond .eq 7, 3) := by decide +kernel
theorem dX10_bare_7 : decode cX10_bare 7 = .ok (.iload_n 1, 1) := by decide +kernel
theorem dX10_bare_8 : decode cX10_bare 8 = .ok (.ifCond .ge 9, 3) := by decide +kernel
theorem dX10_bare_11 : decode cX10_bare 11 = .ok (.aload_n 0, 1) := by decide +kernel
theorem dX10_bare_12 : decode cX10_bare 12 = .ok (.iconst 1, 1) := by decide +kernel
theorem dX10_bare_13 : decode cX10_bare 13 = .ok (.invokevirtual 108, 3) := by decide +kernel
theorem dX10_bare_16 : decode cX10_bare 16 = .ok (.ireturn, 1) := by decide +kernel
theorem dX10_bare_17 : decode cX10_bare 17 = .ok (.iconst 0, 1) := by decide +kernel
theorem dX10_bare_18 : decode cX10_bare 18 = .ok (.istore_n 2, 1) := by decide +kernel
theorem dX10_bare_19 : decode cX10_bare 19 = .ok (.iconst 0, 1) := by decide +kernel
theorem dX10_bare_20 : decode cX10_bare 20 = .ok (.istore_n 3, 1) := by decide +kernel
theorem dX10_bare_21 : decode cX10_bare 21 = .ok (.iload_n 3, 1) := by decide +kernel
theorem dX10_bare_22 : decode cX10_bare 22 = .ok (.aload_n 0, 1) := by decide +kernel
theorem dX10_bare_23 : decode cX10_bare 23 = .ok (.getfield 28, 3) := by decide +kernel
theorem dX10_bare_26 : decode cX10_bare 26 = .ok (.getfield 135, 3) := by decide +kernel
theorem dX10_bare_29 : decode cX10_bare 29 = .ok (.if_icmp .ge 38, 3) := by decide +kernel
theorem dX10_bare_32 : decode cX10_bare 32 = .ok (.aload_n 0, 1) := by decide +kernel
theorem dX10_bare_33 : decode cX10_bare 33 = .ok (.getfield 35, 3) := by decide +kernel
theorem dX10_bare_36 : decode cX10_bare 36 = .ok (.getfield 193, 3) := by decide +kernel
theorem dX10_bare_39 : decode cX10_bare 39 = .ok (.iload_n 3, 1) := by decide +kernel
theorem dX10_bare_40 : decode cX10_bare 40 = .ok (.iaload, 1) := by decide +kernel
theorem dX10_bare_41 : decode cX10_bare 41 = .ok (.ifCond .le 6, 3) := by decide +kernel
theorem dX10_bare_44 : decode cX10_bare 44 = .ok (.goto 17, 3) := by decide +kernel
theorem dX10_bare_47 : decode cX10_bare 47 = .ok (.iload_n 2, 1) := by decide +kernel
theorem dX10_bare_48 : decode cX10_bare 48 = .ok (.iload_n 1, 1) := by decide +kernel
theorem dX10_bare_49 : decode cX10_bare 49 = .ok (.if_icmp .ne 9, 3) := by decide +kernel
theorem dX10_bare_52 : decode cX10_bare 52 = .ok (.aload_n 0, 1) := by decide +kernel
theorem dX10_bare_53 : decode cX10_bare 53 = .ok (.iload_n 3, 1) := by decide +kernel
theorem dX10_bare_54 : decode cX10_bare 54 = .ok (.invokevirtual 138, 3) := by decide +kernel
theorem dX10_bare_57 : decode cX10_bare 57 = .ok (.ireturn, 1) := by decide +kernel
theorem dX10_bare_58 : decode cX10_bare 58 = .ok (.iinc 2 1, 3) := by decide +kernel
theorem dX10_bare_61 : decode cX10_bare 61 = .ok (.iinc 3 1, 3) := by decide +kernel
theorem dX10_bare_64 : decode cX10_bare 64 = .ok (.goto (-43), 3) := by decide +kernel
theorem dX10_bare_67 : decode cX10_bare 67 = .ok (.aload_n 0, 1) := by decide +kernel
theorem dX10_bare_68 : decode cX10_bare 68 = .ok (.bipush (-2), 2) := by decide +kernel
theorem dX10_bare_70 : decode cX10_bare 70 = .ok (.invokevirtual 138, 3) := by decide +kernel
theorem dX10_bare_73 : decode cX10_bare 73 = .ok (.ireturn, 1) := by decide +kernel
def lX10_bare : List (Nat × (Op ⊕ Nat)) := [(0, .inl (o_aload 0 1)), (1, .inl (o_callV fX10_hasText 0 10 4)), (4, .inl (o_if_eq 11 7)), (7, .inl (o_iload 1 8)), (8, .inl (o_if_ge 17 11)), (11, .inl (o_aload 0 12)), (12, .inl (o_pushI (nI 1) 13)), (13, .inl (o_callV fX10_refuse 1 10 16)), (16, .inr 0), (17, .inl (o_pushI (nI 0) 18)), (18, .inl (o_istore 2 19)), (19, .inl (o_pushI (nI 0) 20)), (20, .inl (o_istore 3 21)), (21, .inl (o_iload 3 22)), (22, .inl (o_aload 0 23)), (23, .inl (o_get 10 2 26)), (26, .inl (o_get 9 4 29)), (29, .inl (o_icmp_ge 67 32)), (32, .inl (o_aload 0 33)), (33, .inl (o_get 10 3 36)), (36, .inl (o_get 5 0 39)), (39, .inl (o_iload 3 40)), (40, .inl (o_iald 41)), (41, .inl (o_if_le 47 44)), (44, .inl (o_goto 61)), (47, .inl (o_iload 2 48)), (48, .inl (o_iload 1 49)), (49, .inl (o_icmp_ne 58 52)), (52, .inl (o_aload 0 53)), (53, .inl (o_iload 3 54)), (54, .inl (o_callV fX10_answer 1 10 57)), (57, .inr 0), (58, .inl (o_iinc 2 (nI 1) 61)), (61, .inl (o_iinc 3 (nI 1) 64)), (64, .inl (o_goto 21)), (67, .inl (o_aload 0 68)), (68, .inl (o_pushI ((-2)) 70)), (70, .inl (o_callV fX10_answer 1 10 73)), (73, .inr 0)]
theorem qX10_bare : yX10_bare.cls = RX10 ∧ yX10_bare.cls ≠ "java/lang/invoke/MethodHandle" ∧ yX10_bare.cls ≠ "java/lang/invoke/VarHandle" ∧ (parseMethodDescriptor yX10_bare.desc).map (fun d => d.parameters.length) = some 1 := by decide +kernel
set_option maxRecDepth 10000 in
theorem hX10_bare_0 (l : Launch) {p : Program} {e : Env} {s : State} {m : MethodId} {args : Array Value} {below : List Frame} {meth : Method} {c : Code} {D : va_G} {ad adV : Nat → Nat} {cA : Nat → ClassId} {K : Kt} (C0 : Cx p s m args meth c D ad adV cA cX10_bare 4 RX10) (hr : meth.sig.returnType = (some .int)) : ∀ q ∈ lX10_bare, Sd p l e (rmd 1) s m args below meth c (MQ below (QQ D ad cA K) args s 0 0 (AA ad)) D ad cA 4 q.1 (opOf K q.2) := List.forall_mem_cons.mpr ⟨s_aload_n C0 dX10_bare_0 rfl, List.forall_mem_cons.mpr ⟨s_callV (ci := 10) C0 (kX10_hasText l) dX10_bare_1 rfl qX10_hasText tw3_155 tw3_157 twp_15 tw1_1 tw3_158 rfl (by decide) (by decide), List.forall_mem_cons.mpr ⟨s_if_eq C0 dX10_bare_4 rfl, List.forall_mem_cons.mpr ⟨s_iload_n C0 dX10_bare_7 rfl, List.forall_mem_cons.mpr ⟨s_if_ge C0 dX10_bare_8 rfl, List.forall_mem_cons.mpr ⟨s_aload_n C0 dX10_bare_11 rfl, List.forall_mem_cons.mpr ⟨s_iconst C0 dX10_bare_12 rfl, List.forall_mem_cons.mpr ⟨s_callV (ci := 10) C0 (kX10_refuse l) dX10_bare_13 rfl qX10_refuse tw2_173 tw2_175 twp_0 tw1_1 tw2_176 rfl (by decide) (by decide), List.forall_mem_cons.mpr ⟨s_iret C0 hr dX10_bare_16, List.forall_mem_cons.mpr ⟨s_iconst C0 dX10_bare_17 rfl, List.forall_mem_cons.mpr ⟨s_istore_n C0 dX10_bare_18 rfl (by decide), List.forall_mem_cons.mpr ⟨s_iconst C0 dX10_bare_19 rfl, List.forall_mem_cons.mpr ⟨s_istore_n C0 dX10_bare_20 rfl (by decide), List.forall_mem_cons.mpr ⟨s_iload_n C0 dX10_bare_21 rfl, List.forall_mem_cons.mpr ⟨s_aload_n C0 dX10_bare_22 rfl, List.forall_mem_cons.mpr ⟨s_get (ci := 10) (k := 2) C0 dX10_bare_23 inX10 rfl (by decide) tw2_120, List.forall_mem_cons.mpr ⟨s_get (ci := 9) (k := 4) C0 dX10_bare_26 inX9 rfl (by decide) tw1_95, List.forall_mem_cons.mpr ⟨s_icmp_ge C0 dX10_bare_29 rfl, List.forall_mem_cons.mpr ⟨s_aload_n C0 dX10_bare_32 rfl, List.forall_mem_cons.mpr ⟨s_get (ci := 10) (k := 3) C0 dX10_bare_33 inX10 rfl (by decide) tw2_121, List.forall_mem_cons.mpr ⟨s_get (ci := 5) (k := 0) C0 dX10_bare_36 inX5 rfl (by decide) tw1_171, List.forall_mem_cons.mpr ⟨s_iload_n C0 dX10_bare_39 rfl, List.forall_mem_cons.mpr ⟨s_iald C0 dX10_bare_40, List.forall_mem_cons.mpr ⟨s_if_le C0 dX10_bare_41 rfl, List.forall_mem_cons.mpr ⟨s_goto C0 dX10_bare_44 rfl, List.forall_mem_cons.mpr ⟨s_iload_n C0 dX10_bare_47 rfl, List.forall_mem_cons.mpr ⟨s_iload_n C0 dX10_bare_48 rfl, List.forall_mem_cons.mpr ⟨s_icmp_ne C0 dX10_bare_49 rfl, List.forall_mem_cons.mpr ⟨s_aload_n C0 dX10_bare_52 rfl, List.forall_mem_cons.mpr ⟨s_iload_n C0 dX10_bare_53 rfl, List.forall_mem_cons.mpr ⟨s_callV (ci := 10) C0 (kX10_answer l) dX10_bare_54 rfl qX10_answer tw3_139 tw3_141 twp_14 tw1_1 tw3_142 rfl (by decide) (by decide), List.forall_mem_cons.mpr ⟨s_iret C0 hr dX10_bare_57, List.forall_mem_cons.mpr ⟨s_iinc C0 dX10_bare_58 rfl (by decide), List.forall_mem_cons.mpr ⟨s_iinc C0 dX10_bare_61 rfl (by decide), List.forall_mem_cons.mpr ⟨s_goto C0 dX10_bare_64 rfl, List.forall_mem_cons.mpr ⟨s_aload_n C0 dX10_bare_67 rfl, List.forall_mem_cons.mpr ⟨s_bipush C0 dX10_bare_68 (by decide +kernel), List.forall_mem_cons.mpr ⟨s_callV (ci := 10) C0 (kX10_answer l) dX10_bare_70 rfl qX10_answer tw3_139 tw3_141 twp_14 tw1_1 tw3_142 rfl (by decide) (by decide), List.forall_mem_cons.mpr ⟨s_iret C0 hr dX10_bare_73, fun _ h => absurd h List.not_mem_nil⟩⟩⟩⟩⟩⟩⟩⟩⟩⟩⟩⟩⟩⟩⟩⟩⟩⟩⟩⟩⟩⟩⟩⟩⟩⟩⟩⟩⟩⟩⟩⟩⟩⟩⟩⟩⟩⟩⟩
def fX10_bare : Mf := mf 4 (fun K => tl K lX10_bare)
theorem kX10_bare (l : Launch) : Okm l yX10_bare cX10_bare 4 (some .int) 1 fX10_bare := Okm_tl (own := RX10) (by decide +kernel) rfl (fun C0 hr => hX10_bare_0 l C0 hr)
theorem dX10_risk_0 : decode cX10_risk 0 = .ok (.aload_n 0, 1) := by decide +kernel
theorem dX10_risk_1 : decode cX10_risk 1 = .ok (.iload_n 1, 1) := by decide +kernel
theorem dX10_risk_2 : decode cX10_risk 2 = .ok (.invokevirtual 162, 3) := by decide +kernel
theorem dX10_risk_5 : decode cX10_risk 5 = .ok (.ifCond .ne 9, 3) := by decide +kernel
theorem dX10_risk_8 : decode cX10_risk 8 = .ok (.aload_n 0, 1) := by decide +kernel
theorem dX10_risk_9 : decode cX10_risk 9 = .ok (.iconst 1, 1) := by decide +kernel
theorem dX10_risk_10 : decode cX10_risk 10 = .ok (.invokevirtual 108, 3) := by decide +kernel
theorem dX10_risk_13 : decode cX10_risk 13 = .ok (.ireturn, 1) := by decide +kernel
theorem dX10_risk_14 : decode cX10_risk 14 = .ok (.iconst 0, 1) := by decide +kernel
theorem dX10_risk_15 : decode cX10_risk 15 = .ok (.istore_n 2, 1) := by decide +kernel
theorem dX10_risk_16 : decode cX10_risk 16 = .ok (.iconst 0, 1) := by decide +kernel
theorem dX10_risk_17 : decode cX10_risk 17 = .ok (.istore_n 3, 1) := by decide +kernel
theorem dX10_risk_18 : decode cX10_risk 18 = .ok (.iload_n 3, 1) := by decide +kernel
theorem dX10_risk_19 : decode cX10_risk 19 = .ok (.aload_n 0, 1) := by decide +kernel
theorem dX10_risk_20 : decode cX10_risk 20 = .ok (.getfield 28, 3) := by decide +kernel
theorem dX10_risk_23 : decode cX10_risk 23 = .ok (.getfield 135, 3) := by decide +kernel
theorem dX10_risk_26 : decode cX10_risk 26 = .ok (.if_icmp .ge 29, 3) := by decide +kernel
theorem dX10_risk_29 : decode cX10_risk 29 = .ok (.iload_n 2, 1) := by decide +kernel
theorem dX10_risk_30 : decode cX10_risk 30 = .ok (.aload_n 0, 1) := by decide +kernel
theorem dX10_risk_31 : decode cX10_risk 31 = .ok (.getfield 44, 3) := by decide +kernel
theorem dX10_risk_34 : decode cX10_risk 34 = .ok (.iload_n 1, 1) := by decide +kernel
theorem dX10_risk_35 : decode cX10_risk 35 = .ok (.aload_n 0, 1) := by decide +kernel
theorem dX10_risk_36 : decode cX10_risk 36 = .ok (.getfield 35, 3) := by decide +kernel
theorem dX10_risk_39 : decode cX10_risk 39 = .ok (.iload_n 1, 1) := by decide +kernel
theorem dX10_risk_40 : decode cX10_risk 40 = .ok (.iload_n 3, 1) := by decide +kernel
theorem dX10_risk_41 : decode cX10_risk 41 = .ok (.invokevirtual 292, 3) := by decide +kernel
theorem dX10_risk_44 : decode cX10_risk 44 = .ok (.invokevirtual 295, 3) := by decide +kernel
theorem dX10_risk_47 : decode cX10_risk 47 = .ok (.iadd, 1) := by decide +kernel
theorem dX10_risk_48 : decode cX10_risk 48 = .ok (.istore_n 2, 1) := by decide +kernel
theorem dX10_risk_49 : decode cX10_risk 49 = .ok (.iinc 3 1, 3) := by decide +kernel
theorem dX10_risk_52 : decode cX10_risk 52 = .ok (.goto (-34), 3) := by decide +kernel
theorem dX10_risk_55 : decode cX10_risk 55 = .ok (.aload_n 0, 1) := by decide +kernel
theorem dX10_risk_56 : decode cX10_risk 56 = .ok (.iload_n 2, 1) := by decide +kernel
theorem dX10_risk_57 : decode cX10_risk 57 = .ok (.invokevirtual 138, 3) := by decide +kernel
theorem dX10_risk_60 : decode cX10_risk 60 = .ok (.ireturn, 1) := by decide +kernel
def lX10_risk : List (Nat × (Op ⊕ Nat)) := [(0, .inl (o_aload 0 1)), (1, .inl (o_iload 1 2)), (2, .inl (o_callV fX10_hasArm 1 10 5)), (5, .inl (o_if_ne 14 8)), (8, .inl (o_aload 0 9)), (9, .inl (o_pushI (nI 1) 10)), (10, .inl (o_callV fX10_refuse 1 10 13)), (13, .inr 0), (14, .inl (o_pushI (nI 0) 15)), (15, .inl (o_istore 2 16)), (16, .inl (o_pushI (nI 0) 17)), (17, .inl (o_istore 3 18)), (18, .inl (o_iload 3 19)), (19, .inl (o_aload 0 20)), (20, .inl (o_get 10 2 23)), (23, .inl (o_get 9 4 26)), (26, .inl (o_icmp_ge 55 29)), (29, .inl (o_iload 2 30)), (30, .inl (o_aload 0 31)), (31, .inl (o_get 10 4 34)), (34, .inl (o_iload 1 35)), (35, .inl (o_aload 0 36)), (36, .inl (o_get 10 3 39)), (39, .inl (o_iload 1 40)), (40, .inl (o_iload 3 41)), (41, .inl (o_callV fX5_loadOf 2 5 44)), (44, .inl (o_callV fX1_riskOf 2 1 47)), (47, .inl (o_iadd 48)), (48, .inl (o_istore 2 49)), (49, .inl (o_iinc 3 (nI 1) 52)), (52, .inl (o_goto 18)), (55, .inl (o_aload 0 56)), (56, .inl (o_iload 2 57)), (57, .inl (o_callV fX10_answer 1 10 60)), (60, .inr 0)]
theorem qX10_risk : yX10_risk.cls = RX10 ∧ yX10_risk.cls ≠ "java/lang/invoke/MethodHandle" ∧ yX10_risk.cls ≠ "java/lang/invoke/VarHandle" ∧ (parseMethodDescriptor yX10_risk.desc).map (fun d => d.parameters.length) = some 1 := by decide +kernel
set_option maxRecDepth 10000 in
theorem hX10_risk_0 (l : Launch) {p : Program} {e : Env} {s : State} {m : MethodId} {args : Array Value} {below : List Frame} {meth : Method} {c : Code} {D : va_G} {ad adV : Nat → Nat} {cA : Nat → ClassId} {K : Kt} (C0 : Cx p s m args meth c D ad adV cA cX10_risk 4 RX10) (hr : meth.sig.returnType = (some .int)) : ∀ q ∈ lX10_risk, Sd p l e (rmd 2) s m args below meth c (MQ below (QQ D ad cA K) args s 0 0 (AA ad)) D ad cA 4 q.1 (opOf K q.2) := List.forall_mem_cons.mpr ⟨s_aload_n C0 dX10_risk_0 rfl, List.forall_mem_cons.mpr ⟨s_iload_n C0 dX10_risk_1 rfl, List.forall_mem_cons.mpr ⟨s_callV (ci := 10) C0 (kX10_hasArm l) dX10_risk_2 rfl qX10_hasArm tw3_171 tw3_173 twp_17 tw1_1 tw3_174 rfl (by decide) (by decide), List.forall_mem_cons.mpr ⟨s_if_ne C0 dX10_risk_5 rfl, List.forall_mem_cons.mpr ⟨s_aload_n C0 dX10_risk_8 rfl, List.forall_mem_cons.mpr ⟨s_iconst C0 dX10_risk_9 rfl, List.forall_mem_cons.mpr ⟨s_callV (ci := 10) C0 (kX10_refuse l) dX10_risk_10 rfl qX10_refuse tw2_173 tw2_175 twp_0 tw1_1 tw2_176 rfl (by decide) (by decide), List.forall_mem_cons.mpr ⟨s_iret C0 hr dX10_risk_13, List.forall_mem_cons.mpr ⟨s_iconst C0 dX10_risk_14 rfl, List.forall_mem_cons.mpr ⟨s_istore_n C0 dX10_risk_15 rfl (by decide), List.forall_mem_cons.mpr ⟨s_iconst C0 dX10_risk_16 rfl, List.forall_mem_cons.mpr ⟨s_istore_n C0 dX10_risk_17 rfl (by decide), List.forall_mem_cons.mpr ⟨s_iload_n C0 dX10_risk_18 rfl, List.forall_mem_cons.mpr ⟨s_aload_n C0 dX10_risk_19 rfl, List.forall_mem_cons.mpr ⟨s_get (ci := 10) (k := 2) C0 dX10_risk_20 inX10 rfl (by decide) tw2_120, List.forall_mem_cons.mpr ⟨s_get (ci := 9) (k := 4) C0 dX10_risk_23 inX9 rfl (by decide) tw1_95, List.forall_mem_cons.mpr ⟨s_icmp_ge C0 dX10_risk_26 rfl, List.forall_mem_cons.mpr ⟨s_iload_n C0 dX10_risk_29 rfl, List.forall_mem_cons.mpr ⟨s_aload_n C0 dX10_risk_30 rfl, List.forall_mem_cons.mpr ⟨s_get (ci := 10) (k := 4) C0 dX10_risk_31 inX10 rfl (by decide) tw2_122, List.forall_mem_cons.mpr ⟨s_iload_n C0 dX10_risk_34 rfl, List.forall_mem_cons.mpr ⟨s_aload_n C0 dX10_risk_35 rfl, List.forall_mem_cons.mpr ⟨s_get (ci := 10) (k := 3) C0 dX10_risk_36 inX10 rfl (by decide) tw2_121, List.forall_mem_cons.mpr ⟨s_iload_n C0 dX10_risk_39 rfl, List.forall_mem_cons.mpr ⟨s_iload_n C0 dX10_risk_40 rfl, List.forall_mem_cons.mpr ⟨s_callV (ci := 5) C0 (kX5_loadOf l) dX10_risk_41 rfl qX5_loadOf tw4_236 tw3_185 tw3_186 tw1_5 tw3_187 rfl (by decide) (by decide), List.forall_mem_cons.mpr ⟨s_callV (ci := 1) C0 (kX1_riskOf l) dX10_risk_44 rfl qX1_riskOf tw4_237 tw4_28 tw4_29 tw1_6 tw4_30 rfl (by decide) (by decide), List.forall_mem_cons.mpr ⟨s_iadd C0 dX10_risk_47, List.forall_mem_cons.mpr ⟨s_istore_n C0 dX10_risk_48 rfl (by decide), List.forall_mem_cons.mpr ⟨s_iinc C0 dX10_risk_49 rfl (by decide), List.forall_mem_cons.mpr ⟨s_goto C0 dX10_risk_52 rfl, List.forall_mem_cons.mpr ⟨s_aload_n C0 dX10_risk_55 rfl, List.forall_mem_cons.mpr ⟨s_iload_n C0 dX10_risk_56 rfl, List.forall_mem_cons.mpr ⟨s_callV (ci := 10) C0 (kX10_answer l) dX10_risk_57 rfl qX10_answer tw3_139 tw3_141 twp_14 tw1_1 tw3_142 rfl (by decide) (by decide), List.forall_mem_cons.mpr ⟨s_iret C0 hr dX10_risk_60, fun _ h => absurd h List.not_mem_nil⟩⟩⟩⟩⟩⟩⟩⟩⟩⟩⟩⟩⟩⟩⟩⟩⟩⟩⟩⟩⟩⟩⟩⟩⟩⟩⟩⟩⟩⟩⟩⟩⟩⟩⟩
def fX10_risk : Mf := mf 4 (fun K => tl K lX10_risk)
theorem kX10_risk (l : Launch) : Okm l yX10_risk cX10_risk 4 (some .int) 2 fX10_risk := Okm_tl (own := RX10) (by decide +kernel) rfl (fun C0 hr => hX10_risk_0 l C0 hr)
theorem dX10_commonDivisor_0 : decode cX10_commonDivisor 0 = .ok (.iconst 0, 1) := by decide +kernel
theorem dX10_commonDivisor_1 : decode cX10_commonDivisor 1 = .ok (.istore 4, 2) := by decide +kernel
theorem dX10_commonDivisor_3 : decode cX10_commonDivisor 3 = .ok (.iload 4, 2) := by decide +kernel
theorem dX10_commonDivisor_5 : decode cX10_commonDivisor 5 = .ok (.bipush 100, 2) := by decide +kernel
theorem dX10_commonDivisor_7 : decode cX10_commonDivisor 7 = .ok (.if_icmp .ge 25, 3) := by decide +kernel
theorem dX10_commonDivisor_10 : decode cX10_commonDivisor 10 = .ok (.lload_n 2, 1) := by decide +kernel
theorem dX10_commonDivisor_11 : decode cX10_commonDivisor 11 = .ok (.lconst 0, 1) := by decide +kernel
theorem dX10_commonDivisor_12 : decode cX10_commonDivisor 12 = .ok (.lcmp, 1) := by decide +kernel
theorem dX10_commonDivisor_13 : decode cX10_commonDivisor 13 = .ok (.ifCond .eq 19, 3) := by decide +kernel
theorem dX10_commonDivisor_16 : decode cX10_commonDivisor 16 = .ok (.lload_n 0, 1) := by decide +kernel
theorem dX10_commonDivisor_17 : decode cX10_commonDivisor 17 = .ok (.lload_n 2, 1) := by decide +kernel
theorem dX10_commonDivisor_18 : decode cX10_commonDivisor 18 = .ok (.lrem, 1) := by decide +kernel
theorem dX10_commonDivisor_19 : decode cX10_commonDivisor 19 = .ok (.lstore 5, 2) := by decide +kernel
theorem dX10_commonDivisor_21 : decode cX10_commonDivisor 21 = .ok (.lload_n 2, 1) := by decide +kernel
theorem dX10_commonDivisor_22 : decode cX10_commonDivisor 22 = .ok (.lstore_n 0, 1) := by decide +kernel
theorem dX10_commonDivisor_23 : decode cX10_commonDivisor 23 = .ok (.lload 5, 2) := by decide +kernel
theorem dX10_commonDivisor_25 : decode cX10_commonDivisor 25 = .ok (.lstore_n 2, 1) := by decide +kernel
theorem dX10_commonDivisor_26 : decode cX10_commonDivisor 26 = .ok (.iinc 4 1, 3) := by decide +kernel
theorem dX10_commonDivisor_29 : decode cX10_commonDivisor 29 = .ok (.goto (-26), 3) := by decide +kernel
theorem dX10_commonDivisor_32 : decode cX10_commonDivisor 32 = .ok (.lload_n 0, 1) := by decide +kernel
theorem dX10_commonDivisor_33 : decode cX10_commonDivisor 33 = .ok (.lreturn, 1) := by decide +kernel
def lX10_commonDivisor : List (Nat × (Op ⊕ Nat)) := [(0, .inl (o_pushI (nI 0) 1)), (1, .inl (o_istore 4 3)), (3, .inl (o_iload 4 5)), (5, .inl (o_pushI (nI 100) 7)), (7, .inl (o_icmp_ge 32 10)), (10, .inl (o_lload 2 11)), (11, .inl (o_pushL (lN 0) 12)), (12, .inl (o_lcmp 13)), (13, .inl (o_if_eq 32 16)), (16, .inl (o_lload 0 17)), (17, .inl (o_lload 2 18)), (18, .inl (o_lrem 19)), (19, .inl (o_lstore 5 21)), (21, .inl (o_lload 2 22)), (22, .inl (o_lstore 0 23)), (23, .inl (o_lload 5 25)), (25, .inl (o_lstore 2 26)), (26, .inl (o_iinc 4 (nI 1) 29)), (29, .inl (o_goto 3)), (32, .inl (o_lload 0 33)), (33, .inr 2)]
theorem qX10_commonDivisor : yX10_commonDivisor.cls ≠ "java/lang/invoke/MethodHandle" ∧ yX10_commonDivisor.cls ≠ "java/lang/invoke/VarHandle" ∧ (parseMethodDescriptor yX10_commonDivisor.desc).map (fun d => d.parameters.length) = some 2 := by decide +kernel
set_option maxRecDepth 10000 in
theorem hX10_commonDivisor_0 (l : Launch) {p : Program} {e : Env} {s : State} {m : MethodId} {args : Array Value} {below : List Frame} {meth : Method} {c : Code} {D : va_G} {ad adV : Nat → Nat} {cA : Nat → ClassId} {K : Kt} (C0 : Cx p s m args meth c D ad adV cA cX10_commonDivisor 7 RX10) (hr : meth.sig.returnType = (some .long)) : ∀ q ∈ lX10_commonDivisor, Sd p l e (rmd 0) s m args below meth c (MQ below (QQ D ad cA K) args s 0 0 (AA ad)) D ad cA 7 q.1 (opOf K q.2) := List.forall_mem_cons.mpr ⟨s_iconst C0 dX10_commonDivisor_0 rfl, List.forall_mem_cons.mpr ⟨s_istore C0 dX10_commonDivisor_1 (by decide), List.forall_mem_cons.mpr ⟨s_iload C0 dX10_commonDivisor_3, List.forall_mem_cons.mpr ⟨s_bipush C0 dX10_commonDivisor_5 (by decide +kernel), List.forall_mem_cons.mpr ⟨s_icmp_ge C0 dX10_commonDivisor_7 rfl, List.forall_mem_cons.mpr ⟨s_lload_n C0 dX10_commonDivisor_10 rfl, List.forall_mem_cons.mpr ⟨s_lconst C0 dX10_commonDivisor_11 rfl, List.forall_mem_cons.mpr ⟨s_lcmp C0 dX10_commonDivisor_12, List.forall_mem_cons.mpr ⟨s_if_eq C0 dX10_commonDivisor_13 rfl, List.forall_mem_cons.mpr ⟨s_lload_n C0 dX10_commonDivisor_16 rfl, List.forall_mem_cons.mpr ⟨s_lload_n C0 dX10_commonDivisor_17 rfl, List.forall_mem_cons.mpr ⟨s_lrem C0 dX10_commonDivisor_18, List.forall_mem_cons.mpr ⟨s_lstore C0 dX10_commonDivisor_19 (by decide), List.forall_mem_cons.mpr ⟨s_lload_n C0 dX10_commonDivisor_21 rfl, List.forall_mem_cons.mpr ⟨s_lstore_n C0 dX10_commonDivisor_22 rfl (by decide), List.forall_mem_cons.mpr ⟨s_lload C0 dX10_commonDivisor_23, List.forall_mem_cons.mpr ⟨s_lstore_n C0 dX10_commonDivisor_25 rfl (by decide), List.forall_mem_cons.mpr ⟨s_iinc C0 dX10_commonDivisor_26 rfl (by decide), List.forall_mem_cons.mpr ⟨s_goto C0 dX10_commonDivisor_29 rfl, List.forall_mem_cons.mpr ⟨s_lload_n C0 dX10_commonDivisor_32 rfl, List.forall_mem_cons.mpr ⟨s_lret C0 hr dX10_commonDivisor_33, fun _ h => absurd h List.not_mem_nil⟩⟩⟩⟩⟩⟩⟩⟩⟩⟩⟩⟩⟩⟩⟩⟩⟩⟩⟩⟩⟩
def fX10_commonDivisor : Mf := mf 7 (fun K => tl K lX10_commonDivisor)
theorem kX10_commonDivisor (l : Launch) : Okm l yX10_commonDivisor cX10_commonDivisor 7 (some .long) 0 fX10_commonDivisor := Okm_tl (own := RX10) (by decide +kernel) rfl (fun C0 hr => hX10_commonDivisor_0 l C0 hr)
theorem dX10_sound_0 : decode cX10_sound 0 = .ok (.aload_n 0, 1) := by decide +kernel
theorem dX10_sound_1 : decode cX10_sound 1 = .ok (.iload_n 1, 1) := by decide +kernel
theorem dX10_sound_2 : decode cX10_sound 2 = .ok (.invokevirtual 162, 3) := by decide +kernel
theorem dX10_sound_5 : decode cX10_sound 5 = .ok (.ifCond .eq 12, 3) := by decide +kernel
theorem dX10_sound_8 : decode cX10_sound 8 = .ok (.iload_n 2, 1) := by decide +kernel
theorem dX10_sound_9 : decode cX10_sound 9 = .ok (.iconst 0, 1) := by decide +kernel
theorem dX10_sound_10 : decode cX10_sound 10 = .ok (.iconst 1, 1) := by decide +kernel
theorem dX10_sound_11 : decode cX10_sound 11 = .ok (.invokestatic 104, 3) := by decide +kernel
theorem dX10_sound_14 : decode cX10_sound 14 = .ok (.ifCond .ne 10, 3) := by decide +kernel
theorem dX10_sound_17 : decode cX10_sound 17 = .ok (.aload_n 0, 1) := by decide +kernel
theorem dX10_sound_18 : decode cX10_sound 18 = .ok (.iconst 1, 1) := by decide +kernel
theorem dX10_sound_19 : decode cX10_sound 19 = .ok (.invokevirtual 108, 3) := by decide +kernel
theorem dX10_sound_22 : decode cX10_sound 22 = .ok (.i2l, 1) := by decide +kernel
theorem dX10_sound_23 : decode cX10_sound 23 = .ok (.lreturn, 1) := by decide +kernel
theorem dX10_sound_24 : decode cX10_sound 24 = .ok (.aload_n 0, 1) := by decide +kernel
theorem dX10_sound_25 : decode cX10_sound 25 = .ok (.getfield 44, 3) := by decide +kernel
theorem dX10_sound_28 : decode cX10_sound 28 = .ok (.iload_n 1, 1) := by decide +kernel
theorem dX10_sound_29 : decode cX10_sound 29 = .ok (.invokevirtual 178, 3) := by decide +kernel
theorem dX10_sound_32 : decode cX10_sound 32 = .ok (.bipush 6, 2) := by decide +kernel
theorem dX10_sound_34 : decode cX10_sound 34 = .ok (.if_icmp .le 10, 3) := by decide +kernel
theorem dX10_sound_37 : decode cX10_sound 37 = .ok (.aload_n 0, 1) := by decide +kernel
theorem dX10_sound_38 : decode cX10_sound 38 = .ok (.iconst 5, 1) := by decide +kernel
theorem dX10_sound_39 : decode cX10_sound 39 = .ok (.invokevirtual 108, 3) := by decide +kernel
theorem dX10_sound_42 : decode cX10_sound 42 = .ok (.i2l, 1) := by decide +kernel
theorem dX10_sound_43 : decode cX10_sound 43 = .ok (.lreturn, 1) := by decide +kernel
theorem dX10_sound_44 : decode cX10_sound 44 = .ok (.aload_n 0, 1) := by decide +kernel
theorem dX10_sound_45 : decode cX10_sound 45 = .ok (.iconst 0, 1) := by decide +kernel
theorem dX10_sound_46 : decode cX10_sound 46 = .ok (.invokevirtual 138, 3) := by decide +kernel
theorem dX10_sound_49 : decode cX10_sound 49 = .ok (.pop, 1) := by decide +kernel
theorem dX10_sound_50 : decode cX10_sound 50 = .ok (.lconst 1, 1) := by decide +kernel
theorem dX10_sound_51 : decode cX10_sound 51 = .ok (.lstore_n 3, 1) := by decide +kernel
theorem dX10_sound_52 : decode cX10_sound 52 = .ok (.lconst 1, 1) := by decide +kernel
theorem dX10_sound_53 : decode cX10_sound 53 = .ok (.lstore 5, 2) := by decide +kernel
theorem dX10_sound_55 : decode cX10_sound 55 = .ok (.iconst 0, 1) := by decide +kernel
theorem dX10_sound_56 : decode cX10_sound 56 = .ok (.istore 7, 2) := by decide +kernel
theorem dX10_sound_58 : decode cX10_sound 58 = .ok (.iload 7, 2) := by decide +kernel
theorem dX10_sound_60 : decode cX10_sound 60 = .ok (.aload_n 0, 1) := by decide +kernel
theorem dX10_sound_61 : decode cX10_sound 61 = .ok (.getfield 28, 3) := by decide +kernel
theorem dX10_sound_64 : decode cX10_sound 64 = .ok (.getfield 135, 3) := by decide +kernel
theorem dX10_sound_67 : decode cX10_sound 67 = .ok (.if_icmp .ge 60, 3) := by decide +kernel
theorem dX10_sound_70 : decode cX10_sound 70 = .ok (.aload_n 0, 1) := by decide +kernel
theorem dX10_sound_71 : decode cX10_sound 71 = .ok (.getfield 35, 3) := by decide +kernel
theorem dX10_sound_74 : decode cX10_sound 74 = .ok (.iload_n 1, 1) := by decide +kernel
theorem dX10_sound_75 : decode cX10_sound 75 = .ok (.iload 7, 2) := by decide +kernel
theorem dX10_sound_77 : decode cX10_sound 77 = .ok (.invokevirtual 277, 3) := by decide +kernel
theorem dX10_sound_80 : decode cX10_sound 80 = .ok (.ifCond .eq 41, 3) := by decide +kernel
theorem dX10_sound_83 : decode cX10_sound 83 = .ok (.lload_n 3, 1) := by decide +kernel
theorem dX10_sound_84 : decode cX10_sound 84 = .ok (.iconst 0, 1) := by decide +kernel
theorem dX10_sound_85 : decode cX10_sound 85 = .ok (.sipush 1000, 3) := by decide +kernel
theorem dX10_sound_88 : decode cX10_sound 88 = .ok (.aload_n 0, 1) := by decide +kernel
theorem dX10_sound_89 : decode cX10_sound 89 = .ok (.getfield 44, 3) := by decide +kernel
theorem dX10_sound_92 : decode cX10_sound 92 = .ok (.iload_n 1, 1) := by decide +kernel
theorem dX10_sound_93 : decode cX10_sound 93 = .ok (.aload_n 0, 1) := by decide +kernel
theorem dX10_sound_94 : decode cX10_sound 94 = .ok (.getfield 35, 3) := by decide +kernel
theorem dX10_sound_97 : decode cX10_sound 97 = .ok (.iload_n 1, 1) := by decide +kernel
theorem dX10_sound_98 : decode cX10_sound 98 = .ok (.iload 7, 2) := by decide +kernel
theorem dX10_sound_100 : decode cX10_sound 100 = .ok (.invokevirtual 292, 3) := by decide +kernel
theorem dX10_sound_103 : decode cX10_sound 103 = .ok (.invokevirtual 295, 3) := by decide +kernel
theorem dX10_sound_106 : decode cX10_sound 106 = .ok (.isub, 1) := by decide +kernel
theorem dX10_sound_107 : decode cX10_sound 107 = .ok (.invokestatic 280, 3) := by decide +kernel
theorem dX10_sound_110 : decode cX10_sound 110 = .ok (.i2l, 1) := by decide +kernel
theorem dX10_sound_111 : decode cX10_sound 111 = .ok (.lmul, 1) := by decide +kernel
theorem dX10_sound_112 : decode cX10_sound 112 = .ok (.lstore_n 3, 1) := by decide +kernel
theorem dX10_sound_113 : decode cX10_sound 113 = .ok (.lload 5, 2) := by decide +kernel
theorem dX10_sound_115 : decode cX10_sound 115 = .ok (.ldc2_w 298, 3) := by decide +kernel
theorem dX10_sound_118 : decode cX10_sound 118 = .ok (.lmul, 1) := by decide +kernel
theorem dX10_sound_119 : decode cX10_sound 119 = .ok (.lstore 5, 2) := by decide +kernel
theorem dX10_sound_121 : decode cX10_sound 121 = .ok (.iinc 7 1, 3) := by decide +kernel
theorem dX10_sound_124 : decode cX10_sound 124 = .ok (.goto (-66), 3) := by decide +kernel
theorem dX10_sound_127 : decode cX10_sound 127 = .ok (.lload_n 3, 1) := by decide +kernel
theorem dX10_sound_128 : decode cX10_sound 128 = .ok (.lload 5, 2) := by decide +kernel
theorem dX10_sound_130 : decode cX10_sound 130 = .ok (.invokestatic 300, 3) := by decide +kernel
theorem dX10_sound_133 : decode cX10_sound 133 = .ok (.lstore 7, 2) := by decide +kernel
theorem dX10_sound_135 : decode cX10_sound 135 = .ok (.iload_n 2, 1) := by decide +kernel
theorem dX10_sound_136 : decode cX10_sound 136 = .ok (.ifCond .ne 7, 3) := by decide +kernel
theorem dX10_sound_139 : decode cX10_sound 139 = .ok (.lload_n 3, 1) := by decide +kernel
theorem dX10_sound_140 : decode cX10_sound 140 = .ok (.goto 5, 3) := by decide +kernel
theorem dX10_sound_143 : decode cX10_sound 143 = .ok (.lload 5, 2) := by decide +kernel
theorem dX10_sound_145 : decode cX10_sound 145 = .ok (.lstore 9, 2) := by decide +kernel
theorem dX10_sound_147 : decode cX10_sound 147 = .ok (.lload 7, 2) := by decide +kernel
theorem dX10_sound_149 : decode cX10_sound 149 = .ok (.lconst 1, 1) := by decide +kernel
theorem dX10_sound_150 : decode cX10_sound 150 = .ok (.lcmp, 1) := by decide +kernel
theorem dX10_sound_151 : decode cX10_sound 151 = .ok (.ifCond .le 11, 3) := by decide +kernel
theorem dX10_sound_154 : decode cX10_sound 154 = .ok (.lload 9, 2) := by decide +kernel
theorem dX10_sound_156 : decode cX10_sound 156 = .ok (.lload 7, 2) := by decide +kernel
theorem dX10_sound_158 : decode cX10_sound 158 = .ok (.ldiv, 1) := by decide +kernel
theorem dX10_sound_159 : decode cX10_sound 159 = .ok (.goto 5, 3) := by decide +kernel
theorem dX10_sound_162 : decode cX10_sound 162 = .ok (.lload 9, 2) := by decide +kernel
theorem dX10_sound_164 : decode cX10_sound 164 = .ok (.lreturn, 1) := by decide +kernel
def lX10_sound_0 : List (Nat × (Op ⊕ Nat)) := [(0, .inl (o_aload 0 1)), (1, .inl (o_iload 1 2)), (2, .inl (o_callV fX10_hasArm 1 10 5)), (5, .inl (o_if_eq 17 8)), (8, .inl (o_iload 2 9)), (9, .inl (o_pushI (nI 0) 10)), (10, .inl (o_pushI (nI 1) 11)), (11, .inl (o_callS fX10_within 3 14)), (14, .inl (o_if_ne 24 17)), (17, .inl (o_aload 0 18)), (18, .inl (o_pushI (nI 1) 19)), (19, .inl (o_callV fX10_refuse 1 10 22)), (22, .inl (o_i2l 23)), (23, .inr 2), (24, .inl (o_aload 0 25)), (25, .inl (o_get 10 4 28)), (28, .inl (o_iload 1 29)), (29, .inl (o_callV fX1_outingsOfArm 1 1 32)), (32, .inl (o_pushI (nI 6) 34)), (34, .inl (o_icmp_le 44 37)), (37, .inl (o_aload 0 38)), (38, .inl (o_pushI (nI 5) 39)), (39, .inl (o_callV fX10_refuse 1 10 42)), (42, .inl (o_i2l 43)), (43, .inr 2), (44, .inl (o_aload 0 45)), (45, .inl (o_pushI (nI 0) 46)), (46, .inl (o_callV fX10_answer 1 10 49)), (49, .inl (o_pop 50)), (50, .inl (o_pushL (lN 1) 51)), (51, .inl (o_lstore 3 52)), (52, .inl (o_pushL (lN 1) 53)), (53, .inl (o_lstore 5 55)), (55, .inl (o_pushI (nI 0) 56)), (56, .inl (o_istore 7 58)), (58, .inl (o_iload 7 60)), (60, .inl (o_aload 0 61)), (61, .inl (o_get 10 2 64)), (64, .inl (o_get 9 4 67)), (67, .inl (o_icmp_ge 127 70))]
def lX10_sound_1 : List (Nat × (Op ⊕ Nat)) := [(70, .inl (o_aload 0 71)), (71, .inl (o_get 10 3 74)), (74, .inl (o_iload 1 75)), (75, .inl (o_iload 7 77)), (77, .inl (o_callV fX5_has 2 5 80)), (80, .inl (o_if_eq 121 83)), (83, .inl (o_lload 3 84)), (84, .inl (o_pushI (nI 0) 85)), (85, .inl (o_pushI (nI 1000) 88)), (88, .inl (o_aload 0 89)), (89, .inl (o_get 10 4 92)), (92, .inl (o_iload 1 93)), (93, .inl (o_aload 0 94)), (94, .inl (o_get 10 3 97)), (97, .inl (o_iload 1 98)), (98, .inl (o_iload 7 100)), (100, .inl (o_callV fX5_loadOf 2 5 103)), (103, .inl (o_callV fX1_riskOf 2 1 106)), (106, .inl (o_isub 107)), (107, .inl (o_max 110)), (110, .inl (o_i2l 111)), (111, .inl (o_lmul 112)), (112, .inl (o_lstore 3 113)), (113, .inl (o_lload 5 115)), (115, .inl (o_pushL (lN 1000) 118)), (118, .inl (o_lmul 119)), (119, .inl (o_lstore 5 121)), (121, .inl (o_iinc 7 (nI 1) 124)), (124, .inl (o_goto 58)), (127, .inl (o_lload 3 128)), (128, .inl (o_lload 5 130)), (130, .inl (o_callS fX10_commonDivisor 2 133)), (133, .inl (o_lstore 7 135)), (135, .inl (o_iload 2 136)), (136, .inl (o_if_ne 143 139)), (139, .inl (o_lload 3 140)), (140, .inl (o_goto 145)), (143, .inl (o_lload 5 145)), (145, .inl (o_lstore 9 147)), (147, .inl (o_lload 7 149))]
def lX10_sound_2 : List (Nat × (Op ⊕ Nat)) := [(149, .inl (o_pushL (lN 1) 150)), (150, .inl (o_lcmp 151)), (151, .inl (o_if_le 162 154)), (154, .inl (o_lload 9 156)), (156, .inl (o_lload 7 158)), (158, .inl (o_ldiv 159)), (159, .inl (o_goto 164)), (162, .inl (o_lload 9 164)), (164, .inr 2)]
def lX10_sound : List (Nat × (Op ⊕ Nat)) := lX10_sound_0 ++ (lX10_sound_1 ++ (lX10_sound_2))
theorem qX10_sound : yX10_sound.cls = RX10 ∧ yX10_sound.cls ≠ "java/lang/invoke/MethodHandle" ∧ yX10_sound.cls ≠ "java/lang/invoke/VarHandle" ∧ (parseMethodDescriptor yX10_sound.desc).map (fun d => d.parameters.length) = some 2 := by decide +kernel
set_option maxRecDepth 10000 in
theorem hX10_sound_0 (l : Launch) {p : Program} {e : Env} {s : State} {m : MethodId} {args : Array Value} {below : List Frame} {meth : Method} {c : Code} {D : va_G} {ad adV : Nat → Nat} {cA : Nat → ClassId} {K : Kt} (C0 : Cx p s m args meth c D ad adV cA cX10_sound 11 RX10) (hr : meth.sig.returnType = (some .long)) : ∀ q ∈ lX10_sound_0, Sd p l e (rmd 3) s m args below meth c (MQ below (QQ D ad cA K) args s 0 0 (AA ad)) D ad cA 11 q.1 (opOf K q.2) := List.forall_mem_cons.mpr ⟨s_aload_n C0 dX10_sound_0 rfl, List.forall_mem_cons.mpr ⟨s_iload_n C0 dX10_sound_1 rfl, List.forall_mem_cons.mpr ⟨s_callV (ci := 10) C0 (kX10_hasArm l) dX10_sound_2 rfl qX10_hasArm tw3_171 tw3_173 twp_17 tw1_1 tw3_174 rfl (by decide) (by decide), List.forall_mem_cons.mpr ⟨s_if_eq C0 dX10_sound_5 rfl, List.forall_mem_cons.mpr ⟨s_iload_n C0 dX10_sound_8 rfl, List.forall_mem_cons.mpr ⟨s_iconst C0 dX10_sound_9 rfl, List.forall_mem_cons.mpr ⟨s_iconst C0 dX10_sound_10 rfl, List.forall_mem_cons.mpr ⟨s_callS C0 (kX10_within l) dX10_sound_11 qX10_within tw2_170 tw2_171 tw1_1 tw2_172 rfl (by decide) (by decide), List.forall_mem_cons.mpr ⟨s_if_ne C0 dX10_sound_14 rfl, List.forall_mem_cons.mpr ⟨s_aload_n C0 dX10_sound_17 rfl, List.forall_mem_cons.mpr ⟨s_iconst C0 dX10_sound_18 rfl, List.forall_mem_cons.mpr ⟨s_callV (ci := 10) C0 (kX10_refuse l) dX10_sound_19 rfl qX10_refuse tw2_173 tw2_175 twp_0 tw1_1 tw2_176 rfl (by decide) (by decide), List.forall_mem_cons.mpr ⟨s_i2l C0 dX10_sound_22, List.forall_mem_cons.mpr ⟨s_lret C0 hr dX10_sound_23, List.forall_mem_cons.mpr ⟨s_aload_n C0 dX10_sound_24 rfl, List.forall_mem_cons.mpr ⟨s_get (ci := 10) (k := 4) C0 dX10_sound_25 inX10 rfl (by decide) tw2_122, List.forall_mem_cons.mpr ⟨s_iload_n C0 dX10_sound_28 rfl, List.forall_mem_cons.mpr ⟨s_callV (ci := 1) C0 (kX1_outingsOfArm l) dX10_sound_29 rfl qX1_outingsOfArm tw3_188 tw3_189 tw3_190 tw1_6 tw3_191 rfl (by decide) (by decide), List.forall_mem_cons.mpr ⟨s_bipush C0 dX10_sound_32 (by decide +kernel), List.forall_mem_cons.mpr ⟨s_icmp_le C0 dX10_sound_34 rfl, List.forall_mem_cons.mpr ⟨s_aload_n C0 dX10_sound_37 rfl, List.forall_mem_cons.mpr ⟨s_iconst C0 dX10_sound_38 rfl, List.forall_mem_cons.mpr ⟨s_callV (ci := 10) C0 (kX10_refuse l) dX10_sound_39 rfl qX10_refuse tw2_173 tw2_175 twp_0 tw1_1 tw2_176 rfl (by decide) (by decide), List.forall_mem_cons.mpr ⟨s_i2l C0 dX10_sound_42, List.forall_mem_cons.mpr ⟨s_lret C0 hr dX10_sound_43, List.forall_mem_cons.mpr ⟨s_aload_n C0 dX10_sound_44 rfl, List.forall_mem_cons.mpr ⟨s_iconst C0 dX10_sound_45 rfl, List.forall_mem_cons.mpr ⟨s_callV (ci := 10) C0 (kX10_answer l) dX10_sound_46 rfl qX10_answer tw3_139 tw3_141 twp_14 tw1_1 tw3_142 rfl (by decide) (by decide), List.forall_mem_cons.mpr ⟨s_pop C0 dX10_sound_49, List.forall_mem_cons.mpr ⟨s_lconst C0 dX10_sound_50 rfl, List.forall_mem_cons.mpr ⟨s_lstore_n C0 dX10_sound_51 rfl (by decide), List.forall_mem_cons.mpr ⟨s_lconst C0 dX10_sound_52 rfl, List.forall_mem_cons.mpr ⟨s_lstore C0 dX10_sound_53 (by decide), List.forall_mem_cons.mpr ⟨s_iconst C0 dX10_sound_55 rfl, List.forall_mem_cons.mpr ⟨s_istore C0 dX10_sound_56 (by decide), List.forall_mem_cons.mpr ⟨s_iload C0 dX10_sound_58, List.forall_mem_cons.mpr ⟨s_aload_n C0 dX10_sound_60 rfl, List.forall_mem_cons.mpr ⟨s_get (ci := 10) (k := 2) C0 dX10_sound_61 inX10 rfl (by decide) tw2_120, List.forall_mem_cons.mpr ⟨s_get (ci := 9) (k := 4) C0 dX10_sound_64 inX9 rfl (by decide) tw1_95, List.forall_mem_cons.mpr ⟨s_icmp_ge C0 dX10_sound_67 rfl, fun _ h => absurd h List.not_mem_nil⟩⟩⟩⟩⟩⟩⟩⟩⟩⟩⟩⟩⟩⟩⟩⟩⟩⟩⟩⟩⟩⟩⟩⟩⟩⟩⟩⟩⟩⟩⟩⟩⟩⟩⟩⟩⟩⟩⟩⟩
set_option maxRecDepth 10000 in
theorem hX10_sound_1 (l : Launch) {p : Program} {e : Env} {s : State} {m : MethodId} {args : Array Value} {below : List Frame} {meth : Method} {c : Code} {D : va_G} {ad adV : Nat → Nat} {cA : Nat → ClassId} {K : Kt} (C0 : Cx p s m args meth c D ad adV cA cX10_sound 11 RX10) (hr : meth.sig.returnType = (some .long)) : ∀ q ∈ lX10_sound_1, Sd p l e (rmd 3) s m args below meth c (MQ below (QQ D ad cA K) args s 0 0 (AA ad)) D ad cA 11 q.1 (opOf K q.2) := List.forall_mem_cons.mpr ⟨s_aload_n C0 dX10_sound_70 rfl, List.forall_mem_cons.mpr ⟨s_get (ci := 10) (k := 3) C0 dX10_sound_71 inX10 rfl (by decide) tw2_121, List.forall_mem_cons.mpr ⟨s_iload_n C0 dX10_sound_74 rfl, List.forall_mem_cons.mpr ⟨s_iload C0 dX10_sound_75, List.forall_mem_cons.mpr ⟨s_callV (ci := 5) C0 (kX5_has l) dX10_sound_77 rfl qX5_has tw4_215 tw3_193 tw3_194 tw1_5 tw3_195 rfl (by decide) (by decide), List.forall_mem_cons.mpr ⟨s_if_eq C0 dX10_sound_80 rfl, List.forall_mem_cons.mpr ⟨s_lload_n C0 dX10_sound_83 rfl, List.forall_mem_cons.mpr ⟨s_iconst C0 dX10_sound_84 rfl, List.forall_mem_cons.mpr ⟨s_sipush C0 dX10_sound_85 (by decide +kernel), List.forall_mem_cons.mpr ⟨s_aload_n C0 dX10_sound_88 rfl, List.forall_mem_cons.mpr ⟨s_get (ci := 10) (k := 4) C0 dX10_sound_89 inX10 rfl (by decide) tw2_122, List.forall_mem_cons.mpr ⟨s_iload_n C0 dX10_sound_92 rfl, List.forall_mem_cons.mpr ⟨s_aload_n C0 dX10_sound_93 rfl, List.forall_mem_cons.mpr ⟨s_get (ci := 10) (k := 3) C0 dX10_sound_94 inX10 rfl (by decide) tw2_121, List.forall_mem_cons.mpr ⟨s_iload_n C0 dX10_sound_97 rfl, List.forall_mem_cons.mpr ⟨s_iload C0 dX10_sound_98, List.forall_mem_cons.mpr ⟨s_callV (ci := 5) C0 (kX5_loadOf l) dX10_sound_100 rfl qX5_loadOf tw4_236 tw3_185 tw3_186 tw1_5 tw3_187 rfl (by decide) (by decide), List.forall_mem_cons.mpr ⟨s_callV (ci := 1) C0 (kX1_riskOf l) dX10_sound_103 rfl qX1_riskOf tw4_237 tw4_28 tw4_29 tw1_6 tw4_30 rfl (by decide) (by decide), List.forall_mem_cons.mpr ⟨s_isub C0 dX10_sound_106, List.forall_mem_cons.mpr ⟨s_max C0 dX10_sound_107 tw4_216 tw2_198 tw1_14 twm_max rfl (by decide), List.forall_mem_cons.mpr ⟨s_i2l C0 dX10_sound_110, List.forall_mem_cons.mpr ⟨s_lmul C0 dX10_sound_111, List.forall_mem_cons.mpr ⟨s_lstore_n C0 dX10_sound_112 rfl (by decide), List.forall_mem_cons.mpr ⟨s_lload C0 dX10_sound_113, List.forall_mem_cons.mpr ⟨s_ldc2 C0 dX10_sound_115 tw5_2, List.forall_mem_cons.mpr ⟨s_lmul C0 dX10_sound_118, List.forall_mem_cons.mpr ⟨s_lstore C0 dX10_sound_119 (by decide), List.forall_mem_cons.mpr ⟨s_iinc C0 dX10_sound_121 rfl (by decide), List.forall_mem_cons.mpr ⟨s_goto C0 dX10_sound_124 rfl, List.forall_mem_cons.mpr ⟨s_lload_n C0 dX10_sound_127 rfl, List.forall_mem_cons.mpr ⟨s_lload C0 dX10_sound_128, List.forall_mem_cons.mpr ⟨s_callS C0 (kX10_commonDivisor l) dX10_sound_130 qX10_commonDivisor tw5_3 tw5_4 tw1_1 tw5_5 rfl (by decide) (by decide), List.forall_mem_cons.mpr ⟨s_lstore C0 dX10_sound_133 (by decide), List.forall_mem_cons.mpr ⟨s_iload_n C0 dX10_sound_135 rfl, List.forall_mem_cons.mpr ⟨s_if_ne C0 dX10_sound_136 rfl, List.forall_mem_cons.mpr ⟨s_lload_n C0 dX10_sound_139 rfl, List.forall_mem_cons.mpr ⟨s_goto C0 dX10_sound_140 rfl, List.forall_mem_cons.mpr ⟨s_lload C0 dX10_sound_143, List.forall_mem_cons.mpr ⟨s_lstore C0 dX10_sound_145 (by decide), List.forall_mem_cons.mpr ⟨s_lload C0 dX10_sound_147, fun _ h => absurd h List.not_mem_nil⟩⟩⟩⟩⟩⟩⟩⟩⟩⟩⟩⟩⟩⟩⟩⟩⟩⟩⟩⟩⟩⟩⟩⟩⟩⟩⟩⟩⟩⟩⟩⟩⟩⟩⟩⟩⟩⟩⟩⟩
set_option maxRecDepth 10000 in
theorem hX10_sound_2 (l : Launch) {p : Program} {e : Env} {s : State} {m : MethodId} {args : Array Value} {below : List Frame} {meth : Method} {c : Code} {D : va_G} {ad adV : Nat → Nat} {cA : Nat → ClassId} {K : Kt} (C0 : Cx p s m args meth c D ad adV cA cX10_sound 11 RX10) (hr : meth.sig.returnType = (some .long)) : ∀ q ∈ lX10_sound_2, Sd p l e (rmd 3) s m args below meth c (MQ below (QQ D ad cA K) args s 0 0 (AA ad)) D ad cA 11 q.1 (opOf K q.2) := List.forall_mem_cons.mpr ⟨s_lconst C0 dX10_sound_149 rfl, List.forall_mem_cons.mpr ⟨s_lcmp C0 dX10_sound_150, List.forall_mem_cons.mpr ⟨s_if_le C0 dX10_sound_151 rfl, List.forall_mem_cons.mpr ⟨s_lload C0 dX10_sound_154, List.forall_mem_cons.mpr ⟨s_lload C0 dX10_sound_156, List.forall_mem_cons.mpr ⟨s_ldiv C0 dX10_sound_158, List.forall_mem_cons.mpr ⟨s_goto C0 dX10_sound_159 rfl, List.forall_mem_cons.mpr ⟨s_lload C0 dX10_sound_162, List.forall_mem_cons.mpr ⟨s_lret C0 hr dX10_sound_164, fun _ h => absurd h List.not_mem_nil⟩⟩⟩⟩⟩⟩⟩⟩⟩
def fX10_sound : Mf := mf 11 (fun K => tl K lX10_sound)
theorem kX10_sound (l : Launch) : Okm l yX10_sound cX10_sound 11 (some .long) 3 fX10_sound := Okm_tl (own := RX10) (by decide +kernel) rfl (fun C0 hr => List.forall_mem_append.mpr ⟨hX10_sound_0 l C0 hr, List.forall_mem_append.mpr ⟨hX10_sound_1 l C0 hr, hX10_sound_2 l C0 hr⟩⟩)
theorem dX10_tellSeason_0 : decode cX10_tellSeason 0 = .ok (.iload_n 1, 1) := by decide +kernel
theorem dX10_tellSeason_1 : decode cX10_tellSeason 1 = .ok (.tableswitch 63 0 3 #[31, 39, 47, 55], 31) := by decide +kernel
theorem dX10_tellSeason_32 : decode cX10_tellSeason 32 = .ok (.aload_n 0, 1) := by decide +kernel
theorem dX10_tellSeason_33 : decode cX10_tellSeason 33 = .ok (.getfield 76, 3) := by decide +kernel
theorem dX10_tellSeason_36 : decode cX10_tellSeason 36 = .ok (.getfield 311, 3) := by decide +kernel
theorem dX10_tellSeason_39 : decode cX10_tellSeason 39 = .ok (.ireturn, 1) := by decide +kernel
theorem dX10_tellSeason_40 : decode cX10_tellSeason 40 = .ok (.aload_n 0, 1) := by decide +kernel
theorem dX10_tellSeason_41 : decode cX10_tellSeason 41 = .ok (.getfield 76, 3) := by decide +kernel
theorem dX10_tellSeason_44 : decode cX10_tellSeason 44 = .ok (.getfield 314, 3) := by decide +kernel
theorem dX10_tellSeason_47 : decode cX10_tellSeason 47 = .ok (.ireturn, 1) := by decide +kernel
theorem dX10_tellSeason_48 : decode cX10_tellSeason 48 = .ok (.aload_n 0, 1) := by decide +kernel
theorem dX10_tellSeason_49 : decode cX10_tellSeason 49 = .ok (.getfield 76, 3) := by decide +kernel
theorem dX10_tellSeason_52 : decode cX10_tellSeason 52 = .ok (.getfield 317, 3) := by decide +kernel
theorem dX10_tellSeason_55 : decode cX10_tellSeason 55 = .ok (.ireturn, 1) := by decide +kernel
theorem dX10_tellSeason_56 : decode cX10_tellSeason 56 = .ok (.aload_n 0, 1) := by decide +kernel
theorem dX10_tellSeason_57 : decode cX10_tellSeason 57 = .ok (.getfield 76, 3) := by decide +kernel
theorem dX10_tellSeason_60 : decode cX10_tellSeason 60 = .ok (.getfield 320, 3) := by decide +kernel
theorem dX10_tellSeason_63 : decode cX10_tellSeason 63 = .ok (.ireturn, 1) := by decide +kernel
theorem dX10_tellSeason_64 : decode cX10_tellSeason 64 = .ok (.aload_n 0, 1) := by decide +kernel
theorem dX10_tellSeason_65 : decode cX10_tellSeason 65 = .ok (.getfield 76, 3) := by decide +kernel
theorem dX10_tellSeason_68 : decode cX10_tellSeason 68 = .ok (.getfield 323, 3) := by decide +kernel
theorem dX10_tellSeason_71 : decode cX10_tellSeason 71 = .ok (.ireturn, 1) := by decide +kernel
def lX10_tellSeason : List (Nat × (Op ⊕ Nat)) := [(0, .inl (o_iload 1 1)), (1, .inl (o_table 0 3 64 [32, 40, 48, 56])), (32, .inl (o_aload 0 33)), (33, .inl (o_get 10 8 36)), (36, .inl (o_get 7 3 39)), (39, .inr 0), (40, .inl (o_aload 0 41)), (41, .inl (o_get 10 8 44)), (44, .inl (o_get 7 4 47)), (47, .inr 0), (48, .inl (o_aload 0 49)), (49, .inl (o_get 10 8 52)), (52, .inl (o_get 7 5 55)), (55, .inr 0), (56, .inl (o_aload 0 57)), (57, .inl (o_get 10 8 60)), (60, .inl (o_get 7 6 63)), (63, .inr 0), (64, .inl (o_aload 0 65)), (65, .inl (o_get 10 8 68)), (68, .inl (o_get 7 7 71)), (71, .inr 0)]
theorem qX10_tellSeason : yX10_tellSeason.cls = RX10 ∧ yX10_tellSeason.cls ≠ "java/lang/invoke/MethodHandle" ∧ yX10_tellSeason.cls ≠ "java/lang/invoke/VarHandle" ∧ (parseMethodDescriptor yX10_tellSeason.desc).map (fun d => d.parameters.length) = some 1 := by decide +kernel
set_option maxRecDepth 10000 in
theorem hX10_tellSeason_0 (l : Launch) {p : Program} {e : Env} {s : State} {m : MethodId} {args : Array Value} {below : List Frame} {meth : Method} {c : Code} {D : va_G} {ad adV : Nat → Nat} {cA : Nat → ClassId} {K : Kt} (C0 : Cx p s m args meth c D ad adV cA cX10_tellSeason 2 RX10) (hr : meth.sig.returnType = (some .int)) : ∀ q ∈ lX10_tellSeason, Sd p l e (rmd 0) s m args below meth c (MQ below (QQ D ad cA K) args s 0 0 (AA ad)) D ad cA 2 q.1 (opOf K q.2) := List.forall_mem_cons.mpr ⟨s_iload_n C0 dX10_tellSeason_0 rfl, List.forall_mem_cons.mpr ⟨s_table C0 dX10_tellSeason_1 rfl rfl rfl, List.forall_mem_cons.mpr ⟨s_aload_n C0 dX10_tellSeason_32 rfl, List.forall_mem_cons.mpr ⟨s_get (ci := 10) (k := 8) C0 dX10_tellSeason_33 inX10 rfl (by decide) tw2_126, List.forall_mem_cons.mpr ⟨s_get (ci := 7) (k := 3) C0 dX10_tellSeason_36 inX7 rfl (by decide) tw2_69, List.forall_mem_cons.mpr ⟨s_iret C0 hr dX10_tellSeason_39, List.forall_mem_cons.mpr ⟨s_aload_n C0 dX10_tellSeason_40 rfl, List.forall_mem_cons.mpr ⟨s_get (ci := 10) (k := 8) C0 dX10_tellSeason_41 inX10 rfl (by decide) tw2_126, List.forall_mem_cons.mpr ⟨s_get (ci := 7) (k := 4) C0 dX10_tellSeason_44 inX7 rfl (by decide) tw2_71, List.forall_mem_cons.mpr ⟨s_iret C0 hr dX10_tellSeason_47, List.forall_mem_cons.mpr ⟨s_aload_n C0 dX10_tellSeason_48 rfl, List.forall_mem_cons.mpr ⟨s_get (ci := 10) (k := 8) C0 dX10_tellSeason_49 inX10 rfl (by decide) tw2_126, List.forall_mem_cons.mpr ⟨s_get (ci := 7) (k := 5) C0 dX10_tellSeason_52 inX7 rfl (by decide) tw2_73, List.forall_mem_cons.mpr ⟨s_iret C0 hr dX10_tellSeason_55, List.forall_mem_cons.mpr ⟨s_aload_n C0 dX10_tellSeason_56 rfl, List.forall_mem_cons.mpr ⟨s_get (ci := 10) (k := 8) C0 dX10_tellSeason_57 inX10 rfl (by decide) tw2_126, List.forall_mem_cons.mpr ⟨s_get (ci := 7) (k := 6) C0 dX10_tellSeason_60 inX7 rfl (by decide) tw2_75, List.forall_mem_cons.mpr ⟨s_iret C0 hr dX10_tellSeason_63, List.forall_mem_cons.mpr ⟨s_aload_n C0 dX10_tellSeason_64 rfl, List.forall_mem_cons.mpr ⟨s_get (ci := 10) (k := 8) C0 dX10_tellSeason_65 inX10 rfl (by decide) tw2_126, List.forall_mem_cons.mpr ⟨s_get (ci := 7) (k := 7) C0 dX10_tellSeason_68 inX7 rfl (by decide) tw2_77, List.forall_mem_cons.mpr ⟨s_iret C0 hr dX10_tellSeason_71, fun _ h => absurd h List.not_mem_nil⟩⟩⟩⟩⟩⟩⟩⟩⟩⟩⟩⟩⟩⟩⟩⟩⟩⟩⟩⟩⟩⟩
def fX10_tellSeason : Mf := mf 2 (fun K => tl K lX10_tellSeason)
theorem kX10_tellSeason (l : Launch) : Okm l yX10_tellSeason cX10_tellSeason 2 (some .int) 0 fX10_tellSeason := Okm_tl (own := RX10) (by decide +kernel) rfl (fun C0 hr => hX10_tellSeason_0 l C0 hr)
theorem dX10_season_0 : decode cX10_season 0 = .ok (.aload_n 0, 1) := by decide +kernel
theorem dX10_season_1 : decode cX10_season 1 = .ok (.invokevirtual 141, 3) := by decide +kernel
theorem dX10_season_4 : decode cX10_season 4 = .ok (.ifCond .eq 12, 3) := by decide +kernel
theorem dX10_season_7 : decode cX10_season 7 = .ok (.iload_n 2, 1) := by decide +kernel
theorem dX10_season_8 : decode cX10_season 8 = .ok (.iconst 0, 1) := by decide +kernel
theorem dX10_season_9 : decode cX10_season 9 = .ok (.iconst 4, 1) := by decide +kernel
theorem dX10_season_10 : decode cX10_season 10 = .ok (.invokestatic 104, 3) := by decide +kernel
theorem dX10_season_13 : decode cX10_season 13 = .ok (.ifCond .ne 9, 3) := by decide +kernel
theorem dX10_season_16 : decode cX10_season 16 = .ok (.aload_n 0, 1) := by decide +kernel
theorem dX10_season_17 : decode cX10_season 17 = .ok (.iconst 1, 1) := by decide +kernel
theorem dX10_season_18 : decode cX10_season 18 = .ok (.invokevirtual 108, 3) := by decide +kernel
theorem dX10_season_21 : decode cX10_season 21 = .ok (.ireturn, 1) := by decide +kernel
theorem dX10_season_22 : decode cX10_season 22 = .ok (.iload_n 1, 1) := by decide +kernel
theorem dX10_season_23 : decode cX10_season 23 = .ok (.iconst 1, 1) := by decide +kernel
theorem dX10_season_24 : decode cX10_season 24 = .ok (.ldc_w 304, 3) := by decide +kernel
theorem dX10_season_27 : decode cX10_season 27 = .ok (.invokestatic 104, 3) := by decide +kernel
theorem dX10_season_30 : decode cX10_season 30 = .ok (.ifCond .ne 9, 3) := by decide +kernel
theorem dX10_season_33 : decode cX10_season 33 = .ok (.aload_n 0, 1) := by decide +kernel
theorem dX10_season_34 : decode cX10_season 34 = .ok (.iconst 2, 1) := by decide +kernel
theorem dX10_season_35 : decode cX10_season 35 = .ok (.invokevirtual 108, 3) := by decide +kernel
theorem dX10_season_38 : decode cX10_season 38 = .ok (.ireturn, 1) := by decide +kernel
theorem dX10_season_39 : decode cX10_season 39 = .ok (.aload_n 0, 1) := by decide +kernel
theorem dX10_season_40 : decode cX10_season 40 = .ok (.getfield 76, 3) := by decide +kernel
theorem dX10_season_43 : decode cX10_season 43 = .ok (.iload_n 1, 1) := by decide +kernel
theorem dX10_season_44 : decode cX10_season 44 = .ok (.invokevirtual 305, 3) := by decide +kernel
theorem dX10_season_47 : decode cX10_season 47 = .ok (.aload_n 0, 1) := by decide +kernel
theorem dX10_season_48 : decode cX10_season 48 = .ok (.aload_n 0, 1) := by decide +kernel
theorem dX10_season_49 : decode cX10_season 49 = .ok (.iload_n 2, 1) := by decide +kernel
theorem dX10_season_50 : decode cX10_season 50 = .ok (.invokevirtual 308, 3) := by decide +kernel
theorem dX10_season_53 : decode cX10_season 53 = .ok (.invokevirtual 138, 3) := by decide +kernel
theorem dX10_season_56 : decode cX10_season 56 = .ok (.ireturn, 1) := by decide +kernel
def lX10_season : List (Nat × (Op ⊕ Nat)) := [(0, .inl (o_aload 0 1)), (1, .inl (o_callV fX10_hasText 0 10 4)), (4, .inl (o_if_eq 16 7)), (7, .inl (o_iload 2 8)), (8, .inl (o_pushI (nI 0) 9)), (9, .inl (o_pushI (nI 4) 10)), (10, .inl (o_callS fX10_within 3 13)), (13, .inl (o_if_ne 22 16)), (16, .inl (o_aload 0 17)), (17, .inl (o_pushI (nI 1) 18)), (18, .inl (o_callV fX10_refuse 1 10 21)), (21, .inr 0), (22, .inl (o_iload 1 23)), (23, .inl (o_pushI (nI 1) 24)), (24, .inl (o_pushI (nI 2147483646) 27)), (27, .inl (o_callS fX10_within 3 30)), (30, .inl (o_if_ne 39 33)), (33, .inl (o_aload 0 34)), (34, .inl (o_pushI (nI 2) 35)), (35, .inl (o_callV fX10_refuse 1 10 38)), (38, .inr 0), (39, .inl (o_aload 0 40)), (40, .inl (o_get 10 8 43)), (43, .inl (o_iload 1 44)), (44, .inl (o_callV fX7_play 1 7 47)), (47, .inl (o_aload 0 48)), (48, .inl (o_aload 0 49)), (49, .inl (o_iload 2 50)), (50, .inl (o_callV fX10_tellSeason 1 10 53)), (53, .inl (o_callV fX10_answer 1 10 56)), (56, .inr 0)]
theorem qX10_season : yX10_season.cls = RX10 ∧ yX10_season.cls ≠ "java/lang/invoke/MethodHandle" ∧ yX10_season.cls ≠ "java/lang/invoke/VarHandle" ∧ (parseMethodDescriptor yX10_season.desc).map (fun d => d.parameters.length) = some 2 := by decide +kernel
set_option maxRecDepth 10000 in
theorem hX10_season_0 (l : Launch) {p : Program} {e : Env} {s : State} {m : MethodId} {args : Array Value} {below : List Frame} {meth : Method} {c : Code} {D : va_G} {ad adV : Nat → Nat} {cA : Nat → ClassId} {K : Kt} (C0 : Cx p s m args meth c D ad adV cA cX10_season 3 RX10) (hr : meth.sig.returnType = (some .int)) : ∀ q ∈ lX10_season, Sd p l e (rmd 6) s m args below meth c (MQ below (QQ D ad cA K) args s 0 0 (AA ad)) D ad cA 3 q.1 (opOf K q.2) := List.forall_mem_cons.mpr ⟨s_aload_n C0 dX10_season_0 rfl, List.forall_mem_cons.mpr ⟨s_callV (ci := 10) C0 (kX10_hasText l) dX10_season_1 rfl qX10_hasText tw3_155 tw3_157 twp_15 tw1_1 tw3_158 rfl (by decide) (by decide), List.forall_mem_cons.mpr ⟨s_if_eq C0 dX10_season_4 rfl, List.forall_mem_cons.mpr ⟨s_iload_n C0 dX10_season_7 rfl, List.forall_mem_cons.mpr ⟨s_iconst C0 dX10_season_8 rfl, List.forall_mem_cons.mpr ⟨s_iconst C0 dX10_season_9 rfl, List.forall_mem_cons.mpr ⟨s_callS C0 (kX10_within l) dX10_season_10 qX10_within tw2_170 tw2_171 tw1_1 tw2_172 rfl (by decide) (by decide), List.forall_mem_cons.mpr ⟨s_if_ne C0 dX10_season_13 rfl, List.forall_mem_cons.mpr ⟨s_aload_n C0 dX10_season_16 rfl, List.forall_mem_cons.mpr ⟨s_iconst C0 dX10_season_17 rfl, List.forall_mem_cons.mpr ⟨s_callV (ci := 10) C0 (kX10_refuse l) dX10_season_18 rfl qX10_refuse tw2_173 tw2_175 twp_0 tw1_1 tw2_176 rfl (by decide) (by decide), List.forall_mem_cons.mpr ⟨s_iret C0 hr dX10_season_21, List.forall_mem_cons.mpr ⟨s_iload_n C0 dX10_season_22 rfl, List.forall_mem_cons.mpr ⟨s_iconst C0 dX10_season_23 rfl, List.forall_mem_cons.mpr ⟨s_ldcw C0 dX10_season_24 tw5_10, List.forall_mem_cons.mpr ⟨s_callS C0 (kX10_within l) dX10_season_27 qX10_within tw2_170 tw2_171 tw1_1 tw2_172 rfl (by decide) (by decide), List.forall_mem_cons.mpr ⟨s_if_ne C0 dX10_season_30 rfl, List.forall_mem_cons.mpr ⟨s_aload_n C0 dX10_season_33 rfl, List.forall_mem_cons.mpr ⟨s_iconst C0 dX10_season_34 rfl, List.forall_mem_cons.mpr ⟨s_callV (ci := 10) C0 (kX10_refuse l) dX10_season_35 rfl qX10_refuse tw2_173 tw2_175 twp_0 tw1_1 tw2_176 rfl (by decide) (by decide), List.forall_mem_cons.mpr ⟨s_iret C0 hr dX10_season_38, List.forall_mem_cons.mpr ⟨s_aload_n C0 dX10_season_39 rfl, List.forall_mem_cons.mpr ⟨s_get (ci := 10) (k := 8) C0 dX10_season_40 inX10 rfl (by decide) tw2_126, List.forall_mem_cons.mpr ⟨s_iload_n C0 dX10_season_43 rfl, List.forall_mem_cons.mpr ⟨s_callV (ci := 7) C0 (kX7_play l) dX10_season_44 rfl qX7_play tw5_11 tw5_12 tw5_13 tw1_10 tw5_14 rfl (by decide) (by decide), List.forall_mem_cons.mpr ⟨s_aload_n C0 dX10_season_47 rfl, List.forall_mem_cons.mpr ⟨s_aload_n C0 dX10_season_48 rfl, List.forall_mem_cons.mpr ⟨s_iload_n C0 dX10_season_49 rfl, List.forall_mem_cons.mpr ⟨s_callV (ci := 10) C0 (kX10_tellSeason l) dX10_season_50 rfl qX10_tellSeason tw5_26 tw5_28 twp_35 tw1_1 tw5_29 rfl (by decide) (by decide), List.forall_mem_cons.mpr ⟨s_callV (ci := 10) C0 (kX10_answer l) dX10_season_53 rfl qX10_answer tw3_139 tw3_141 twp_14 tw1_1 tw3_142 rfl (by decide) (by decide), List.forall_mem_cons.mpr ⟨s_iret C0 hr dX10_season_56, fun _ h => absurd h List.not_mem_nil⟩⟩⟩⟩⟩⟩⟩⟩⟩⟩⟩⟩⟩⟩⟩⟩⟩⟩⟩⟩⟩⟩⟩⟩⟩⟩⟩⟩⟩⟩⟩
def fX10_season : Mf := mf 3 (fun K => tl K lX10_season)
theorem kX10_season (l : Launch) : Okm l yX10_season cX10_season 3 (some .int) 6 fX10_season := Okm_tl (own := RX10) (by decide +kernel) rfl (fun C0 hr => hX10_season_0 l C0 hr)
theorem dX10_span_0 : decode cX10_span 0 = .ok (.aload_n 0, 1) := by decide +kernel
theorem dX10_span_1 : decode cX10_span 1 = .ok (.invokevirtual 141, 3) := by decide +kernel
theorem dX10_span_4 : decode cX10_span 4 = .ok (.ifCond .eq 12, 3) := by decide +kernel
theorem dX10_span_7 : decode cX10_span 7 = .ok (.iload_n 3, 1) := by decide +kernel
theorem dX10_span_8 : decode cX10_span 8 = .ok (.iconst 0, 1) := by decide +kernel
theorem dX10_span_9 : decode cX10_span 9 = .ok (.iconst 2, 1) := by decide +kernel
theorem dX10_span_10 : decode cX10_span 10 = .ok (.invokestatic 104, 3) := by decide +kernel
theorem dX10_span_13 : decode cX10_span 13 = .ok (.ifCond .ne 9, 3) := by decide +kernel
theorem dX10_span_16 : decode cX10_span 16 = .ok (.aload_n 0, 1) := by decide +kernel
theorem dX10_span_17 : decode cX10_span 17 = .ok (.iconst 1, 1) := by decide +kernel
theorem dX10_span_18 : decode cX10_span 18 = .ok (.invokevirtual 108, 3) := by decide +kernel
theorem dX10_span_21 : decode cX10_span 21 = .ok (.ireturn, 1) := by decide +kernel
theorem dX10_span_22 : decode cX10_span 22 = .ok (.iload_n 2, 1) := by decide +kernel
theorem dX10_span_23 : decode cX10_span 23 = .ok (.iconst 1, 1) := by decide +kernel
theorem dX10_span_24 : decode cX10_span 24 = .ok (.bipush 100, 2) := by decide +kernel
theorem dX10_span_26 : decode cX10_span 26 = .ok (.invokestatic 104, 3) := by decide +kernel
theorem dX10_span_29 : decode cX10_span 29 = .ok (.ifCond .eq 18, 3) := by decide +kernel
theorem dX10_span_32 : decode cX10_span 32 = .ok (.iload_n 1, 1) := by decide +kernel
theorem dX10_span_33 : decode cX10_span 33 = .ok (.iconst 1, 1) := by decide +kernel
theorem dX10_span_34 : decode cX10_span 34 = .ok (.ldc_w 304, 3) := by decide +kernel
theorem dX10_span_37 : decode cX10_span 37 = .ok (.iload_n 2, 1) := by decide +kernel
theorem dX10_span_38 : decode cX10_span 38 = .ok (.isub, 1) := by decide +kernel
theorem dX10_span_39 : decode cX10_span 39 = .ok (.iconst 1, 1) := by decide +kernel
theorem dX10_span_40 : decode cX10_span 40 = .ok (.iadd, 1) := by decide +kernel
theorem dX10_span_41 : decode cX10_span 41 = .ok (.invokestatic 104, 3) := by decide +kernel
theorem dX10_span_44 : decode cX10_span 44 = .ok (.ifCond .ne 9, 3) := by decide +kernel
theorem dX10_span_47 : decode cX10_span 47 = .ok (.aload_n 0, 1) := by decide +kernel
theorem dX10_span_48 : decode cX10_span 48 = .ok (.iconst 2, 1) := by decide +kernel
theorem dX10_span_49 : decode cX10_span 49 = .ok (.invokevirtual 108, 3) := by decide +kernel
theorem dX10_span_52 : decode cX10_span 52 = .ok (.ireturn, 1) := by decide +kernel
theorem dX10_span_53 : decode cX10_span 53 = .ok (.iconst 0, 1) := by decide +kernel
theorem dX10_span_54 : decode cX10_span 54 = .ok (.istore 4, 2) := by decide +kernel
theorem dX10_span_56 : decode cX10_span 56 = .ok (.ldc_w 328, 3) := by decide +kernel
theorem dX10_span_59 : decode cX10_span 59 = .ok (.istore 5, 2) := by decide +kernel
theorem dX10_span_61 : decode cX10_span 61 = .ok (.iconst 0, 1) := by decide +kernel
theorem dX10_span_62 : decode cX10_span 62 = .ok (.istore 6, 2) := by decide +kernel
theorem dX10_span_64 : decode cX10_span 64 = .ok (.iconst 0, 1) := by decide +kernel
theorem dX10_span_65 : decode cX10_span 65 = .ok (.istore 7, 2) := by decide +kernel
theorem dX10_span_67 : decode cX10_span 67 = .ok (.iload 7, 2) := by decide +kernel
theorem dX10_span_69 : decode cX10_span 69 = .ok (.iload_n 2, 1) := by decide +kernel
theorem dX10_span_70 : decode cX10_span 70 = .ok (.if_icmp .ge 68, 3) := by decide +kernel
theorem dX10_span_73 : decode cX10_span 73 = .ok (.aload_n 0, 1) := by decide +kernel
theorem dX10_span_74 : decode cX10_span 74 = .ok (.getfield 76, 3) := by decide +kernel
theorem dX10_span_77 : decode cX10_span 77 = .ok (.iload_n 1, 1) := by decide +kernel
theorem dX10_span_78 : decode cX10_span 78 = .ok (.iload 7, 2) := by decide +kernel
theorem dX10_span_80 : decode cX10_span 80 = .ok (.iadd, 1) := by decide +kernel
theorem dX10_span_81 : decode cX10_span 81 = .ok (.invokevirtual 305, 3) := by decide +kernel
theorem dX10_span_84 : decode cX10_span 84 = .ok (.iload 4, 2) := by decide +kernel
theorem dX10_span_86 : decode cX10_span 86 = .ok (.aload_n 0, 1) := by decide +kernel
theorem dX10_span_87 : decode cX10_span 87 = .ok (.getfield 76, 3) := by decide +kernel
theorem dX10_span_90 : decode cX10_span 90 = .ok (.getfield 311, 3) := by decide +kernel
theorem dX10_span_93 : decode cX10_span 93 = .ok (.ifCond .ne 7, 3) := by decide +kernel
theorem dX10_span_96 : decode cX10_span 96 = .ok (.iconst 1, 1) := by decide +kernel
theorem dX10_span_97 : decode cX10_span 97 = .ok (.goto 4, 3) := by decide +kernel
theorem dX10_span_100 : decode cX10_span 100 = .ok (.iconst 0, 1) := by decide +kernel
theorem dX10_span_101 : decode cX10_span 101 = .ok (.iadd, 1) := by decide +kernel
theorem dX10_span_102 : decode cX10_span 102 = .ok (.istore 4, 2) := by decide +kernel
theorem dX10_span_104 : decode cX10_span 104 = .ok (.iload 5, 2) := by decide +kernel
theorem dX10_span_106 : decode cX10_span 106 = .ok (.aload_n 0, 1) := by decide +kernel
theorem dX10_span_107 : decode cX10_span 107 = .ok (.getfield 76, 3) := by decide +kernel
theorem dX10_span_110 : decode cX10_span 110 = .ok (.getfield 320, 3) := by decide +kernel
theorem dX10_span_113 : decode cX10_span 113 = .ok (.invokestatic 289, 3) := by decide +kernel
theorem dX10_span_116 : decode cX10_span 116 = .ok (.istore 5, 2) := by decide +kernel
theorem dX10_span_118 : decode cX10_span 118 = .ok (.iload 6, 2) := by decide +kernel
theorem dX10_span_120 : decode cX10_span 120 = .ok (.aload_n 0, 1) := by decide +kernel
theorem dX10_span_121 : decode cX10_span 121 = .ok (.getfield 76, 3) := by decide +kernel
theorem dX10_span_124 : decode cX10_span 124 = .ok (.getfield 320, 3) := by decide +kernel
theorem dX10_span_127 : decode cX10_span 127 = .ok (.invokestatic 280, 3) := by decide +kernel
theorem dX10_span_130 : decode cX10_span 130 = .ok (.istore 6, 2) := by decide +kernel
theorem dX10_span_132 : decode cX10_span 132 = .ok (.iinc 7 1, 3) := by decide +kernel
theorem dX10_span_135 : decode cX10_span 135 = .ok (.goto (-68), 3) := by decide +kernel
theorem dX10_span_138 : decode cX10_span 138 = .ok (.iload_n 3, 1) := by decide +kernel
theorem dX10_span_139 : decode cX10_span 139 = .ok (.ifCond .ne 10, 3) := by decide +kernel
theorem dX10_span_142 : decode cX10_span 142 = .ok (.aload_n 0, 1) := by decide +kernel
theorem dX10_span_143 : decode cX10_span 143 = .ok (.iload 4, 2) := by decide +kernel
theorem dX10_span_145 : decode cX10_span 145 = .ok (.invokevirtual 138, 3) := by decide +kernel
theorem dX10_span_148 : decode cX10_span 148 = .ok (.ireturn, 1) := by decide +kernel
theorem dX10_span_149 : decode cX10_span 149 = .ok (.aload_n 0, 1) := by decide +kernel
theorem dX10_span_150 : decode cX10_span 150 = .ok (.iload_n 3, 1) := by decide +kernel
theorem dX10_span_151 : decode cX10_span 151 = .ok (.iconst 1, 1) := by decide +kernel
theorem dX10_span_152 : decode cX10_span 152 = .ok (.if_icmp .ne 8, 3) := by decide +kernel
theorem dX10_span_155 : decode cX10_span 155 = .ok (.iload 5, 2) := by decide +kernel
theorem dX10_span_157 : decode cX10_span 157 = .ok (.goto 5, 3) := by decide +kernel
theorem dX10_span_160 : decode cX10_span 160 = .ok (.iload 6, 2) := by decide +kernel
theorem dX10_span_162 : decode cX10_span 162 = .ok (.invokevirtual 138, 3) := by decide +kernel
theorem dX10_span_165 : decode cX10_span 165 = .ok (.ireturn, 1) := by decide +kernel
def lX10_span_0 : List (Nat × (Op ⊕ Nat)) := [(0, .inl (o_aload 0 1)), (1, .inl (o_callV fX10_hasText 0 10 4)), (4, .inl (o_if_eq 16 7)), (7, .inl (o_iload 3 8)), (8, .inl (o_pushI (nI 0) 9)), (9, .inl (o_pushI (nI 2) 10)), (10, .inl (o_callS fX10_within 3 13)), (13, .inl (o_if_ne 22 16)), (16, .inl (o_aload 0 17)), (17, .inl (o_pushI (nI 1) 18)), (18, .inl (o_callV fX10_refuse 1 10 21)), (21, .inr 0), (22, .inl (o_iload 2 23)), (23, .inl (o_pushI (nI 1) 24)), (24, .inl (o_pushI (nI 100) 26)), (26, .inl (o_callS fX10_within 3 29)), (29, .inl (o_if_eq 47 32)), (32, .inl (o_iload 1 33)), (33, .inl (o_pushI (nI 1) 34)), (34, .inl (o_pushI (nI 2147483646) 37)), (37, .inl (o_iload 2 38)), (38, .inl (o_isub 39)), (39, .inl (o_pushI (nI 1) 40)), (40, .inl (o_iadd 41)), (41, .inl (o_callS fX10_within 3 44)), (44, .inl (o_if_ne 53 47)), (47, .inl (o_aload 0 48)), (48, .inl (o_pushI (nI 2) 49)), (49, .inl (o_callV fX10_refuse 1 10 52)), (52, .inr 0), (53, .inl (o_pushI (nI 0) 54)), (54, .inl (o_istore 4 56)), (56, .inl (o_pushI (nI 2147483647) 59)), (59, .inl (o_istore 5 61)), (61, .inl (o_pushI (nI 0) 62)), (62, .inl (o_istore 6 64)), (64, .inl (o_pushI (nI 0) 65)), (65, .inl (o_istore 7 67)), (67, .inl (o_iload 7 69)), (69, .inl (o_iload 2 70))]
def lX10_span_1 : List (Nat × (Op ⊕ Nat)) := [(70, .inl (o_icmp_ge 138 73)), (73, .inl (o_aload 0 74)), (74, .inl (o_get 10 8 77)), (77, .inl (o_iload 1 78)), (78, .inl (o_iload 7 80)), (80, .inl (o_iadd 81)), (81, .inl (o_callV fX7_play 1 7 84)), (84, .inl (o_iload 4 86)), (86, .inl (o_aload 0 87)), (87, .inl (o_get 10 8 90)), (90, .inl (o_get 7 3 93)), (93, .inl (o_if_ne 100 96)), (96, .inl (o_pushI (nI 1) 97)), (97, .inl (o_goto 101)), (100, .inl (o_pushI (nI 0) 101)), (101, .inl (o_iadd 102)), (102, .inl (o_istore 4 104)), (104, .inl (o_iload 5 106)), (106, .inl (o_aload 0 107)), (107, .inl (o_get 10 8 110)), (110, .inl (o_get 7 6 113)), (113, .inl (o_min 116)), (116, .inl (o_istore 5 118)), (118, .inl (o_iload 6 120)), (120, .inl (o_aload 0 121)), (121, .inl (o_get 10 8 124)), (124, .inl (o_get 7 6 127)), (127, .inl (o_max 130)), (130, .inl (o_istore 6 132)), (132, .inl (o_iinc 7 (nI 1) 135)), (135, .inl (o_goto 67)), (138, .inl (o_iload 3 139)), (139, .inl (o_if_ne 149 142)), (142, .inl (o_aload 0 143)), (143, .inl (o_iload 4 145)), (145, .inl (o_callV fX10_answer 1 10 148)), (148, .inr 0), (149, .inl (o_aload 0 150)), (150, .inl (o_iload 3 151)), (151, .inl (o_pushI (nI 1) 152))]
def lX10_span_2 : List (Nat × (Op ⊕ Nat)) := [(152, .inl (o_icmp_ne 160 155)), (155, .inl (o_iload 5 157)), (157, .inl (o_goto 162)), (160, .inl (o_iload 6 162)), (162, .inl (o_callV fX10_answer 1 10 165)), (165, .inr 0)]
def lX10_span : List (Nat × (Op ⊕ Nat)) := lX10_span_0 ++ (lX10_span_1 ++ (lX10_span_2))
theorem qX10_span : yX10_span.cls = RX10 ∧ yX10_span.cls ≠ "java/lang/invoke/MethodHandle" ∧ yX10_span.cls ≠ "java/lang/invoke/VarHandle" ∧ (parseMethodDescriptor yX10_span.desc).map (fun d => d.parameters.length) = some 3 := by decide +kernel
set_option maxRecDepth 10000 in
theorem hX10_span_0 (l : Launch) {p : Program} {e : Env} {s : State} {m : MethodId} {args : Array Value} {below : List Frame} {meth : Method} {c : Code} {D : va_G} {ad adV : Nat → Nat} {cA : Nat → ClassId} {K : Kt} (C0 : Cx p s m args meth c D ad adV cA cX10_span 8 RX10) (hr : meth.sig.returnType = (some .int)) : ∀ q ∈ lX10_span_0, Sd p l e (rmd 6) s m args below meth c (MQ below (QQ D ad cA K) args s 0 0 (AA ad)) D ad cA 8 q.1 (opOf K q.2) := List.forall_mem_cons.mpr ⟨s_aload_n C0 dX10_span_0 rfl, List.forall_mem_cons.mpr ⟨s_callV (ci := 10) C0 (kX10_hasText l) dX10_span_1 rfl qX10_hasText tw3_155 tw3_157 twp_15 tw1_1 tw3_158 rfl (by decide) (by decide), List.forall_mem_cons.mpr ⟨s_if_eq C0 dX10_span_4 rfl, List.forall_mem_cons.mpr ⟨s_iload_n C0 dX10_span_7 rfl, List.forall_mem_cons.mpr ⟨s_iconst C0 dX10_span_8 rfl, List.forall_mem_cons.mpr ⟨s_iconst C0 dX10_span_9 rfl, List.forall_mem_cons.mpr ⟨s_callS C0 (kX10_within l) dX10_span_10 qX10_within tw2_170 tw2_171 tw1_1 tw2_172 rfl (by decide) (by decide), List.forall_mem_cons.mpr ⟨s_if_ne C0 dX10_span_13 rfl, List.forall_mem_cons.mpr ⟨s_aload_n C0 dX10_span_16 rfl, List.forall_mem_cons.mpr ⟨s_iconst C0 dX10_span_17 rfl, List.forall_mem_cons.mpr ⟨s_callV (ci := 10) C0 (kX10_refuse l) dX10_span_18 rfl qX10_refuse tw2_173 tw2_175 twp_0 tw1_1 tw2_176 rfl (by decide) (by decide), List.forall_mem_cons.mpr ⟨s_iret C0 hr dX10_span_21, List.forall_mem_cons.mpr ⟨s_iload_n C0 dX10_span_22 rfl, List.forall_mem_cons.mpr ⟨s_iconst C0 dX10_span_23 rfl, List.forall_mem_cons.mpr ⟨s_bipush C0 dX10_span_24 (by decide +kernel), List.forall_mem_cons.mpr ⟨s_callS C0 (kX10_within l) dX10_span_26 qX10_within tw2_170 tw2_171 tw1_1 tw2_172 rfl (by decide) (by decide), List.forall_mem_cons.mpr ⟨s_if_eq C0 dX10_span_29 rfl, List.forall_mem_cons.mpr ⟨s_iload_n C0 dX10_span_32 rfl, List.forall_mem_cons.mpr ⟨s_iconst C0 dX10_span_33 rfl, List.forall_mem_cons.mpr ⟨s_ldcw C0 dX10_span_34 tw5_10, List.forall_mem_cons.mpr ⟨s_iload_n C0 dX10_span_37 rfl, List.forall_mem_cons.mpr ⟨s_isub C0 dX10_span_38, List.forall_mem_cons.mpr ⟨s_iconst C0 dX10_span_39 rfl, List.forall_mem_cons.mpr ⟨s_iadd C0 dX10_span_40, List.forall_mem_cons.mpr ⟨s_callS C0 (kX10_within l) dX10_span_41 qX10_within tw2_170 tw2_171 tw1_1 tw2_172 rfl (by decide) (by decide), List.forall_mem_cons.mpr ⟨s_if_ne C0 dX10_span_44 rfl, List.forall_mem_cons.mpr ⟨s_aload_n C0 dX10_span_47 rfl, List.forall_mem_cons.mpr ⟨s_iconst C0 dX10_span_48 rfl, List.forall_mem_cons.mpr ⟨s_callV (ci := 10) C0 (kX10_refuse l) dX10_span_49 rfl qX10_refuse tw2_173 tw2_175 twp_0 tw1_1 tw2_176 rfl (by decide) (by decide), List.forall_mem_cons.mpr ⟨s_iret C0 hr dX10_span_52, List.forall_mem_cons.mpr ⟨s_iconst C0 dX10_span_53 rfl, List.forall_mem_cons.mpr ⟨s_istore C0 dX10_span_54 (by decide), List.forall_mem_cons.mpr ⟨s_ldcw C0 dX10_span_56 tw5_34, List.forall_mem_cons.mpr ⟨s_istore C0 dX10_span_59 (by decide), List.forall_mem_cons.mpr ⟨s_iconst C0 dX10_span_61 rfl, List.forall_mem_cons.mpr ⟨s_istore C0 dX10_span_62 (by decide), List.forall_mem_cons.mpr ⟨s_iconst C0 dX10_span_64 rfl, List.forall_mem_cons.mpr ⟨s_istore C0 dX10_span_65 (by decide), List.forall_mem_cons.mpr ⟨s_iload C0 dX10_span_67, List.forall_mem_cons.mpr ⟨s_iload_n C0 dX10_span_69 rfl, fun _ h => absurd h List.not_mem_nil⟩⟩⟩⟩⟩⟩⟩⟩⟩⟩⟩⟩⟩⟩⟩⟩⟩⟩⟩⟩⟩⟩⟩⟩⟩⟩⟩⟩⟩⟩⟩⟩⟩⟩⟩⟩⟩⟩⟩⟩
set_option maxRecDepth 10000 in
theorem hX10_span_1 (l : Launch) {p : Program} {e : Env} {s : State} {m : MethodId} {args : Array Value} {below : List Frame} {meth : Method} {c : Code} {D : va_G} {ad adV : Nat → Nat} {cA : Nat → ClassId} {K : Kt} (C0 : Cx p s m args meth c D ad adV cA cX10_span 8 RX10) (hr : meth.sig.returnType = (some .int)) : ∀ q ∈ lX10_span_1, Sd p l e (rmd 6) s m args below meth c (MQ below (QQ D ad cA K) args s 0 0 (AA ad)) D ad cA 8 q.1 (opOf K q.2) := List.forall_mem_cons.mpr ⟨s_icmp_ge C0 dX10_span_70 rfl, List.forall_mem_cons.mpr ⟨s_aload_n C0 dX10_span_73 rfl, List.forall_mem_cons.mpr ⟨s_get (ci := 10) (k := 8) C0 dX10_span_74 inX10 rfl (by decide) tw2_126, List.forall_mem_cons.mpr ⟨s_iload_n C0 dX10_span_77 rfl, List.forall_mem_cons.mpr ⟨s_iload C0 dX10_span_78, List.forall_mem_cons.mpr ⟨s_iadd C0 dX10_span_80, List.forall_mem_cons.mpr ⟨s_callV (ci := 7) C0 (kX7_play l) dX10_span_81 rfl qX7_play tw5_11 tw5_12 tw5_13 tw1_10 tw5_14 rfl (by decide) (by decide), List.forall_mem_cons.mpr ⟨s_iload C0 dX10_span_84, List.forall_mem_cons.mpr ⟨s_aload_n C0 dX10_span_86 rfl, List.forall_mem_cons.mpr ⟨s_get (ci := 10) (k := 8) C0 dX10_span_87 inX10 rfl (by decide) tw2_126, List.forall_mem_cons.mpr ⟨s_get (ci := 7) (k := 3) C0 dX10_span_90 inX7 rfl (by decide) tw2_69, List.forall_mem_cons.mpr ⟨s_if_ne C0 dX10_span_93 rfl, List.forall_mem_cons.mpr ⟨s_iconst C0 dX10_span_96 rfl, List.forall_mem_cons.mpr ⟨s_goto C0 dX10_span_97 rfl, List.forall_mem_cons.mpr ⟨s_iconst C0 dX10_span_100 rfl, List.forall_mem_cons.mpr ⟨s_iadd C0 dX10_span_101, List.forall_mem_cons.mpr ⟨s_istore C0 dX10_span_102 (by decide), List.forall_mem_cons.mpr ⟨s_iload C0 dX10_span_104, List.forall_mem_cons.mpr ⟨s_aload_n C0 dX10_span_106 rfl, List.forall_mem_cons.mpr ⟨s_get (ci := 10) (k := 8) C0 dX10_span_107 inX10 rfl (by decide) tw2_126, List.forall_mem_cons.mpr ⟨s_get (ci := 7) (k := 6) C0 dX10_span_110 inX7 rfl (by decide) tw2_75, List.forall_mem_cons.mpr ⟨s_min C0 dX10_span_113 tw4_223 tw2_195 tw1_14 twm_min rfl (by decide), List.forall_mem_cons.mpr ⟨s_istore C0 dX10_span_116 (by decide), List.forall_mem_cons.mpr ⟨s_iload C0 dX10_span_118, List.forall_mem_cons.mpr ⟨s_aload_n C0 dX10_span_120 rfl, List.forall_mem_cons.mpr ⟨s_get (ci := 10) (k := 8) C0 dX10_span_121 inX10 rfl (by decide) tw2_126, List.forall_mem_cons.mpr ⟨s_get (ci := 7) (k := 6) C0 dX10_span_124 inX7 rfl (by decide) tw2_75, List.forall_mem_cons.mpr ⟨s_max C0 dX10_span_127 tw4_216 tw2_198 tw1_14 twm_max rfl (by decide), List.forall_mem_cons.mpr ⟨s_istore C0 dX10_span_130 (by decide), List.forall_mem_cons.mpr ⟨s_iinc C0 dX10_span_132 rfl (by decide), List.forall_mem_cons.mpr ⟨s_goto C0 dX10_span_135 rfl, List.forall_mem_cons.mpr ⟨s_iload_n C0 dX10_span_138 rfl, List.forall_mem_cons.mpr ⟨s_if_ne C0 dX10_span_139 rfl, List.forall_mem_cons.mpr ⟨s_aload_n C0 dX10_span_142 rfl, List.forall_mem_cons.mpr ⟨s_iload C0 dX10_span_143, List.forall_mem_cons.mpr ⟨s_callV (ci := 10) C0 (kX10_answer l) dX10_span_145 rfl qX10_answer tw3_139 tw3_141 twp_14 tw1_1 tw3_142 rfl (by decide) (by decide), List.forall_mem_cons.mpr ⟨s_iret C0 hr dX10_span_148, List.forall_mem_cons.mpr ⟨s_aload_n C0 dX10_span_149 rfl, List.forall_mem_cons.mpr ⟨s_iload_n C0 dX10_span_150 rfl, List.forall_mem_cons.mpr ⟨s_iconst C0 dX10_span_151 rfl, fun _ h => absurd h List.not_mem_nil⟩⟩⟩⟩⟩⟩⟩⟩⟩⟩⟩⟩⟩⟩⟩⟩⟩⟩⟩⟩⟩⟩⟩⟩⟩⟩⟩⟩⟩⟩⟩⟩⟩⟩⟩⟩⟩⟩⟩⟩
set_option maxRecDepth 10000 in
theorem hX10_span_2 (l : Launch) {p : Program} {e : Env} {s : State} {m : MethodId} {args : Array Value} {below : List Frame} {meth : Method} {c : Code} {D : va_G} {ad adV : Nat → Nat} {cA : Nat → ClassId} {K : Kt} (C0 : Cx p s m args meth c D ad adV cA cX10_span 8 RX10) (hr : meth.sig.returnType = (some .int)) : ∀ q ∈ lX10_span_2, Sd p l e (rmd 6) s m args below meth c (MQ below (QQ D ad cA K) args s 0 0 (AA ad)) D ad cA 8 q.1 (opOf K q.2) := List.forall_mem_cons.mpr ⟨s_icmp_ne C0 dX10_span_152 rfl, List.forall_mem_cons.mpr ⟨s_iload C0 dX10_span_155, List.forall_mem_cons.mpr ⟨s_goto C0 dX10_span_157 rfl, List.forall_mem_cons.mpr ⟨s_iload C0 dX10_span_160, List.forall_mem_cons.mpr ⟨s_callV (ci := 10) C0 (kX10_answer l) dX10_span_162 rfl qX10_answer tw3_139 tw3_141 twp_14 tw1_1 tw3_142 rfl (by decide) (by decide), List.forall_mem_cons.mpr ⟨s_iret C0 hr dX10_span_165, fun _ h => absurd h List.not_mem_nil⟩⟩⟩⟩⟩⟩
def fX10_span : Mf := mf 8 (fun K => tl K lX10_span)
theorem kX10_span (l : Launch) : Okm l yX10_span cX10_span 8 (some .int) 6 fX10_span := Okm_tl (own := RX10) (by decide +kernel) rfl (fun C0 hr => List.forall_mem_append.mpr ⟨hX10_span_0 l C0 hr, List.forall_mem_append.mpr ⟨hX10_span_1 l C0 hr, hX10_span_2 l C0 hr⟩⟩)
theorem dX10_put_0 : decode cX10_put 0 = .ok (.aload_n 0, 1) := by decide +kernel
theorem dX10_put_1 : decode cX10_put 1 = .ok (.iload_n 1, 1) := by decide +kernel
theorem dX10_put_2 : decode cX10_put 2 = .ok (.invokevirtual 184, 3) := by decide +kernel
theorem dX10_put_5 : decode cX10_put 5 = .ok (.ifCond .eq 11, 3) := by decide +kernel
theorem dX10_put_8 : decode cX10_put 8 = .ok (.aload_n 0, 1) := by decide +kernel
theorem dX10_put_9 : decode cX10_put 9 = .ok (.iload_n 2, 1) := by decide +kernel
theorem dX10_put_10 : decode cX10_put 10 = .ok (.invokevirtual 162, 3) := by decide +kernel
theorem dX10_put_13 : decode cX10_put 13 = .ok (.ifCond .ne 9, 3) := by decide +kernel
theorem dX10_put_16 : decode cX10_put 16 = .ok (.aload_n 0, 1) := by decide +kernel
theorem dX10_put_17 : decode cX10_put 17 = .ok (.iconst 1, 1) := by decide +kernel
theorem dX10_put_18 : decode cX10_put 18 = .ok (.invokevirtual 108, 3) := by decide +kernel
theorem dX10_put_21 : decode cX10_put 21 = .ok (.ireturn, 1) := by decide +kernel
theorem dX10_put_22 : decode cX10_put 22 = .ok (.iload_n 3, 1) := by decide +kernel
theorem dX10_put_23 : decode cX10_put 23 = .ok (.iconst 1, 1) := by decide +kernel
theorem dX10_put_24 : decode cX10_put 24 = .ok (.aload_n 0, 1) := by decide +kernel
theorem dX10_put_25 : decode cX10_put 25 = .ok (.getfield 28, 3) := by decide +kernel
theorem dX10_put_28 : decode cX10_put 28 = .ok (.iload_n 2, 1) := by decide +kernel
theorem dX10_put_29 : decode cX10_put 29 = .ok (.iconst 1, 1) := by decide +kernel
theorem dX10_put_30 : decode cX10_put 30 = .ok (.invokevirtual 172, 3) := by decide +kernel
theorem dX10_put_33 : decode cX10_put 33 = .ok (.invokestatic 104, 3) := by decide +kernel
theorem dX10_put_36 : decode cX10_put 36 = .ok (.ifCond .ne 9, 3) := by decide +kernel
theorem dX10_put_39 : decode cX10_put 39 = .ok (.aload_n 0, 1) := by decide +kernel
theorem dX10_put_40 : decode cX10_put 40 = .ok (.iconst 2, 1) := by decide +kernel
theorem dX10_put_41 : decode cX10_put 41 = .ok (.invokevirtual 108, 3) := by decide +kernel
theorem dX10_put_44 : decode cX10_put 44 = .ok (.ireturn, 1) := by decide +kernel
theorem dX10_put_45 : decode cX10_put 45 = .ok (.aload_n 0, 1) := by decide +kernel
theorem dX10_put_46 : decode cX10_put 46 = .ok (.getfield 35, 3) := by decide +kernel
theorem dX10_put_49 : decode cX10_put 49 = .ok (.getfield 193, 3) := by decide +kernel
theorem dX10_put_52 : decode cX10_put 52 = .ok (.iload_n 1, 1) := by decide +kernel
theorem dX10_put_53 : decode cX10_put 53 = .ok (.iaload, 1) := by decide +kernel
theorem dX10_put_54 : decode cX10_put 54 = .ok (.iconst 3, 1) := by decide +kernel
theorem dX10_put_55 : decode cX10_put 55 = .ok (.if_icmp .ge 15, 3) := by decide +kernel
theorem dX10_put_58 : decode cX10_put 58 = .ok (.iload_n 3, 1) := by decide +kernel
theorem dX10_put_59 : decode cX10_put 59 = .ok (.aload_n 0, 1) := by decide +kernel
theorem dX10_put_60 : decode cX10_put 60 = .ok (.getfield 44, 3) := by decide +kernel
theorem dX10_put_63 : decode cX10_put 63 = .ok (.iload_n 1, 1) := by decide +kernel
theorem dX10_put_64 : decode cX10_put 64 = .ok (.invokevirtual 196, 3) := by decide +kernel
theorem dX10_put_67 : decode cX10_put 67 = .ok (.if_icmp .le 9, 3) := by decide +kernel
theorem dX10_put_70 : decode cX10_put 70 = .ok (.aload_n 0, 1) := by decide +kernel
theorem dX10_put_71 : decode cX10_put 71 = .ok (.iconst 3, 1) := by decide +kernel
theorem dX10_put_72 : decode cX10_put 72 = .ok (.invokevirtual 108, 3) := by decide +kernel
theorem dX10_put_75 : decode cX10_put 75 = .ok (.ireturn, 1) := by decide +kernel
theorem dX10_put_76 : decode cX10_put 76 = .ok (.aload_n 0, 1) := by decide +kernel
theorem dX10_put_77 : decode cX10_put 77 = .ok (.getfield 35, 3) := by decide +kernel
theorem dX10_put_80 : decode cX10_put 80 = .ok (.iload_n 2, 1) := by decide +kernel
theorem dX10_put_81 : decode cX10_put 81 = .ok (.iload_n 1, 1) := by decide +kernel
theorem dX10_put_82 : decode cX10_put 82 = .ok (.invokevirtual 277, 3) := by decide +kernel
theorem dX10_put_85 : decode cX10_put 85 = .ok (.ifCond .ne 21, 3) := by decide +kernel
theorem dX10_put_88 : decode cX10_put 88 = .ok (.iload 4, 2) := by decide +kernel
theorem dX10_put_90 : decode cX10_put 90 = .ok (.ifCond .ne 22, 3) := by decide +kernel
theorem dX10_put_93 : decode cX10_put 93 = .ok (.aload_n 0, 1) := by decide +kernel
theorem dX10_put_94 : decode cX10_put 94 = .ok (.getfield 53, 3) := by decide +kernel
theorem dX10_put_97 : decode cX10_put 97 = .ok (.iload_n 2, 1) := by decide +kernel
theorem dX10_put_98 : decode cX10_put 98 = .ok (.iload_n 1, 1) := by decide +kernel
theorem dX10_put_99 : decode cX10_put 99 = .ok (.iload_n 3, 1) := by decide +kernel
theorem dX10_put_100 : decode cX10_put 100 = .ok (.invokevirtual 329, 3) := by decide +kernel
theorem dX10_put_103 : decode cX10_put 103 = .ok (.ifCond .ne 9, 3) := by decide +kernel
theorem dX10_put_106 : decode cX10_put 106 = .ok (.aload_n 0, 1) := by decide +kernel
theorem dX10_put_107 : decode cX10_put 107 = .ok (.iconst 5, 1) := by decide +kernel
theorem dX10_put_108 : decode cX10_put 108 = .ok (.invokevirtual 108, 3) := by decide +kernel
theorem dX10_put_111 : decode cX10_put 111 = .ok (.ireturn, 1) := by decide +kernel
theorem dX10_put_112 : decode cX10_put 112 = .ok (.aload_n 0, 1) := by decide +kernel
theorem dX10_put_113 : decode cX10_put 113 = .ok (.getfield 83, 3) := by decide +kernel
theorem dX10_put_116 : decode cX10_put 116 = .ok (.invokevirtual 332, 3) := by decide +kernel
theorem dX10_put_119 : decode cX10_put 119 = .ok (.aload_n 0, 1) := by decide +kernel
theorem dX10_put_120 : decode cX10_put 120 = .ok (.getfield 35, 3) := by decide +kernel
theorem dX10_put_123 : decode cX10_put 123 = .ok (.iload_n 1, 1) := by decide +kernel
theorem dX10_put_124 : decode cX10_put 124 = .ok (.iload_n 2, 1) := by decide +kernel
theorem dX10_put_125 : decode cX10_put 125 = .ok (.iload_n 3, 1) := by decide +kernel
theorem dX10_put_126 : decode cX10_put 126 = .ok (.invokevirtual 335, 3) := by decide +kernel
theorem dX10_put_129 : decode cX10_put 129 = .ok (.aload_n 0, 1) := by decide +kernel
theorem dX10_put_130 : decode cX10_put 130 = .ok (.aload_n 0, 1) := by decide +kernel
theorem dX10_put_131 : decode cX10_put 131 = .ok (.getfield 35, 3) := by decide +kernel
theorem dX10_put_134 : decode cX10_put 134 = .ok (.getfield 193, 3) := by decide +kernel
theorem dX10_put_137 : decode cX10_put 137 = .ok (.iload_n 1, 1) := by decide +kernel
theorem dX10_put_138 : decode cX10_put 138 = .ok (.iaload, 1) := by decide +kernel
theorem dX10_put_139 : decode cX10_put 139 = .ok (.invokevirtual 138, 3) := by decide +kernel
theorem dX10_put_142 : decode cX10_put 142 = .ok (.ireturn, 1) := by decide +kernel
def lX10_put_0 : List (Nat × (Op ⊕ Nat)) := [(0, .inl (o_aload 0 1)), (1, .inl (o_iload 1 2)), (2, .inl (o_callV fX10_hasGame 1 10 5)), (5, .inl (o_if_eq 16 8)), (8, .inl (o_aload 0 9)), (9, .inl (o_iload 2 10)), (10, .inl (o_callV fX10_hasArm 1 10 13)), (13, .inl (o_if_ne 22 16)), (16, .inl (o_aload 0 17)), (17, .inl (o_pushI (nI 1) 18)), (18, .inl (o_callV fX10_refuse 1 10 21)), (21, .inr 0), (22, .inl (o_iload 3 23)), (23, .inl (o_pushI (nI 1) 24)), (24, .inl (o_aload 0 25)), (25, .inl (o_get 10 2 28)), (28, .inl (o_iload 2 29)), (29, .inl (o_pushI (nI 1) 30)), (30, .inl (o_callV fX9_trait 2 9 33)), (33, .inl (o_callS fX10_within 3 36)), (36, .inl (o_if_ne 45 39)), (39, .inl (o_aload 0 40)), (40, .inl (o_pushI (nI 2) 41)), (41, .inl (o_callV fX10_refuse 1 10 44)), (44, .inr 0), (45, .inl (o_aload 0 46)), (46, .inl (o_get 10 3 49)), (49, .inl (o_get 5 0 52)), (52, .inl (o_iload 1 53)), (53, .inl (o_iald 54)), (54, .inl (o_pushI (nI 3) 55)), (55, .inl (o_icmp_ge 70 58)), (58, .inl (o_iload 3 59)), (59, .inl (o_aload 0 60)), (60, .inl (o_get 10 4 63)), (63, .inl (o_iload 1 64)), (64, .inl (o_callV fX1_leftIn 1 1 67)), (67, .inl (o_icmp_le 76 70)), (70, .inl (o_aload 0 71)), (71, .inl (o_pushI (nI 3) 72))]
def lX10_put_1 : List (Nat × (Op ⊕ Nat)) := [(72, .inl (o_callV fX10_refuse 1 10 75)), (75, .inr 0), (76, .inl (o_aload 0 77)), (77, .inl (o_get 10 3 80)), (80, .inl (o_iload 2 81)), (81, .inl (o_iload 1 82)), (82, .inl (o_callV fX5_has 2 5 85)), (85, .inl (o_if_ne 106 88)), (88, .inl (o_iload 4 90)), (90, .inl (o_if_ne 112 93)), (93, .inl (o_aload 0 94)), (94, .inl (o_get 10 5 97)), (97, .inl (o_iload 2 98)), (98, .inl (o_iload 1 99)), (99, .inl (o_iload 3 100)), (100, .inl (o_callV fX3_allowsIn 3 3 103)), (103, .inl (o_if_ne 112 106)), (106, .inl (o_aload 0 107)), (107, .inl (o_pushI (nI 5) 108)), (108, .inl (o_callV fX10_refuse 1 10 111)), (111, .inr 0), (112, .inl (o_aload 0 113)), (113, .inl (o_get 10 9 116)), (116, .inl (o_callV fX4_keep 0 4 119)), (119, .inl (o_aload 0 120)), (120, .inl (o_get 10 3 123)), (123, .inl (o_iload 1 124)), (124, .inl (o_iload 2 125)), (125, .inl (o_iload 3 126)), (126, .inl (o_callV fX5_add 3 5 129)), (129, .inl (o_aload 0 130)), (130, .inl (o_aload 0 131)), (131, .inl (o_get 10 3 134)), (134, .inl (o_get 5 0 137)), (137, .inl (o_iload 1 138)), (138, .inl (o_iald 139)), (139, .inl (o_callV fX10_answer 1 10 142)), (142, .inr 0)]
def lX10_put : List (Nat × (Op ⊕ Nat)) := lX10_put_0 ++ (lX10_put_1)
theorem qX10_put : yX10_put.cls = RX10 ∧ yX10_put.cls ≠ "java/lang/invoke/MethodHandle" ∧ yX10_put.cls ≠ "java/lang/invoke/VarHandle" ∧ (parseMethodDescriptor yX10_put.desc).map (fun d => d.parameters.length) = some 4 := by decide +kernel
set_option maxRecDepth 10000 in
theorem hX10_put_0 (l : Launch) {p : Program} {e : Env} {s : State} {m : MethodId} {args : Array Value} {below : List Frame} {meth : Method} {c : Code} {D : va_G} {ad adV : Nat → Nat} {cA : Nat → ClassId} {K : Kt} (C0 : Cx p s m args meth c D ad adV cA cX10_put 5 RX10) (hr : meth.sig.returnType = (some .int)) : ∀ q ∈ lX10_put_0, Sd p l e (rmd 5) s m args below meth c (MQ below (QQ D ad cA K) args s 0 0 (AA ad)) D ad cA 5 q.1 (opOf K q.2) := List.forall_mem_cons.mpr ⟨s_aload_n C0 dX10_put_0 rfl, List.forall_mem_cons.mpr ⟨s_iload_n C0 dX10_put_1 rfl, List.forall_mem_cons.mpr ⟨s_callV (ci := 10) C0 (kX10_hasGame l) dX10_put_2 rfl qX10_hasGame tw3_217 tw3_219 twp_19 tw1_1 tw3_220 rfl (by decide) (by decide), List.forall_mem_cons.mpr ⟨s_if_eq C0 dX10_put_5 rfl, List.forall_mem_cons.mpr ⟨s_aload_n C0 dX10_put_8 rfl, List.forall_mem_cons.mpr ⟨s_iload_n C0 dX10_put_9 rfl, List.forall_mem_cons.mpr ⟨s_callV (ci := 10) C0 (kX10_hasArm l) dX10_put_10 rfl qX10_hasArm tw3_171 tw3_173 twp_17 tw1_1 tw3_174 rfl (by decide) (by decide), List.forall_mem_cons.mpr ⟨s_if_ne C0 dX10_put_13 rfl, List.forall_mem_cons.mpr ⟨s_aload_n C0 dX10_put_16 rfl, List.forall_mem_cons.mpr ⟨s_iconst C0 dX10_put_17 rfl, List.forall_mem_cons.mpr ⟨s_callV (ci := 10) C0 (kX10_refuse l) dX10_put_18 rfl qX10_refuse tw2_173 tw2_175 twp_0 tw1_1 tw2_176 rfl (by decide) (by decide), List.forall_mem_cons.mpr ⟨s_iret C0 hr dX10_put_21, List.forall_mem_cons.mpr ⟨s_iload_n C0 dX10_put_22 rfl, List.forall_mem_cons.mpr ⟨s_iconst C0 dX10_put_23 rfl, List.forall_mem_cons.mpr ⟨s_aload_n C0 dX10_put_24 rfl, List.forall_mem_cons.mpr ⟨s_get (ci := 10) (k := 2) C0 dX10_put_25 inX10 rfl (by decide) tw2_120, List.forall_mem_cons.mpr ⟨s_iload_n C0 dX10_put_28 rfl, List.forall_mem_cons.mpr ⟨s_iconst C0 dX10_put_29 rfl, List.forall_mem_cons.mpr ⟨s_callV (ci := 9) C0 (kX9_trait l) dX10_put_30 rfl qX9_trait tw3_179 tw3_73 tw3_74 tw1_4 tw3_75 rfl (by decide) (by decide), List.forall_mem_cons.mpr ⟨s_callS C0 (kX10_within l) dX10_put_33 qX10_within tw2_170 tw2_171 tw1_1 tw2_172 rfl (by decide) (by decide), List.forall_mem_cons.mpr ⟨s_if_ne C0 dX10_put_36 rfl, List.forall_mem_cons.mpr ⟨s_aload_n C0 dX10_put_39 rfl, List.forall_mem_cons.mpr ⟨s_iconst C0 dX10_put_40 rfl, List.forall_mem_cons.mpr ⟨s_callV (ci := 10) C0 (kX10_refuse l) dX10_put_41 rfl qX10_refuse tw2_173 tw2_175 twp_0 tw1_1 tw2_176 rfl (by decide) (by decide), List.forall_mem_cons.mpr ⟨s_iret C0 hr dX10_put_44, List.forall_mem_cons.mpr ⟨s_aload_n C0 dX10_put_45 rfl, List.forall_mem_cons.mpr ⟨s_get (ci := 10) (k := 3) C0 dX10_put_46 inX10 rfl (by decide) tw2_121, List.forall_mem_cons.mpr ⟨s_get (ci := 5) (k := 0) C0 dX10_put_49 inX5 rfl (by decide) tw1_171, List.forall_mem_cons.mpr ⟨s_iload_n C0 dX10_put_52 rfl, List.forall_mem_cons.mpr ⟨s_iald C0 dX10_put_53, List.forall_mem_cons.mpr ⟨s_iconst C0 dX10_put_54 rfl, List.forall_mem_cons.mpr ⟨s_icmp_ge C0 dX10_put_55 rfl, List.forall_mem_cons.mpr ⟨s_iload_n C0 dX10_put_58 rfl, List.forall_mem_cons.mpr ⟨s_aload_n C0 dX10_put_59 rfl, List.forall_mem_cons.mpr ⟨s_get (ci := 10) (k := 4) C0 dX10_put_60 inX10 rfl (by decide) tw2_122, List.forall_mem_cons.mpr ⟨s_iload_n C0 dX10_put_63 rfl, List.forall_mem_cons.mpr ⟨s_callV (ci := 1) C0 (kX1_leftIn l) dX10_put_64 rfl qX1_leftIn tw3_226 tw3_227 tw3_228 tw1_6 tw3_229 rfl (by decide) (by decide), List.forall_mem_cons.mpr ⟨s_icmp_le C0 dX10_put_67 rfl, List.forall_mem_cons.mpr ⟨s_aload_n C0 dX10_put_70 rfl, List.forall_mem_cons.mpr ⟨s_iconst C0 dX10_put_71 rfl, fun _ h => absurd h List.not_mem_nil⟩⟩⟩⟩⟩⟩⟩⟩⟩⟩⟩⟩⟩⟩⟩⟩⟩⟩⟩⟩⟩⟩⟩⟩⟩⟩⟩⟩⟩⟩⟩⟩⟩⟩⟩⟩⟩⟩⟩⟩
set_option maxRecDepth 10000 in
theorem hX10_put_1 (l : Launch) {p : Program} {e : Env} {s : State} {m : MethodId} {args : Array Value} {below : List Frame} {meth : Method} {c : Code} {D : va_G} {ad adV : Nat → Nat} {cA : Nat → ClassId} {K : Kt} (C0 : Cx p s m args meth c D ad adV cA cX10_put 5 RX10) (hr : meth.sig.returnType = (some .int)) : ∀ q ∈ lX10_put_1, Sd p l e (rmd 5) s m args below meth c (MQ below (QQ D ad cA K) args s 0 0 (AA ad)) D ad cA 5 q.1 (opOf K q.2) := List.forall_mem_cons.mpr ⟨s_callV (ci := 10) C0 (kX10_refuse l) dX10_put_72 rfl qX10_refuse tw2_173 tw2_175 twp_0 tw1_1 tw2_176 rfl (by decide) (by decide), List.forall_mem_cons.mpr ⟨s_iret C0 hr dX10_put_75, List.forall_mem_cons.mpr ⟨s_aload_n C0 dX10_put_76 rfl, List.forall_mem_cons.mpr ⟨s_get (ci := 10) (k := 3) C0 dX10_put_77 inX10 rfl (by decide) tw2_121, List.forall_mem_cons.mpr ⟨s_iload_n C0 dX10_put_80 rfl, List.forall_mem_cons.mpr ⟨s_iload_n C0 dX10_put_81 rfl, List.forall_mem_cons.mpr ⟨s_callV (ci := 5) C0 (kX5_has l) dX10_put_82 rfl qX5_has tw4_215 tw3_193 tw3_194 tw1_5 tw3_195 rfl (by decide) (by decide), List.forall_mem_cons.mpr ⟨s_if_ne C0 dX10_put_85 rfl, List.forall_mem_cons.mpr ⟨s_iload C0 dX10_put_88, List.forall_mem_cons.mpr ⟨s_if_ne C0 dX10_put_90 rfl, List.forall_mem_cons.mpr ⟨s_aload_n C0 dX10_put_93 rfl, List.forall_mem_cons.mpr ⟨s_get (ci := 10) (k := 5) C0 dX10_put_94 inX10 rfl (by decide) tw2_123, List.forall_mem_cons.mpr ⟨s_iload_n C0 dX10_put_97 rfl, List.forall_mem_cons.mpr ⟨s_iload_n C0 dX10_put_98 rfl, List.forall_mem_cons.mpr ⟨s_iload_n C0 dX10_put_99 rfl, List.forall_mem_cons.mpr ⟨s_callV (ci := 3) C0 (kX3_allowsIn l) dX10_put_100 rfl qX3_allowsIn tw5_39 tw4_38 tw4_39 tw1_7 tw4_40 rfl (by decide) (by decide), List.forall_mem_cons.mpr ⟨s_if_ne C0 dX10_put_103 rfl, List.forall_mem_cons.mpr ⟨s_aload_n C0 dX10_put_106 rfl, List.forall_mem_cons.mpr ⟨s_iconst C0 dX10_put_107 rfl, List.forall_mem_cons.mpr ⟨s_callV (ci := 10) C0 (kX10_refuse l) dX10_put_108 rfl qX10_refuse tw2_173 tw2_175 twp_0 tw1_1 tw2_176 rfl (by decide) (by decide), List.forall_mem_cons.mpr ⟨s_iret C0 hr dX10_put_111, List.forall_mem_cons.mpr ⟨s_aload_n C0 dX10_put_112 rfl, List.forall_mem_cons.mpr ⟨s_get (ci := 10) (k := 9) C0 dX10_put_113 inX10 rfl (by decide) tw2_127, List.forall_mem_cons.mpr ⟨s_callV (ci := 4) C0 (kX4_keep l) dX10_put_116 rfl qX4_keep tw5_40 tw5_41 tw5_42 tw1_11 tw5_43 rfl (by decide) (by decide), List.forall_mem_cons.mpr ⟨s_aload_n C0 dX10_put_119 rfl, List.forall_mem_cons.mpr ⟨s_get (ci := 10) (k := 3) C0 dX10_put_120 inX10 rfl (by decide) tw2_121, List.forall_mem_cons.mpr ⟨s_iload_n C0 dX10_put_123 rfl, List.forall_mem_cons.mpr ⟨s_iload_n C0 dX10_put_124 rfl, List.forall_mem_cons.mpr ⟨s_iload_n C0 dX10_put_125 rfl, List.forall_mem_cons.mpr ⟨s_callV (ci := 5) C0 (kX5_add l) dX10_put_126 rfl qX5_add tw5_53 tw5_54 tw5_55 tw1_5 tw5_56 rfl (by decide) (by decide), List.forall_mem_cons.mpr ⟨s_aload_n C0 dX10_put_129 rfl, List.forall_mem_cons.mpr ⟨s_aload_n C0 dX10_put_130 rfl, List.forall_mem_cons.mpr ⟨s_get (ci := 10) (k := 3) C0 dX10_put_131 inX10 rfl (by decide) tw2_121, List.forall_mem_cons.mpr ⟨s_get (ci := 5) (k := 0) C0 dX10_put_134 inX5 rfl (by decide) tw1_171, List.forall_mem_cons.mpr ⟨s_iload_n C0 dX10_put_137 rfl, List.forall_mem_cons.mpr ⟨s_iald C0 dX10_put_138, List.forall_mem_cons.mpr ⟨s_callV (ci := 10) C0 (kX10_answer l) dX10_put_139 rfl qX10_answer tw3_139 tw3_141 twp_14 tw1_1 tw3_142 rfl (by decide) (by decide), List.forall_mem_cons.mpr ⟨s_iret C0 hr dX10_put_142, fun _ h => absurd h List.not_mem_nil⟩⟩⟩⟩⟩⟩⟩⟩⟩⟩⟩⟩⟩⟩⟩⟩⟩⟩⟩⟩⟩⟩⟩⟩⟩⟩⟩⟩⟩⟩⟩⟩⟩⟩⟩⟩⟩⟩
def fX10_put : Mf := mf 5 (fun K => tl K lX10_put)
theorem kX10_put (l : Launch) : Okm l yX10_put cX10_put 5 (some .int) 5 fX10_put := Okm_tl (own := RX10) (by decide +kernel) rfl (fun C0 hr => List.forall_mem_append.mpr ⟨hX10_put_0 l C0 hr, hX10_put_1 l C0 hr⟩)
theorem dX10_take_0 : decode cX10_take 0 = .ok (.aload_n 0, 1) := by decide +kernel
theorem dX10_take_1 : decode cX10_take 1 = .ok (.iload_n 1, 1) := by decide +kernel
theorem dX10_take_2 : decode cX10_take 2 = .ok (.iload_n 2, 1) := by decide +kernel
theorem dX10_take_3 : decode cX10_take 3 = .ok (.invokevirtual 205, 3) := by decide +kernel
theorem dX10_take_6 : decode cX10_take 6 = .ok (.ifCond .ne 9, 3) := by decide +kernel
theorem dX10_take_9 : decode cX10_take 9 = .ok (.aload_n 0, 1) := by decide +kernel
theorem dX10_take_10 : decode cX10_take 10 = .ok (.iconst 1, 1) := by decide +kernel
theorem dX10_take_11 : decode cX10_take 11 = .ok (.invokevirtual 108, 3) := by decide +kernel
theorem dX10_take_14 : decode cX10_take 14 = .ok (.ireturn, 1) := by decide +kernel
theorem dX10_take_15 : decode cX10_take 15 = .ok (.aload_n 0, 1) := by decide +kernel
theorem dX10_take_16 : decode cX10_take 16 = .ok (.getfield 83, 3) := by decide +kernel
theorem dX10_take_19 : decode cX10_take 19 = .ok (.invokevirtual 332, 3) := by decide +kernel
theorem dX10_take_22 : decode cX10_take 22 = .ok (.aload_n 0, 1) := by decide +kernel
theorem dX10_take_23 : decode cX10_take 23 = .ok (.getfield 35, 3) := by decide +kernel
theorem dX10_take_26 : decode cX10_take 26 = .ok (.iload_n 1, 1) := by decide +kernel
theorem dX10_take_27 : decode cX10_take 27 = .ok (.iload_n 2, 1) := by decide +kernel
theorem dX10_take_28 : decode cX10_take 28 = .ok (.invokevirtual 216, 3) := by decide +kernel
theorem dX10_take_31 : decode cX10_take 31 = .ok (.istore_n 3, 1) := by decide +kernel
theorem dX10_take_32 : decode cX10_take 32 = .ok (.aload_n 0, 1) := by decide +kernel
theorem dX10_take_33 : decode cX10_take 33 = .ok (.getfield 35, 3) := by decide +kernel
theorem dX10_take_36 : decode cX10_take 36 = .ok (.iload_n 1, 1) := by decide +kernel
theorem dX10_take_37 : decode cX10_take 37 = .ok (.iload_n 2, 1) := by decide +kernel
theorem dX10_take_38 : decode cX10_take 38 = .ok (.invokevirtual 339, 3) := by decide +kernel
theorem dX10_take_41 : decode cX10_take 41 = .ok (.aload_n 0, 1) := by decide +kernel
theorem dX10_take_42 : decode cX10_take 42 = .ok (.iload_n 3, 1) := by decide +kernel
theorem dX10_take_43 : decode cX10_take 43 = .ok (.invokevirtual 138, 3) := by decide +kernel
theorem dX10_take_46 : decode cX10_take 46 = .ok (.ireturn, 1) := by decide +kernel
def lX10_take : List (Nat × (Op ⊕ Nat)) := [(0, .inl (o_aload 0 1)), (1, .inl (o_iload 1 2)), (2, .inl (o_iload 2 3)), (3, .inl (o_callV fX10_hasOuting 2 10 6)), (6, .inl (o_if_ne 15 9)), (9, .inl (o_aload 0 10)), (10, .inl (o_pushI (nI 1) 11)), (11, .inl (o_callV fX10_refuse 1 10 14)), (14, .inr 0), (15, .inl (o_aload 0 16)), (16, .inl (o_get 10 9 19)), (19, .inl (o_callV fX4_keep 0 4 22)), (22, .inl (o_aload 0 23)), (23, .inl (o_get 10 3 26)), (26, .inl (o_iload 1 27)), (27, .inl (o_iload 2 28)), (28, .inl (o_callV fX5_throwsAt 2 5 31)), (31, .inl (o_istore 3 32)), (32, .inl (o_aload 0 33)), (33, .inl (o_get 10 3 36)), (36, .inl (o_iload 1 37)), (37, .inl (o_iload 2 38)), (38, .inl (o_callV fX5_remove 2 5 41)), (41, .inl (o_aload 0 42)), (42, .inl (o_iload 3 43)), (43, .inl (o_callV fX10_answer 1 10 46)), (46, .inr 0)]
theorem qX10_take : yX10_take.cls = RX10 ∧ yX10_take.cls ≠ "java/lang/invoke/MethodHandle" ∧ yX10_take.cls ≠ "java/lang/invoke/VarHandle" ∧ (parseMethodDescriptor yX10_take.desc).map (fun d => d.parameters.length) = some 2 := by decide +kernel
set_option maxRecDepth 10000 in
theorem hX10_take_0 (l : Launch) {p : Program} {e : Env} {s : State} {m : MethodId} {args : Array Value} {below : List Frame} {meth : Method} {c : Code} {D : va_G} {ad adV : Nat → Nat} {cA : Nat → ClassId} {K : Kt} (C0 : Cx p s m args meth c D ad adV cA cX10_take 4 RX10) (hr : meth.sig.returnType = (some .int)) : ∀ q ∈ lX10_take, Sd p l e (rmd 3) s m args below meth c (MQ below (QQ D ad cA K) args s 0 0 (AA ad)) D ad cA 4 q.1 (opOf K q.2) := List.forall_mem_cons.mpr ⟨s_aload_n C0 dX10_take_0 rfl, List.forall_mem_cons.mpr ⟨s_iload_n C0 dX10_take_1 rfl, List.forall_mem_cons.mpr ⟨s_iload_n C0 dX10_take_2 rfl, List.forall_mem_cons.mpr ⟨s_callV (ci := 10) C0 (kX10_hasOuting l) dX10_take_3 rfl qX10_hasOuting tw4_12 tw4_14 twp_21 tw1_1 tw4_15 rfl (by decide) (by decide), List.forall_mem_cons.mpr ⟨s_if_ne C0 dX10_take_6 rfl, List.forall_mem_cons.mpr ⟨s_aload_n C0 dX10_take_9 rfl, List.forall_mem_cons.mpr ⟨s_iconst C0 dX10_take_10 rfl, List.forall_mem_cons.mpr ⟨s_callV (ci := 10) C0 (kX10_refuse l) dX10_take_11 rfl qX10_refuse tw2_173 tw2_175 twp_0 tw1_1 tw2_176 rfl (by decide) (by decide), List.forall_mem_cons.mpr ⟨s_iret C0 hr dX10_take_14, List.forall_mem_cons.mpr ⟨s_aload_n C0 dX10_take_15 rfl, List.forall_mem_cons.mpr ⟨s_get (ci := 10) (k := 9) C0 dX10_take_16 inX10 rfl (by decide) tw2_127, List.forall_mem_cons.mpr ⟨s_callV (ci := 4) C0 (kX4_keep l) dX10_take_19 rfl qX4_keep tw5_40 tw5_41 tw5_42 tw1_11 tw5_43 rfl (by decide) (by decide), List.forall_mem_cons.mpr ⟨s_aload_n C0 dX10_take_22 rfl, List.forall_mem_cons.mpr ⟨s_get (ci := 10) (k := 3) C0 dX10_take_23 inX10 rfl (by decide) tw2_121, List.forall_mem_cons.mpr ⟨s_iload_n C0 dX10_take_26 rfl, List.forall_mem_cons.mpr ⟨s_iload_n C0 dX10_take_27 rfl, List.forall_mem_cons.mpr ⟨s_callV (ci := 5) C0 (kX5_throwsAt l) dX10_take_28 rfl qX5_throwsAt tw4_21 tw3_132 tw3_133 tw1_5 tw3_134 rfl (by decide) (by decide), List.forall_mem_cons.mpr ⟨s_istore_n C0 dX10_take_31 rfl (by decide), List.forall_mem_cons.mpr ⟨s_aload_n C0 dX10_take_32 rfl, List.forall_mem_cons.mpr ⟨s_get (ci := 10) (k := 3) C0 dX10_take_33 inX10 rfl (by decide) tw2_121, List.forall_mem_cons.mpr ⟨s_iload_n C0 dX10_take_36 rfl, List.forall_mem_cons.mpr ⟨s_iload_n C0 dX10_take_37 rfl, List.forall_mem_cons.mpr ⟨s_callV (ci := 5) C0 (kX5_remove l) dX10_take_38 rfl qX5_remove tw5_61 tw3_124 tw3_125 tw1_5 tw3_126 rfl (by decide) (by decide), List.forall_mem_cons.mpr ⟨s_aload_n C0 dX10_take_41 rfl, List.forall_mem_cons.mpr ⟨s_iload_n C0 dX10_take_42 rfl, List.forall_mem_cons.mpr ⟨s_callV (ci := 10) C0 (kX10_answer l) dX10_take_43 rfl qX10_answer tw3_139 tw3_141 twp_14 tw1_1 tw3_142 rfl (by decide) (by decide), List.forall_mem_cons.mpr ⟨s_iret C0 hr dX10_take_46, fun _ h => absurd h List.not_mem_nil⟩⟩⟩⟩⟩⟩⟩⟩⟩⟩⟩⟩⟩⟩⟩⟩⟩⟩⟩⟩⟩⟩⟩⟩⟩⟩⟩
def fX10_take : Mf := mf 4 (fun K => tl K lX10_take)
theorem kX10_take (l : Launch) : Okm l yX10_take cX10_take 4 (some .int) 3 fX10_take := Okm_tl (own := RX10) (by decide +kernel) rfl (fun C0 hr => hX10_take_0 l C0 hr)
theorem dX10_shift_0 : decode cX10_shift 0 = .ok (.aload_n 0, 1) := by decide +kernel
theorem dX10_shift_1 : decode cX10_shift 1 = .ok (.iload_n 1, 1) := by decide +kernel
theorem dX10_shift_2 : decode cX10_shift 2 = .ok (.iload_n 2, 1) := by decide +kernel
theorem dX10_shift_3 : decode cX10_shift 3 = .ok (.invokevirtual 205, 3) := by decide +kernel
theorem dX10_shift_6 : decode cX10_shift 6 = .ok (.ifCond .ne 9, 3) := by decide +kernel
theorem dX10_shift_9 : decode cX10_shift 9 = .ok (.aload_n 0, 1) := by decide +kernel
theorem dX10_shift_10 : decode cX10_shift 10 = .ok (.iconst 1, 1) := by decide +kernel
theorem dX10_shift_11 : decode cX10_shift 11 = .ok (.invokevirtual 108, 3) := by decide +kernel
theorem dX10_shift_14 : decode cX10_shift 14 = .ok (.ireturn, 1) := by decide +kernel
theorem dX10_shift_15 : decode cX10_shift 15 = .ok (.aload_n 0, 1) := by decide +kernel
theorem dX10_shift_16 : decode cX10_shift 16 = .ok (.getfield 35, 3) := by decide +kernel
theorem dX10_shift_19 : decode cX10_shift 19 = .ok (.iload_n 1, 1) := by decide +kernel
theorem dX10_shift_20 : decode cX10_shift 20 = .ok (.iload_n 2, 1) := by decide +kernel
theorem dX10_shift_21 : decode cX10_shift 21 = .ok (.invokevirtual 213, 3) := by decide +kernel
theorem dX10_shift_24 : decode cX10_shift 24 = .ok (.istore 4, 2) := by decide +kernel
theorem dX10_shift_26 : decode cX10_shift 26 = .ok (.aload_n 0, 1) := by decide +kernel
theorem dX10_shift_27 : decode cX10_shift 27 = .ok (.getfield 35, 3) := by decide +kernel
theorem dX10_shift_30 : decode cX10_shift 30 = .ok (.iload_n 1, 1) := by decide +kernel
theorem dX10_shift_31 : decode cX10_shift 31 = .ok (.iload_n 2, 1) := by decide +kernel
theorem dX10_shift_32 : decode cX10_shift 32 = .ok (.invokevirtual 216, 3) := by decide +kernel
theorem dX10_shift_35 : decode cX10_shift 35 = .ok (.istore 5, 2) := by decide +kernel
theorem dX10_shift_37 : decode cX10_shift 37 = .ok (.iload_n 3, 1) := by decide +kernel
theorem dX10_shift_38 : decode cX10_shift 38 = .ok (.iconst 1, 1) := by decide +kernel
theorem dX10_shift_39 : decode cX10_shift 39 = .ok (.aload_n 0, 1) := by decide +kernel
theorem dX10_shift_40 : decode cX10_shift 40 = .ok (.getfield 28, 3) := by decide +kernel
theorem dX10_shift_43 : decode cX10_shift 43 = .ok (.iload 4, 2) := by decide +kernel
theorem dX10_shift_45 : decode cX10_shift 45 = .ok (.iconst 1, 1) := by decide +kernel
theorem dX10_shift_46 : decode cX10_shift 46 = .ok (.invokevirtual 172, 3) := by decide +kernel
theorem dX10_shift_49 : decode cX10_shift 49 = .ok (.invokestatic 104, 3) := by decide +kernel
theorem dX10_shift_52 : decode cX10_shift 52 = .ok (.ifCond .ne 9, 3) := by decide +kernel
theorem dX10_shift_55 : decode cX10_shift 55 = .ok (.aload_n 0, 1) := by decide +kernel
theorem dX10_shift_56 : decode cX10_shift 56 = .ok (.iconst 2, 1) := by decide +kernel
theorem dX10_shift_57 : decode cX10_shift 57 = .ok (.invokevirtual 108, 3) := by decide +kernel
theorem dX10_shift_60 : decode cX10_shift 60 = .ok (.ireturn, 1) := by decide +kernel
theorem dX10_shift_61 : decode cX10_shift 61 = .ok (.iload_n 3, 1) := by decide +kernel
theorem dX10_shift_62 : decode cX10_shift 62 = .ok (.iload 5, 2) := by decide +kernel
theorem dX10_shift_64 : decode cX10_shift 64 = .ok (.isub, 1) := by decide +kernel
theorem dX10_shift_65 : decode cX10_shift 65 = .ok (.aload_n 0, 1) := by decide +kernel
theorem dX10_shift_66 : decode cX10_shift 66 = .ok (.getfield 44, 3) := by decide +kernel
theorem dX10_shift_69 : decode cX10_shift 69 = .ok (.iload_n 1, 1) := by decide +kernel
theorem dX10_shift_70 : decode cX10_shift 70 = .ok (.invokevirtual 196, 3) := by decide +kernel
theorem dX10_shift_73 : decode cX10_shift 73 = .ok (.if_icmp .le 9, 3) := by decide +kernel
theorem dX10_shift_76 : decode cX10_shift 76 = .ok (.aload_n 0, 1) := by decide +kernel
theorem dX10_shift_77 : decode cX10_shift 77 = .ok (.iconst 3, 1) := by decide +kernel
theorem dX10_shift_78 : decode cX10_shift 78 = .ok (.invokevirtual 108, 3) := by decide +kernel
theorem dX10_shift_81 : decode cX10_shift 81 = .ok (.ireturn, 1) := by decide +kernel
theorem dX10_shift_82 : decode cX10_shift 82 = .ok (.aload_n 0, 1) := by decide +kernel
theorem dX10_shift_83 : decode cX10_shift 83 = .ok (.getfield 53, 3) := by decide +kernel
theorem dX10_shift_86 : decode cX10_shift 86 = .ok (.iload 4, 2) := by decide +kernel
theorem dX10_shift_88 : decode cX10_shift 88 = .ok (.iload_n 1, 1) := by decide +kernel
theorem dX10_shift_89 : decode cX10_shift 89 = .ok (.iload_n 3, 1) := by decide +kernel
theorem dX10_shift_90 : decode cX10_shift 90 = .ok (.invokevirtual 329, 3) := by decide +kernel
theorem dX10_shift_93 : decode cX10_shift 93 = .ok (.ifCond .ne 9, 3) := by decide +kernel
theorem dX10_shift_96 : decode cX10_shift 96 = .ok (.aload_n 0, 1) := by decide +kernel
theorem dX10_shift_97 : decode cX10_shift 97 = .ok (.iconst 5, 1) := by decide +kernel
theorem dX10_shift_98 : decode cX10_shift 98 = .ok (.invokevirtual 108, 3) := by decide +kernel
theorem dX10_shift_101 : decode cX10_shift 101 = .ok (.ireturn, 1) := by decide +kernel
theorem dX10_shift_102 : decode cX10_shift 102 = .ok (.aload_n 0, 1) := by decide +kernel
theorem dX10_shift_103 : decode cX10_shift 103 = .ok (.getfield 83, 3) := by decide +kernel
theorem dX10_shift_106 : decode cX10_shift 106 = .ok (.invokevirtual 332, 3) := by decide +kernel
theorem dX10_shift_109 : decode cX10_shift 109 = .ok (.aload_n 0, 1) := by decide +kernel
theorem dX10_shift_110 : decode cX10_shift 110 = .ok (.getfield 35, 3) := by decide +kernel
theorem dX10_shift_113 : decode cX10_shift 113 = .ok (.iload_n 1, 1) := by decide +kernel
theorem dX10_shift_114 : decode cX10_shift 114 = .ok (.iload_n 2, 1) := by decide +kernel
theorem dX10_shift_115 : decode cX10_shift 115 = .ok (.iload 4, 2) := by decide +kernel
theorem dX10_shift_117 : decode cX10_shift 117 = .ok (.iload_n 3, 1) := by decide +kernel
theorem dX10_shift_118 : decode cX10_shift 118 = .ok (.invokevirtual 342, 3) := by decide +kernel
theorem dX10_shift_121 : decode cX10_shift 121 = .ok (.aload_n 0, 1) := by decide +kernel
theorem dX10_shift_122 : decode cX10_shift 122 = .ok (.iload 5, 2) := by decide +kernel
theorem dX10_shift_124 : decode cX10_shift 124 = .ok (.invokevirtual 138, 3) := by decide +kernel
theorem dX10_shift_127 : decode cX10_shift 127 = .ok (.ireturn, 1) := by decide +kernel
def lX10_shift_0 : List (Nat × (Op ⊕ Nat)) := [(0, .inl (o_aload 0 1)), (1, .inl (o_iload 1 2)), (2, .inl (o_iload 2 3)), (3, .inl (o_callV fX10_hasOuting 2 10 6)), (6, .inl (o_if_ne 15 9)), (9, .inl (o_aload 0 10)), (10, .inl (o_pushI (nI 1) 11)), (11, .inl (o_callV fX10_refuse 1 10 14)), (14, .inr 0), (15, .inl (o_aload 0 16)), (16, .inl (o_get 10 3 19)), (19, .inl (o_iload 1 20)), (20, .inl (o_iload 2 21)), (21, .inl (o_callV fX5_armAt 2 5 24)), (24, .inl (o_istore 4 26)), (26, .inl (o_aload 0 27)), (27, .inl (o_get 10 3 30)), (30, .inl (o_iload 1 31)), (31, .inl (o_iload 2 32)), (32, .inl (o_callV fX5_throwsAt 2 5 35)), (35, .inl (o_istore 5 37)), (37, .inl (o_iload 3 38)), (38, .inl (o_pushI (nI 1) 39)), (39, .inl (o_aload 0 40)), (40, .inl (o_get 10 2 43)), (43, .inl (o_iload 4 45)), (45, .inl (o_pushI (nI 1) 46)), (46, .inl (o_callV fX9_trait 2 9 49)), (49, .inl (o_callS fX10_within 3 52)), (52, .inl (o_if_ne 61 55)), (55, .inl (o_aload 0 56)), (56, .inl (o_pushI (nI 2) 57)), (57, .inl (o_callV fX10_refuse 1 10 60)), (60, .inr 0), (61, .inl (o_iload 3 62)), (62, .inl (o_iload 5 64)), (64, .inl (o_isub 65)), (65, .inl (o_aload 0 66)), (66, .inl (o_get 10 4 69)), (69, .inl (o_iload 1 70))]
def lX10_shift_1 : List (Nat × (Op ⊕ Nat)) := [(70, .inl (o_callV fX1_leftIn 1 1 73)), (73, .inl (o_icmp_le 82 76)), (76, .inl (o_aload 0 77)), (77, .inl (o_pushI (nI 3) 78)), (78, .inl (o_callV fX10_refuse 1 10 81)), (81, .inr 0), (82, .inl (o_aload 0 83)), (83, .inl (o_get 10 5 86)), (86, .inl (o_iload 4 88)), (88, .inl (o_iload 1 89)), (89, .inl (o_iload 3 90)), (90, .inl (o_callV fX3_allowsIn 3 3 93)), (93, .inl (o_if_ne 102 96)), (96, .inl (o_aload 0 97)), (97, .inl (o_pushI (nI 5) 98)), (98, .inl (o_callV fX10_refuse 1 10 101)), (101, .inr 0), (102, .inl (o_aload 0 103)), (103, .inl (o_get 10 9 106)), (106, .inl (o_callV fX4_keep 0 4 109)), (109, .inl (o_aload 0 110)), (110, .inl (o_get 10 3 113)), (113, .inl (o_iload 1 114)), (114, .inl (o_iload 2 115)), (115, .inl (o_iload 4 117)), (117, .inl (o_iload 3 118)), (118, .inl (o_callV fX5_change 4 5 121)), (121, .inl (o_aload 0 122)), (122, .inl (o_iload 5 124)), (124, .inl (o_callV fX10_answer 1 10 127)), (127, .inr 0)]
def lX10_shift : List (Nat × (Op ⊕ Nat)) := lX10_shift_0 ++ (lX10_shift_1)
theorem qX10_shift : yX10_shift.cls = RX10 ∧ yX10_shift.cls ≠ "java/lang/invoke/MethodHandle" ∧ yX10_shift.cls ≠ "java/lang/invoke/VarHandle" ∧ (parseMethodDescriptor yX10_shift.desc).map (fun d => d.parameters.length) = some 3 := by decide +kernel
set_option maxRecDepth 10000 in
theorem hX10_shift_0 (l : Launch) {p : Program} {e : Env} {s : State} {m : MethodId} {args : Array Value} {below : List Frame} {meth : Method} {c : Code} {D : va_G} {ad adV : Nat → Nat} {cA : Nat → ClassId} {K : Kt} (C0 : Cx p s m args meth c D ad adV cA cX10_shift 6 RX10) (hr : meth.sig.returnType = (some .int)) : ∀ q ∈ lX10_shift_0, Sd p l e (rmd 5) s m args below meth c (MQ below (QQ D ad cA K) args s 0 0 (AA ad)) D ad cA 6 q.1 (opOf K q.2) := List.forall_mem_cons.mpr ⟨s_aload_n C0 dX10_shift_0 rfl, List.forall_mem_cons.mpr ⟨s_iload_n C0 dX10_shift_1 rfl, List.forall_mem_cons.mpr ⟨s_iload_n C0 dX10_shift_2 rfl, List.forall_mem_cons.mpr ⟨s_callV (ci := 10) C0 (kX10_hasOuting l) dX10_shift_3 rfl qX10_hasOuting tw4_12 tw4_14 twp_21 tw1_1 tw4_15 rfl (by decide) (by decide), List.forall_mem_cons.mpr ⟨s_if_ne C0 dX10_shift_6 rfl, List.forall_mem_cons.mpr ⟨s_aload_n C0 dX10_shift_9 rfl, List.forall_mem_cons.mpr ⟨s_iconst C0 dX10_shift_10 rfl, List.forall_mem_cons.mpr ⟨s_callV (ci := 10) C0 (kX10_refuse l) dX10_shift_11 rfl qX10_refuse tw2_173 tw2_175 twp_0 tw1_1 tw2_176 rfl (by decide) (by decide), List.forall_mem_cons.mpr ⟨s_iret C0 hr dX10_shift_14, List.forall_mem_cons.mpr ⟨s_aload_n C0 dX10_shift_15 rfl, List.forall_mem_cons.mpr ⟨s_get (ci := 10) (k := 3) C0 dX10_shift_16 inX10 rfl (by decide) tw2_121, List.forall_mem_cons.mpr ⟨s_iload_n C0 dX10_shift_19 rfl, List.forall_mem_cons.mpr ⟨s_iload_n C0 dX10_shift_20 rfl, List.forall_mem_cons.mpr ⟨s_callV (ci := 5) C0 (kX5_armAt l) dX10_shift_21 rfl qX5_armAt tw4_20 tw3_128 tw3_129 tw1_5 tw3_130 rfl (by decide) (by decide), List.forall_mem_cons.mpr ⟨s_istore C0 dX10_shift_24 (by decide), List.forall_mem_cons.mpr ⟨s_aload_n C0 dX10_shift_26 rfl, List.forall_mem_cons.mpr ⟨s_get (ci := 10) (k := 3) C0 dX10_shift_27 inX10 rfl (by decide) tw2_121, List.forall_mem_cons.mpr ⟨s_iload_n C0 dX10_shift_30 rfl, List.forall_mem_cons.mpr ⟨s_iload_n C0 dX10_shift_31 rfl, List.forall_mem_cons.mpr ⟨s_callV (ci := 5) C0 (kX5_throwsAt l) dX10_shift_32 rfl qX5_throwsAt tw4_21 tw3_132 tw3_133 tw1_5 tw3_134 rfl (by decide) (by decide), List.forall_mem_cons.mpr ⟨s_istore C0 dX10_shift_35 (by decide), List.forall_mem_cons.mpr ⟨s_iload_n C0 dX10_shift_37 rfl, List.forall_mem_cons.mpr ⟨s_iconst C0 dX10_shift_38 rfl, List.forall_mem_cons.mpr ⟨s_aload_n C0 dX10_shift_39 rfl, List.forall_mem_cons.mpr ⟨s_get (ci := 10) (k := 2) C0 dX10_shift_40 inX10 rfl (by decide) tw2_120, List.forall_mem_cons.mpr ⟨s_iload C0 dX10_shift_43, List.forall_mem_cons.mpr ⟨s_iconst C0 dX10_shift_45 rfl, List.forall_mem_cons.mpr ⟨s_callV (ci := 9) C0 (kX9_trait l) dX10_shift_46 rfl qX9_trait tw3_179 tw3_73 tw3_74 tw1_4 tw3_75 rfl (by decide) (by decide), List.forall_mem_cons.mpr ⟨s_callS C0 (kX10_within l) dX10_shift_49 qX10_within tw2_170 tw2_171 tw1_1 tw2_172 rfl (by decide) (by decide), List.forall_mem_cons.mpr ⟨s_if_ne C0 dX10_shift_52 rfl, List.forall_mem_cons.mpr ⟨s_aload_n C0 dX10_shift_55 rfl, List.forall_mem_cons.mpr ⟨s_iconst C0 dX10_shift_56 rfl, List.forall_mem_cons.mpr ⟨s_callV (ci := 10) C0 (kX10_refuse l) dX10_shift_57 rfl qX10_refuse tw2_173 tw2_175 twp_0 tw1_1 tw2_176 rfl (by decide) (by decide), List.forall_mem_cons.mpr ⟨s_iret C0 hr dX10_shift_60, List.forall_mem_cons.mpr ⟨s_iload_n C0 dX10_shift_61 rfl, List.forall_mem_cons.mpr ⟨s_iload C0 dX10_shift_62, List.forall_mem_cons.mpr ⟨s_isub C0 dX10_shift_64, List.forall_mem_cons.mpr ⟨s_aload_n C0 dX10_shift_65 rfl, List.forall_mem_cons.mpr ⟨s_get (ci := 10) (k := 4) C0 dX10_shift_66 inX10 rfl (by decide) tw2_122, List.forall_mem_cons.mpr ⟨s_iload_n C0 dX10_shift_69 rfl, fun _ h => absurd h List.not_mem_nil⟩⟩⟩⟩⟩⟩⟩⟩⟩⟩⟩⟩⟩⟩⟩⟩⟩⟩⟩⟩⟩⟩⟩⟩⟩⟩⟩⟩⟩⟩⟩⟩⟩⟩⟩⟩⟩⟩⟩⟩
set_option maxRecDepth 10000 in
theorem hX10_shift_1 (l : Launch) {p : Program} {e : Env} {s : State} {m : MethodId} {args : Array Value} {below : List Frame} {meth : Method} {c : Code} {D : va_G} {ad adV : Nat → Nat} {cA : Nat → ClassId} {K : Kt} (C0 : Cx p s m args meth c D ad adV cA cX10_shift 6 RX10) (hr : meth.sig.returnType = (some .int)) : ∀ q ∈ lX10_shift_1, Sd p l e (rmd 5) s m args below meth c (MQ below (QQ D ad cA K) args s 0 0 (AA ad)) D ad cA 6 q.1 (opOf K q.2) := List.forall_mem_cons.mpr ⟨s_callV (ci := 1) C0 (kX1_leftIn l) dX10_shift_70 rfl qX1_leftIn tw3_226 tw3_227 tw3_228 tw1_6 tw3_229 rfl (by decide) (by decide), List.forall_mem_cons.mpr ⟨s_icmp_le C0 dX10_shift_73 rfl, List.forall_mem_cons.mpr ⟨s_aload_n C0 dX10_shift_76 rfl, List.forall_mem_cons.mpr ⟨s_iconst C0 dX10_shift_77 rfl, List.forall_mem_cons.mpr ⟨s_callV (ci := 10) C0 (kX10_refuse l) dX10_shift_78 rfl qX10_refuse tw2_173 tw2_175 twp_0 tw1_1 tw2_176 rfl (by decide) (by decide), List.forall_mem_cons.mpr ⟨s_iret C0 hr dX10_shift_81, List.forall_mem_cons.mpr ⟨s_aload_n C0 dX10_shift_82 rfl, List.forall_mem_cons.mpr ⟨s_get (ci := 10) (k := 5) C0 dX10_shift_83 inX10 rfl (by decide) tw2_123, List.forall_mem_cons.mpr ⟨s_iload C0 dX10_shift_86, List.forall_mem_cons.mpr ⟨s_iload_n C0 dX10_shift_88 rfl, List.forall_mem_cons.mpr ⟨s_iload_n C0 dX10_shift_89 rfl, List.forall_mem_cons.mpr ⟨s_callV (ci := 3) C0 (kX3_allowsIn l) dX10_shift_90 rfl qX3_allowsIn tw5_39 tw4_38 tw4_39 tw1_7 tw4_40 rfl (by decide) (by decide), List.forall_mem_cons.mpr ⟨s_if_ne C0 dX10_shift_93 rfl, List.forall_mem_cons.mpr ⟨s_aload_n C0 dX10_shift_96 rfl, List.forall_mem_cons.mpr ⟨s_iconst C0 dX10_shift_97 rfl, List.forall_mem_cons.mpr ⟨s_callV (ci := 10) C0 (kX10_refuse l) dX10_shift_98 rfl qX10_refuse tw2_173 tw2_175 twp_0 tw1_1 tw2_176 rfl (by decide) (by decide), List.forall_mem_cons.mpr ⟨s_iret C0 hr dX10_shift_101, List.forall_mem_cons.mpr ⟨s_aload_n C0 dX10_shift_102 rfl, List.forall_mem_cons.mpr ⟨s_get (ci := 10) (k := 9) C0 dX10_shift_103 inX10 rfl (by decide) tw2_127, List.forall_mem_cons.mpr ⟨s_callV (ci := 4) C0 (kX4_keep l) dX10_shift_106 rfl qX4_keep tw5_40 tw5_41 tw5_42 tw1_11 tw5_43 rfl (by decide) (by decide), List.forall_mem_cons.mpr ⟨s_aload_n C0 dX10_shift_109 rfl, List.forall_mem_cons.mpr ⟨s_get (ci := 10) (k := 3) C0 dX10_shift_110 inX10 rfl (by decide) tw2_121, List.forall_mem_cons.mpr ⟨s_iload_n C0 dX10_shift_113 rfl, List.forall_mem_cons.mpr ⟨s_iload_n C0 dX10_shift_114 rfl, List.forall_mem_cons.mpr ⟨s_iload C0 dX10_shift_115, List.forall_mem_cons.mpr ⟨s_iload_n C0 dX10_shift_117 rfl, List.forall_mem_cons.mpr ⟨s_callV (ci := 5) C0 (kX5_change l) dX10_shift_118 rfl qX5_change tw5_66 tw5_67 tw5_68 tw1_5 tw5_69 rfl (by decide) (by decide), List.forall_mem_cons.mpr ⟨s_aload_n C0 dX10_shift_121 rfl, List.forall_mem_cons.mpr ⟨s_iload C0 dX10_shift_122, List.forall_mem_cons.mpr ⟨s_callV (ci := 10) C0 (kX10_answer l) dX10_shift_124 rfl qX10_answer tw3_139 tw3_141 twp_14 tw1_1 tw3_142 rfl (by decide) (by decide), List.forall_mem_cons.mpr ⟨s_iret C0 hr dX10_shift_127, fun _ h => absurd h List.not_mem_nil⟩⟩⟩⟩⟩⟩⟩⟩⟩⟩⟩⟩⟩⟩⟩⟩⟩⟩⟩⟩⟩⟩⟩⟩⟩⟩⟩⟩⟩⟩⟩
def fX10_shift : Mf := mf 6 (fun K => tl K lX10_shift)
theorem kX10_shift (l : Launch) : Okm l yX10_shift cX10_shift 6 (some .int) 5 fX10_shift := Okm_tl (own := RX10) (by decide +kernel) rfl (fun C0 hr => List.forall_mem_append.mpr ⟨hX10_shift_0 l C0 hr, hX10_shift_1 l C0 hr⟩)
theorem dX10_mayTrade_0 : decode cX10_mayTrade 0 = .ok (.aload_n 0, 1) := by decide +kernel
theorem dX10_mayTrade_1 : decode cX10_mayTrade 1 = .ok (.getfield 35, 3) := by decide +kernel
theorem dX10_mayTrade_4 : decode cX10_mayTrade 4 = .ok (.iload_n 1, 1) := by decide +kernel
theorem dX10_mayTrade_5 : decode cX10_mayTrade 5 = .ok (.iload_n 2, 1) := by decide +kernel
theorem dX10_mayTrade_6 : decode cX10_mayTrade 6 = .ok (.invokevirtual 213, 3) := by decide +kernel
theorem dX10_mayTrade_9 : decode cX10_mayTrade 9 = .ok (.istore 5, 2) := by decide +kernel
theorem dX10_mayTrade_11 : decode cX10_mayTrade 11 = .ok (.aload_n 0, 1) := by decide +kernel
theorem dX10_mayTrade_12 : decode cX10_mayTrade 12 = .ok (.getfield 35, 3) := by decide +kernel
theorem dX10_mayTrade_15 : decode cX10_mayTrade 15 = .ok (.iload_n 3, 1) := by decide +kernel
theorem dX10_mayTrade_16 : decode cX10_mayTrade 16 = .ok (.iload 4, 2) := by decide +kernel
theorem dX10_mayTrade_18 : decode cX10_mayTrade 18 = .ok (.invokevirtual 213, 3) := by decide +kernel
theorem dX10_mayTrade_21 : decode cX10_mayTrade 21 = .ok (.istore 6, 2) := by decide +kernel
theorem dX10_mayTrade_23 : decode cX10_mayTrade 23 = .ok (.iload_n 1, 1) := by decide +kernel
theorem dX10_mayTrade_24 : decode cX10_mayTrade 24 = .ok (.iload_n 3, 1) := by decide +kernel
theorem dX10_mayTrade_25 : decode cX10_mayTrade 25 = .ok (.if_icmp .eq 29, 3) := by decide +kernel
theorem dX10_mayTrade_28 : decode cX10_mayTrade 28 = .ok (.aload_n 0, 1) := by decide +kernel
theorem dX10_mayTrade_29 : decode cX10_mayTrade 29 = .ok (.getfield 35, 3) := by decide +kernel
theorem dX10_mayTrade_32 : decode cX10_mayTrade 32 = .ok (.iload 5, 2) := by decide +kernel
theorem dX10_mayTrade_34 : decode cX10_mayTrade 34 = .ok (.iload_n 3, 1) := by decide +kernel
theorem dX10_mayTrade_35 : decode cX10_mayTrade 35 = .ok (.invokevirtual 277, 3) := by decide +kernel
theorem dX10_mayTrade_38 : decode cX10_mayTrade 38 = .ok (.ifCond .ne 16, 3) := by decide +kernel
theorem dX10_mayTrade_41 : decode cX10_mayTrade 41 = .ok (.aload_n 0, 1) := by decide +kernel
theorem dX10_mayTrade_42 : decode cX10_mayTrade 42 = .ok (.getfield 35, 3) := by decide +kernel
theorem dX10_mayTrade_45 : decode cX10_mayTrade 45 = .ok (.iload 6, 2) := by decide +kernel
theorem dX10_mayTrade_47 : decode cX10_mayTrade 47 = .ok (.iload_n 1, 1) := by decide +kernel
theorem dX10_mayTrade_48 : decode cX10_mayTrade 48 = .ok (.invokevirtual 277, 3) := by decide +kernel
theorem dX10_mayTrade_51 : decode cX10_mayTrade 51 = .ok (.ifCond .eq 5, 3) := by decide +kernel
theorem dX10_mayTrade_54 : decode cX10_mayTrade 54 = .ok (.iconst 0, 1) := by decide +kernel
theorem dX10_mayTrade_55 : decode cX10_mayTrade 55 = .ok (.ireturn, 1) := by decide +kernel
theorem dX10_mayTrade_56 : decode cX10_mayTrade 56 = .ok (.aload_n 0, 1) := by decide +kernel
theorem dX10_mayTrade_57 : decode cX10_mayTrade 57 = .ok (.getfield 53, 3) := by decide +kernel
theorem dX10_mayTrade_60 : decode cX10_mayTrade 60 = .ok (.iload 5, 2) := by decide +kernel
theorem dX10_mayTrade_62 : decode cX10_mayTrade 62 = .ok (.iload_n 1, 1) := by decide +kernel
theorem dX10_mayTrade_63 : decode cX10_mayTrade 63 = .ok (.iload_n 3, 1) := by decide +kernel
theorem dX10_mayTrade_64 : decode cX10_mayTrade 64 = .ok (.aload_n 0, 1) := by decide +kernel
theorem dX10_mayTrade_65 : decode cX10_mayTrade 65 = .ok (.getfield 35, 3) := by decide +kernel
theorem dX10_mayTrade_68 : decode cX10_mayTrade 68 = .ok (.iload_n 3, 1) := by decide +kernel
theorem dX10_mayTrade_69 : decode cX10_mayTrade 69 = .ok (.iload 4, 2) := by decide +kernel
theorem dX10_mayTrade_71 : decode cX10_mayTrade 71 = .ok (.invokevirtual 216, 3) := by decide +kernel
theorem dX10_mayTrade_74 : decode cX10_mayTrade 74 = .ok (.invokevirtual 350, 3) := by decide +kernel
theorem dX10_mayTrade_77 : decode cX10_mayTrade 77 = .ok (.ifCond .eq 30, 3) := by decide +kernel
theorem dX10_mayTrade_80 : decode cX10_mayTrade 80 = .ok (.aload_n 0, 1) := by decide +kernel
theorem dX10_mayTrade_81 : decode cX10_mayTrade 81 = .ok (.getfield 53, 3) := by decide +kernel
theorem dX10_mayTrade_84 : decode cX10_mayTrade 84 = .ok (.iload 6, 2) := by decide +kernel
theorem dX10_mayTrade_86 : decode cX10_mayTrade 86 = .ok (.iload_n 3, 1) := by decide +kernel
theorem dX10_mayTrade_87 : decode cX10_mayTrade 87 = .ok (.iload_n 1, 1) := by decide +kernel
theorem dX10_mayTrade_88 : decode cX10_mayTrade 88 = .ok (.aload_n 0, 1) := by decide +kernel
theorem dX10_mayTrade_89 : decode cX10_mayTrade 89 = .ok (.getfield 35, 3) := by decide +kernel
theorem dX10_mayTrade_92 : decode cX10_mayTrade 92 = .ok (.iload_n 1, 1) := by decide +kernel
theorem dX10_mayTrade_93 : decode cX10_mayTrade 93 = .ok (.iload_n 2, 1) := by decide +kernel
theorem dX10_mayTrade_94 : decode cX10_mayTrade 94 = .ok (.invokevirtual 216, 3) := by decide +kernel
theorem dX10_mayTrade_97 : decode cX10_mayTrade 97 = .ok (.invokevirtual 350, 3) := by decide +kernel
theorem dX10_mayTrade_100 : decode cX10_mayTrade 100 = .ok (.ifCond .eq 7, 3) := by decide +kernel
theorem dX10_mayTrade_103 : decode cX10_mayTrade 103 = .ok (.iconst 1, 1) := by decide +kernel
theorem dX10_mayTrade_104 : decode cX10_mayTrade 104 = .ok (.goto 4, 3) := by decide +kernel
theorem dX10_mayTrade_107 : decode cX10_mayTrade 107 = .ok (.iconst 0, 1) := by decide +kernel
theorem dX10_mayTrade_108 : decode cX10_mayTrade 108 = .ok (.ireturn, 1) := by decide +kernel
def lX10_mayTrade_0 : List (Nat × (Op ⊕ Nat)) := [(0, .inl (o_aload 0 1)), (1, .inl (o_get 10 3 4)), (4, .inl (o_iload 1 5)), (5, .inl (o_iload 2 6)), (6, .inl (o_callV fX5_armAt 2 5 9)), (9, .inl (o_istore 5 11)), (11, .inl (o_aload 0 12)), (12, .inl (o_get 10 3 15)), (15, .inl (o_iload 3 16)), (16, .inl (o_iload 4 18)), (18, .inl (o_callV fX5_armAt 2 5 21)), (21, .inl (o_istore 6 23)), (23, .inl (o_iload 1 24)), (24, .inl (o_iload 3 25)), (25, .inl (o_icmp_eq 54 28)), (28, .inl (o_aload 0 29)), (29, .inl (o_get 10 3 32)), (32, .inl (o_iload 5 34)), (34, .inl (o_iload 3 35)), (35, .inl (o_callV fX5_has 2 5 38)), (38, .inl (o_if_ne 54 41)), (41, .inl (o_aload 0 42)), (42, .inl (o_get 10 3 45)), (45, .inl (o_iload 6 47)), (47, .inl (o_iload 1 48)), (48, .inl (o_callV fX5_has 2 5 51)), (51, .inl (o_if_eq 56 54)), (54, .inl (o_pushI (nI 0) 55)), (55, .inr 1), (56, .inl (o_aload 0 57)), (57, .inl (o_get 10 5 60)), (60, .inl (o_iload 5 62)), (62, .inl (o_iload 1 63)), (63, .inl (o_iload 3 64)), (64, .inl (o_aload 0 65)), (65, .inl (o_get 10 3 68)), (68, .inl (o_iload 3 69)), (69, .inl (o_iload 4 71)), (71, .inl (o_callV fX5_throwsAt 2 5 74)), (74, .inl (o_callV fX3_allowsMoved 4 3 77))]
def lX10_mayTrade_1 : List (Nat × (Op ⊕ Nat)) := [(77, .inl (o_if_eq 107 80)), (80, .inl (o_aload 0 81)), (81, .inl (o_get 10 5 84)), (84, .inl (o_iload 6 86)), (86, .inl (o_iload 3 87)), (87, .inl (o_iload 1 88)), (88, .inl (o_aload 0 89)), (89, .inl (o_get 10 3 92)), (92, .inl (o_iload 1 93)), (93, .inl (o_iload 2 94)), (94, .inl (o_callV fX5_throwsAt 2 5 97)), (97, .inl (o_callV fX3_allowsMoved 4 3 100)), (100, .inl (o_if_eq 107 103)), (103, .inl (o_pushI (nI 1) 104)), (104, .inl (o_goto 108)), (107, .inl (o_pushI (nI 0) 108)), (108, .inr 1)]
def lX10_mayTrade : List (Nat × (Op ⊕ Nat)) := lX10_mayTrade_0 ++ (lX10_mayTrade_1)
theorem qX10_mayTrade : yX10_mayTrade.cls = RX10 ∧ yX10_mayTrade.cls ≠ "java/lang/invoke/MethodHandle" ∧ yX10_mayTrade.cls ≠ "java/lang/invoke/VarHandle" ∧ (parseMethodDescriptor yX10_mayTrade.desc).map (fun d => d.parameters.length) = some 4 := by decide +kernel
set_option maxRecDepth 10000 in
theorem hX10_mayTrade_0 (l : Launch) {p : Program} {e : Env} {s : State} {m : MethodId} {args : Array Value} {below : List Frame} {meth : Method} {c : Code} {D : va_G} {ad adV : Nat → Nat} {cA : Nat → ClassId} {K : Kt} (C0 : Cx p s m args meth c D ad adV cA cX10_mayTrade 7 RX10) (hr : meth.sig.returnType = (some .boolean)) : ∀ q ∈ lX10_mayTrade_0, Sd p l e (rmd 5) s m args below meth c (MQ below (QQ D ad cA K) args s 0 0 (AA ad)) D ad cA 7 q.1 (opOf K q.2) := List.forall_mem_cons.mpr ⟨s_aload_n C0 dX10_mayTrade_0 rfl, List.forall_mem_cons.mpr ⟨s_get (ci := 10) (k := 3) C0 dX10_mayTrade_1 inX10 rfl (by decide) tw2_121, List.forall_mem_cons.mpr ⟨s_iload_n C0 dX10_mayTrade_4 rfl, List.forall_mem_cons.mpr ⟨s_iload_n C0 dX10_mayTrade_5 rfl, List.forall_mem_cons.mpr ⟨s_callV (ci := 5) C0 (kX5_armAt l) dX10_mayTrade_6 rfl qX5_armAt tw4_20 tw3_128 tw3_129 tw1_5 tw3_130 rfl (by decide) (by decide), List.forall_mem_cons.mpr ⟨s_istore C0 dX10_mayTrade_9 (by decide), List.forall_mem_cons.mpr ⟨s_aload_n C0 dX10_mayTrade_11 rfl, List.forall_mem_cons.mpr ⟨s_get (ci := 10) (k := 3) C0 dX10_mayTrade_12 inX10 rfl (by decide) tw2_121, List.forall_mem_cons.mpr ⟨s_iload_n C0 dX10_mayTrade_15 rfl, List.forall_mem_cons.mpr ⟨s_iload C0 dX10_mayTrade_16, List.forall_mem_cons.mpr ⟨s_callV (ci := 5) C0 (kX5_armAt l) dX10_mayTrade_18 rfl qX5_armAt tw4_20 tw3_128 tw3_129 tw1_5 tw3_130 rfl (by decide) (by decide), List.forall_mem_cons.mpr ⟨s_istore C0 dX10_mayTrade_21 (by decide), List.forall_mem_cons.mpr ⟨s_iload_n C0 dX10_mayTrade_23 rfl, List.forall_mem_cons.mpr ⟨s_iload_n C0 dX10_mayTrade_24 rfl, List.forall_mem_cons.mpr ⟨s_icmp_eq C0 dX10_mayTrade_25 rfl, List.forall_mem_cons.mpr ⟨s_aload_n C0 dX10_mayTrade_28 rfl, List.forall_mem_cons.mpr ⟨s_get (ci := 10) (k := 3) C0 dX10_mayTrade_29 inX10 rfl (by decide) tw2_121, List.forall_mem_cons.mpr ⟨s_iload C0 dX10_mayTrade_32, List.forall_mem_cons.mpr ⟨s_iload_n C0 dX10_mayTrade_34 rfl, List.forall_mem_cons.mpr ⟨s_callV (ci := 5) C0 (kX5_has l) dX10_mayTrade_35 rfl qX5_has tw4_215 tw3_193 tw3_194 tw1_5 tw3_195 rfl (by decide) (by decide), List.forall_mem_cons.mpr ⟨s_if_ne C0 dX10_mayTrade_38 rfl, List.forall_mem_cons.mpr ⟨s_aload_n C0 dX10_mayTrade_41 rfl, List.forall_mem_cons.mpr ⟨s_get (ci := 10) (k := 3) C0 dX10_mayTrade_42 inX10 rfl (by decide) tw2_121, List.forall_mem_cons.mpr ⟨s_iload C0 dX10_mayTrade_45, List.forall_mem_cons.mpr ⟨s_iload_n C0 dX10_mayTrade_47 rfl, List.forall_mem_cons.mpr ⟨s_callV (ci := 5) C0 (kX5_has l) dX10_mayTrade_48 rfl qX5_has tw4_215 tw3_193 tw3_194 tw1_5 tw3_195 rfl (by decide) (by decide), List.forall_mem_cons.mpr ⟨s_if_eq C0 dX10_mayTrade_51 rfl, List.forall_mem_cons.mpr ⟨s_iconst C0 dX10_mayTrade_54 rfl, List.forall_mem_cons.mpr ⟨s_zret C0 hr dX10_mayTrade_55, List.forall_mem_cons.mpr ⟨s_aload_n C0 dX10_mayTrade_56 rfl, List.forall_mem_cons.mpr ⟨s_get (ci := 10) (k := 5) C0 dX10_mayTrade_57 inX10 rfl (by decide) tw2_123, List.forall_mem_cons.mpr ⟨s_iload C0 dX10_mayTrade_60, List.forall_mem_cons.mpr ⟨s_iload_n C0 dX10_mayTrade_62 rfl, List.forall_mem_cons.mpr ⟨s_iload_n C0 dX10_mayTrade_63 rfl, List.forall_mem_cons.mpr ⟨s_aload_n C0 dX10_mayTrade_64 rfl, List.forall_mem_cons.mpr ⟨s_get (ci := 10) (k := 3) C0 dX10_mayTrade_65 inX10 rfl (by decide) tw2_121, List.forall_mem_cons.mpr ⟨s_iload_n C0 dX10_mayTrade_68 rfl, List.forall_mem_cons.mpr ⟨s_iload C0 dX10_mayTrade_69, List.forall_mem_cons.mpr ⟨s_callV (ci := 5) C0 (kX5_throwsAt l) dX10_mayTrade_71 rfl qX5_throwsAt tw4_21 tw3_132 tw3_133 tw1_5 tw3_134 rfl (by decide) (by decide), List.forall_mem_cons.mpr ⟨s_callV (ci := 3) C0 (kX3_allowsMoved l) dX10_mayTrade_74 rfl qX3_allowsMoved tw5_78 tw5_79 tw5_80 tw1_7 tw5_81 rfl (by decide) (by decide), fun _ h => absurd h List.not_mem_nil⟩⟩⟩⟩⟩⟩⟩⟩⟩⟩⟩⟩⟩⟩⟩⟩⟩⟩⟩⟩⟩⟩⟩⟩⟩⟩⟩⟩⟩⟩⟩⟩⟩⟩⟩⟩⟩⟩⟩⟩
set_option maxRecDepth 10000 in
theorem hX10_mayTrade_1 (l : Launch) {p : Program} {e : Env} {s : State} {m : MethodId} {args : Array Value} {below : List Frame} {meth : Method} {c : Code} {D : va_G} {ad adV : Nat → Nat} {cA : Nat → ClassId} {K : Kt} (C0 : Cx p s m args meth c D ad adV cA cX10_mayTrade 7 RX10) (hr : meth.sig.returnType = (some .boolean)) : ∀ q ∈ lX10_mayTrade_1, Sd p l e (rmd 5) s m args below meth c (MQ below (QQ D ad cA K) args s 0 0 (AA ad)) D ad cA 7 q.1 (opOf K q.2) := List.forall_mem_cons.mpr ⟨s_if_eq C0 dX10_mayTrade_77 rfl, List.forall_mem_cons.mpr ⟨s_aload_n C0 dX10_mayTrade_80 rfl, List.forall_mem_cons.mpr ⟨s_get (ci := 10) (k := 5) C0 dX10_mayTrade_81 inX10 rfl (by decide) tw2_123, List.forall_mem_cons.mpr ⟨s_iload C0 dX10_mayTrade_84, List.forall_mem_cons.mpr ⟨s_iload_n C0 dX10_mayTrade_86 rfl, List.forall_mem_cons.mpr ⟨s_iload_n C0 dX10_mayTrade_87 rfl, List.forall_mem_cons.mpr ⟨s_aload_n C0 dX10_mayTrade_88 rfl, List.forall_mem_cons.mpr ⟨s_get (ci := 10) (k := 3) C0 dX10_mayTrade_89 inX10 rfl (by decide) tw2_121, List.forall_mem_cons.mpr ⟨s_iload_n C0 dX10_mayTrade_92 rfl, List.forall_mem_cons.mpr ⟨s_iload_n C0 dX10_mayTrade_93 rfl, List.forall_mem_cons.mpr ⟨s_callV (ci := 5) C0 (kX5_throwsAt l) dX10_mayTrade_94 rfl qX5_throwsAt tw4_21 tw3_132 tw3_133 tw1_5 tw3_134 rfl (by decide) (by decide), List.forall_mem_cons.mpr ⟨s_callV (ci := 3) C0 (kX3_allowsMoved l) dX10_mayTrade_97 rfl qX3_allowsMoved tw5_78 tw5_79 tw5_80 tw1_7 tw5_81 rfl (by decide) (by decide), List.forall_mem_cons.mpr ⟨s_if_eq C0 dX10_mayTrade_100 rfl, List.forall_mem_cons.mpr ⟨s_iconst C0 dX10_mayTrade_103 rfl, List.forall_mem_cons.mpr ⟨s_goto C0 dX10_mayTrade_104 rfl, List.forall_mem_cons.mpr ⟨s_iconst C0 dX10_mayTrade_107 rfl, List.forall_mem_cons.mpr ⟨s_zret C0 hr dX10_mayTrade_108, fun _ h => absurd h List.not_mem_nil⟩⟩⟩⟩⟩⟩⟩⟩⟩⟩⟩⟩⟩⟩⟩⟩⟩
def fX10_mayTrade : Mf := mf 7 (fun K => tl K lX10_mayTrade)
theorem kX10_mayTrade (l : Launch) : Okm l yX10_mayTrade cX10_mayTrade 7 (some .boolean) 5 fX10_mayTrade := Okm_tl (own := RX10) (by decide +kernel) rfl (fun C0 hr => List.forall_mem_append.mpr ⟨hX10_mayTrade_0 l C0 hr, hX10_mayTrade_1 l C0 hr⟩)
theorem dX10_swap_0 : decode cX10_swap 0 = .ok (.aload_n 0, 1) := by decide +kernel
theorem dX10_swap_1 : decode cX10_swap 1 = .ok (.iload_n 1, 1) := by decide +kernel
theorem dX10_swap_2 : decode cX10_swap 2 = .ok (.iload_n 2, 1) := by decide +kernel
theorem dX10_swap_3 : decode cX10_swap 3 = .ok (.invokevirtual 205, 3) := by decide +kernel
theorem dX10_swap_6 : decode cX10_swap 6 = .ok (.ifCond .eq 13, 3) := by decide +kernel
theorem dX10_swap_9 : decode cX10_swap 9 = .ok (.aload_n 0, 1) := by decide +kernel
theorem dX10_swap_10 : decode cX10_swap 10 = .ok (.iload_n 3, 1) := by decide +kernel
theorem dX10_swap_11 : decode cX10_swap 11 = .ok (.iload 4, 2) := by decide +kernel
theorem dX10_swap_13 : decode cX10_swap 13 = .ok (.invokevirtual 205, 3) := by decide +kernel
theorem dX10_swap_16 : decode cX10_swap 16 = .ok (.ifCond .ne 11, 3) := by decide +kernel
theorem dX10_swap_19 : decode cX10_swap 19 = .ok (.aload_n 0, 1) := by decide +kernel
theorem dX10_swap_20 : decode cX10_swap 20 = .ok (.iconst 1, 1) := by decide +kernel
theorem dX10_swap_21 : decode cX10_swap 21 = .ok (.invokevirtual 108, 3) := by decide +kernel
theorem dX10_swap_24 : decode cX10_swap 24 = .ok (.pop, 1) := by decide +kernel
theorem dX10_swap_25 : decode cX10_swap 25 = .ok (.iconst 0, 1) := by decide +kernel
theorem dX10_swap_26 : decode cX10_swap 26 = .ok (.ireturn, 1) := by decide +kernel
theorem dX10_swap_27 : decode cX10_swap 27 = .ok (.aload_n 0, 1) := by decide +kernel
theorem dX10_swap_28 : decode cX10_swap 28 = .ok (.iload_n 1, 1) := by decide +kernel
theorem dX10_swap_29 : decode cX10_swap 29 = .ok (.iload_n 2, 1) := by decide +kernel
theorem dX10_swap_30 : decode cX10_swap 30 = .ok (.iload_n 3, 1) := by decide +kernel
theorem dX10_swap_31 : decode cX10_swap 31 = .ok (.iload 4, 2) := by decide +kernel
theorem dX10_swap_33 : decode cX10_swap 33 = .ok (.invokevirtual 346, 3) := by decide +kernel
theorem dX10_swap_36 : decode cX10_swap 36 = .ok (.ifCond .ne 11, 3) := by decide +kernel
theorem dX10_swap_39 : decode cX10_swap 39 = .ok (.aload_n 0, 1) := by decide +kernel
theorem dX10_swap_40 : decode cX10_swap 40 = .ok (.iconst 5, 1) := by decide +kernel
theorem dX10_swap_41 : decode cX10_swap 41 = .ok (.invokevirtual 108, 3) := by decide +kernel
theorem dX10_swap_44 : decode cX10_swap 44 = .ok (.pop, 1) := by decide +kernel
theorem dX10_swap_45 : decode cX10_swap 45 = .ok (.iconst 0, 1) := by decide +kernel
theorem dX10_swap_46 : decode cX10_swap 46 = .ok (.ireturn, 1) := by decide +kernel
theorem dX10_swap_47 : decode cX10_swap 47 = .ok (.aload_n 0, 1) := by decide +kernel
theorem dX10_swap_48 : decode cX10_swap 48 = .ok (.getfield 83, 3) := by decide +kernel
theorem dX10_swap_51 : decode cX10_swap 51 = .ok (.invokevirtual 332, 3) := by decide +kernel
theorem dX10_swap_54 : decode cX10_swap 54 = .ok (.aload_n 0, 1) := by decide +kernel
theorem dX10_swap_55 : decode cX10_swap 55 = .ok (.getfield 35, 3) := by decide +kernel
theorem dX10_swap_58 : decode cX10_swap 58 = .ok (.iload_n 1, 1) := by decide +kernel
theorem dX10_swap_59 : decode cX10_swap 59 = .ok (.iload_n 2, 1) := by decide +kernel
theorem dX10_swap_60 : decode cX10_swap 60 = .ok (.invokevirtual 213, 3) := by decide +kernel
theorem dX10_swap_63 : decode cX10_swap 63 = .ok (.istore 5, 2) := by decide +kernel
theorem dX10_swap_65 : decode cX10_swap 65 = .ok (.aload_n 0, 1) := by decide +kernel
theorem dX10_swap_66 : decode cX10_swap 66 = .ok (.getfield 35, 3) := by decide +kernel
theorem dX10_swap_69 : decode cX10_swap 69 = .ok (.iload_n 3, 1) := by decide +kernel
theorem dX10_swap_70 : decode cX10_swap 70 = .ok (.iload 4, 2) := by decide +kernel
theorem dX10_swap_72 : decode cX10_swap 72 = .ok (.invokevirtual 213, 3) := by decide +kernel
theorem dX10_swap_75 : decode cX10_swap 75 = .ok (.istore 6, 2) := by decide +kernel
theorem dX10_swap_77 : decode cX10_swap 77 = .ok (.aload_n 0, 1) := by decide +kernel
theorem dX10_swap_78 : decode cX10_swap 78 = .ok (.getfield 35, 3) := by decide +kernel
theorem dX10_swap_81 : decode cX10_swap 81 = .ok (.iload_n 1, 1) := by decide +kernel
theorem dX10_swap_82 : decode cX10_swap 82 = .ok (.iload_n 2, 1) := by decide +kernel
theorem dX10_swap_83 : decode cX10_swap 83 = .ok (.iload 6, 2) := by decide +kernel
theorem dX10_swap_85 : decode cX10_swap 85 = .ok (.aload_n 0, 1) := by decide +kernel
theorem dX10_swap_86 : decode cX10_swap 86 = .ok (.getfield 35, 3) := by decide +kernel
theorem dX10_swap_89 : decode cX10_swap 89 = .ok (.iload_n 1, 1) := by decide +kernel
theorem dX10_swap_90 : decode cX10_swap 90 = .ok (.iload_n 2, 1) := by decide +kernel
theorem dX10_swap_91 : decode cX10_swap 91 = .ok (.invokevirtual 216, 3) := by decide +kernel
theorem dX10_swap_94 : decode cX10_swap 94 = .ok (.invokevirtual 342, 3) := by decide +kernel
theorem dX10_swap_97 : decode cX10_swap 97 = .ok (.aload_n 0, 1) := by decide +kernel
theorem dX10_swap_98 : decode cX10_swap 98 = .ok (.getfield 35, 3) := by decide +kernel
theorem dX10_swap_101 : decode cX10_swap 101 = .ok (.iload_n 3, 1) := by decide +kernel
theorem dX10_swap_102 : decode cX10_swap 102 = .ok (.iload 4, 2) := by decide +kernel
theorem dX10_swap_104 : decode cX10_swap 104 = .ok (.iload 5, 2) := by decide +kernel
theorem dX10_swap_106 : decode cX10_swap 106 = .ok (.aload_n 0, 1) := by decide +kernel
theorem dX10_swap_107 : decode cX10_swap 107 = .ok (.getfield 35, 3) := by decide +kernel
theorem dX10_swap_110 : decode cX10_swap 110 = .ok (.iload_n 3, 1) := by decide +kernel
theorem dX10_swap_111 : decode cX10_swap 111 = .ok (.iload 4, 2) := by decide +kernel
theorem dX10_swap_113 : decode cX10_swap 113 = .ok (.invokevirtual 216, 3) := by decide +kernel
theorem dX10_swap_116 : decode cX10_swap 116 = .ok (.invokevirtual 342, 3) := by decide +kernel
theorem dX10_swap_119 : decode cX10_swap 119 = .ok (.aload_n 0, 1) := by decide +kernel
theorem dX10_swap_120 : decode cX10_swap 120 = .ok (.iconst 0, 1) := by decide +kernel
theorem dX10_swap_121 : decode cX10_swap 121 = .ok (.invokevirtual 138, 3) := by decide +kernel
theorem dX10_swap_124 : decode cX10_swap 124 = .ok (.pop, 1) := by decide +kernel
theorem dX10_swap_125 : decode cX10_swap 125 = .ok (.iconst 1, 1) := by decide +kernel
theorem dX10_swap_126 : decode cX10_swap 126 = .ok (.ireturn, 1) := by decide +kernel
def lX10_swap_0 : List (Nat × (Op ⊕ Nat)) := [(0, .inl (o_aload 0 1)), (1, .inl (o_iload 1 2)), (2, .inl (o_iload 2 3)), (3, .inl (o_callV fX10_hasOuting 2 10 6)), (6, .inl (o_if_eq 19 9)), (9, .inl (o_aload 0 10)), (10, .inl (o_iload 3 11)), (11, .inl (o_iload 4 13)), (13, .inl (o_callV fX10_hasOuting 2 10 16)), (16, .inl (o_if_ne 27 19)), (19, .inl (o_aload 0 20)), (20, .inl (o_pushI (nI 1) 21)), (21, .inl (o_callV fX10_refuse 1 10 24)), (24, .inl (o_pop 25)), (25, .inl (o_pushI (nI 0) 26)), (26, .inr 1), (27, .inl (o_aload 0 28)), (28, .inl (o_iload 1 29)), (29, .inl (o_iload 2 30)), (30, .inl (o_iload 3 31)), (31, .inl (o_iload 4 33)), (33, .inl (o_callV fX10_mayTrade 4 10 36)), (36, .inl (o_if_ne 47 39)), (39, .inl (o_aload 0 40)), (40, .inl (o_pushI (nI 5) 41)), (41, .inl (o_callV fX10_refuse 1 10 44)), (44, .inl (o_pop 45)), (45, .inl (o_pushI (nI 0) 46)), (46, .inr 1), (47, .inl (o_aload 0 48)), (48, .inl (o_get 10 9 51)), (51, .inl (o_callV fX4_keep 0 4 54)), (54, .inl (o_aload 0 55)), (55, .inl (o_get 10 3 58)), (58, .inl (o_iload 1 59)), (59, .inl (o_iload 2 60)), (60, .inl (o_callV fX5_armAt 2 5 63)), (63, .inl (o_istore 5 65)), (65, .inl (o_aload 0 66)), (66, .inl (o_get 10 3 69))]
def lX10_swap_1 : List (Nat × (Op ⊕ Nat)) := [(69, .inl (o_iload 3 70)), (70, .inl (o_iload 4 72)), (72, .inl (o_callV fX5_armAt 2 5 75)), (75, .inl (o_istore 6 77)), (77, .inl (o_aload 0 78)), (78, .inl (o_get 10 3 81)), (81, .inl (o_iload 1 82)), (82, .inl (o_iload 2 83)), (83, .inl (o_iload 6 85)), (85, .inl (o_aload 0 86)), (86, .inl (o_get 10 3 89)), (89, .inl (o_iload 1 90)), (90, .inl (o_iload 2 91)), (91, .inl (o_callV fX5_throwsAt 2 5 94)), (94, .inl (o_callV fX5_change 4 5 97)), (97, .inl (o_aload 0 98)), (98, .inl (o_get 10 3 101)), (101, .inl (o_iload 3 102)), (102, .inl (o_iload 4 104)), (104, .inl (o_iload 5 106)), (106, .inl (o_aload 0 107)), (107, .inl (o_get 10 3 110)), (110, .inl (o_iload 3 111)), (111, .inl (o_iload 4 113)), (113, .inl (o_callV fX5_throwsAt 2 5 116)), (116, .inl (o_callV fX5_change 4 5 119)), (119, .inl (o_aload 0 120)), (120, .inl (o_pushI (nI 0) 121)), (121, .inl (o_callV fX10_answer 1 10 124)), (124, .inl (o_pop 125)), (125, .inl (o_pushI (nI 1) 126)), (126, .inr 1)]
def lX10_swap : List (Nat × (Op ⊕ Nat)) := lX10_swap_0 ++ (lX10_swap_1)
theorem qX10_swap : yX10_swap.cls = RX10 ∧ yX10_swap.cls ≠ "java/lang/invoke/MethodHandle" ∧ yX10_swap.cls ≠ "java/lang/invoke/VarHandle" ∧ (parseMethodDescriptor yX10_swap.desc).map (fun d => d.parameters.length) = some 4 := by decide +kernel
set_option maxRecDepth 10000 in
theorem hX10_swap_0 (l : Launch) {p : Program} {e : Env} {s : State} {m : MethodId} {args : Array Value} {below : List Frame} {meth : Method} {c : Code} {D : va_G} {ad adV : Nat → Nat} {cA : Nat → ClassId} {K : Kt} (C0 : Cx p s m args meth c D ad adV cA cX10_swap 7 RX10) (hr : meth.sig.returnType = (some .boolean)) : ∀ q ∈ lX10_swap_0, Sd p l e (rmd 6) s m args below meth c (MQ below (QQ D ad cA K) args s 0 0 (AA ad)) D ad cA 7 q.1 (opOf K q.2) := List.forall_mem_cons.mpr ⟨s_aload_n C0 dX10_swap_0 rfl, List.forall_mem_cons.mpr ⟨s_iload_n C0 dX10_swap_1 rfl, List.forall_mem_cons.mpr ⟨s_iload_n C0 dX10_swap_2 rfl, List.forall_mem_cons.mpr ⟨s_callV (ci := 10) C0 (kX10_hasOuting l) dX10_swap_3 rfl qX10_hasOuting tw4_12 tw4_14 twp_21 tw1_1 tw4_15 rfl (by decide) (by decide), List.forall_mem_cons.mpr ⟨s_if_eq C0 dX10_swap_6 rfl, List.forall_mem_cons.mpr ⟨s_aload_n C0 dX10_swap_9 rfl, List.forall_mem_cons.mpr ⟨s_iload_n C0 dX10_swap_10 rfl, List.forall_mem_cons.mpr ⟨s_iload C0 dX10_swap_11, List.forall_mem_cons.mpr ⟨s_callV (ci := 10) C0 (kX10_hasOuting l) dX10_swap_13 rfl qX10_hasOuting tw4_12 tw4_14 twp_21 tw1_1 tw4_15 rfl (by decide) (by decide), List.forall_mem_cons.mpr ⟨s_if_ne C0 dX10_swap_16 rfl, List.forall_mem_cons.mpr ⟨s_aload_n C0 dX10_swap_19 rfl, List.forall_mem_cons.mpr ⟨s_iconst C0 dX10_swap_20 rfl, List.forall_mem_cons.mpr ⟨s_callV (ci := 10) C0 (kX10_refuse l) dX10_swap_21 rfl qX10_refuse tw2_173 tw2_175 twp_0 tw1_1 tw2_176 rfl (by decide) (by decide), List.forall_mem_cons.mpr ⟨s_pop C0 dX10_swap_24, List.forall_mem_cons.mpr ⟨s_iconst C0 dX10_swap_25 rfl, List.forall_mem_cons.mpr ⟨s_zret C0 hr dX10_swap_26, List.forall_mem_cons.mpr ⟨s_aload_n C0 dX10_swap_27 rfl, List.forall_mem_cons.mpr ⟨s_iload_n C0 dX10_swap_28 rfl, List.forall_mem_cons.mpr ⟨s_iload_n C0 dX10_swap_29 rfl, List.forall_mem_cons.mpr ⟨s_iload_n C0 dX10_swap_30 rfl, List.forall_mem_cons.mpr ⟨s_iload C0 dX10_swap_31, List.forall_mem_cons.mpr ⟨s_callV (ci := 10) C0 (kX10_mayTrade l) dX10_swap_33 rfl qX10_mayTrade tw5_74 tw5_76 twp_36 tw1_1 tw5_77 rfl (by decide) (by decide), List.forall_mem_cons.mpr ⟨s_if_ne C0 dX10_swap_36 rfl, List.forall_mem_cons.mpr ⟨s_aload_n C0 dX10_swap_39 rfl, List.forall_mem_cons.mpr ⟨s_iconst C0 dX10_swap_40 rfl, List.forall_mem_cons.mpr ⟨s_callV (ci := 10) C0 (kX10_refuse l) dX10_swap_41 rfl qX10_refuse tw2_173 tw2_175 twp_0 tw1_1 tw2_176 rfl (by decide) (by decide), List.forall_mem_cons.mpr ⟨s_pop C0 dX10_swap_44, List.forall_mem_cons.mpr ⟨s_iconst C0 dX10_swap_45 rfl, List.forall_mem_cons.mpr ⟨s_zret C0 hr dX10_swap_46, List.forall_mem_cons.mpr ⟨s_aload_n C0 dX10_swap_47 rfl, List.forall_mem_cons.mpr ⟨s_get (ci := 10) (k := 9) C0 dX10_swap_48 inX10 rfl (by decide) tw2_127, List.forall_mem_cons.mpr ⟨s_callV (ci := 4) C0 (kX4_keep l) dX10_swap_51 rfl qX4_keep tw5_40 tw5_41 tw5_42 tw1_11 tw5_43 rfl (by decide) (by decide), List.forall_mem_cons.mpr ⟨s_aload_n C0 dX10_swap_54 rfl, List.forall_mem_cons.mpr ⟨s_get (ci := 10) (k := 3) C0 dX10_swap_55 inX10 rfl (by decide) tw2_121, List.forall_mem_cons.mpr ⟨s_iload_n C0 dX10_swap_58 rfl, List.forall_mem_cons.mpr ⟨s_iload_n C0 dX10_swap_59 rfl, List.forall_mem_cons.mpr ⟨s_callV (ci := 5) C0 (kX5_armAt l) dX10_swap_60 rfl qX5_armAt tw4_20 tw3_128 tw3_129 tw1_5 tw3_130 rfl (by decide) (by decide), List.forall_mem_cons.mpr ⟨s_istore C0 dX10_swap_63 (by decide), List.forall_mem_cons.mpr ⟨s_aload_n C0 dX10_swap_65 rfl, List.forall_mem_cons.mpr ⟨s_get (ci := 10) (k := 3) C0 dX10_swap_66 inX10 rfl (by decide) tw2_121, fun _ h => absurd h List.not_mem_nil⟩⟩⟩⟩⟩⟩⟩⟩⟩⟩⟩⟩⟩⟩⟩⟩⟩⟩⟩⟩⟩⟩⟩⟩⟩⟩⟩⟩⟩⟩⟩⟩⟩⟩⟩⟩⟩⟩⟩⟩
set_option maxRecDepth 10000 in
theorem hX10_swap_1 (l : Launch) {p : Program} {e : Env} {s : State} {m : MethodId} {args : Array Value} {below : List Frame} {meth : Method} {c : Code} {D : va_G} {ad adV : Nat → Nat} {cA : Nat → ClassId} {K : Kt} (C0 : Cx p s m args meth c D ad adV cA cX10_swap 7 RX10) (hr : meth.sig.returnType = (some .boolean)) : ∀ q ∈ lX10_swap_1, Sd p l e (rmd 6) s m args below meth c (MQ below (QQ D ad cA K) args s 0 0 (AA ad)) D ad cA 7 q.1 (opOf K q.2) := List.forall_mem_cons.mpr ⟨s_iload_n C0 dX10_swap_69 rfl, List.forall_mem_cons.mpr ⟨s_iload C0 dX10_swap_70, List.forall_mem_cons.mpr ⟨s_callV (ci := 5) C0 (kX5_armAt l) dX10_swap_72 rfl qX5_armAt tw4_20 tw3_128 tw3_129 tw1_5 tw3_130 rfl (by decide) (by decide), List.forall_mem_cons.mpr ⟨s_istore C0 dX10_swap_75 (by decide), List.forall_mem_cons.mpr ⟨s_aload_n C0 dX10_swap_77 rfl, List.forall_mem_cons.mpr ⟨s_get (ci := 10) (k := 3) C0 dX10_swap_78 inX10 rfl (by decide) tw2_121, List.forall_mem_cons.mpr ⟨s_iload_n C0 dX10_swap_81 rfl, List.forall_mem_cons.mpr ⟨s_iload_n C0 dX10_swap_82 rfl, List.forall_mem_cons.mpr ⟨s_iload C0 dX10_swap_83, List.forall_mem_cons.mpr ⟨s_aload_n C0 dX10_swap_85 rfl, List.forall_mem_cons.mpr ⟨s_get (ci := 10) (k := 3) C0 dX10_swap_86 inX10 rfl (by decide) tw2_121, List.forall_mem_cons.mpr ⟨s_iload_n C0 dX10_swap_89 rfl, List.forall_mem_cons.mpr ⟨s_iload_n C0 dX10_swap_90 rfl, List.forall_mem_cons.mpr ⟨s_callV (ci := 5) C0 (kX5_throwsAt l) dX10_swap_91 rfl qX5_throwsAt tw4_21 tw3_132 tw3_133 tw1_5 tw3_134 rfl (by decide) (by decide), List.forall_mem_cons.mpr ⟨s_callV (ci := 5) C0 (kX5_change l) dX10_swap_94 rfl qX5_change tw5_66 tw5_67 tw5_68 tw1_5 tw5_69 rfl (by decide) (by decide), List.forall_mem_cons.mpr ⟨s_aload_n C0 dX10_swap_97 rfl, List.forall_mem_cons.mpr ⟨s_get (ci := 10) (k := 3) C0 dX10_swap_98 inX10 rfl (by decide) tw2_121, List.forall_mem_cons.mpr ⟨s_iload_n C0 dX10_swap_101 rfl, List.forall_mem_cons.mpr ⟨s_iload C0 dX10_swap_102, List.forall_mem_cons.mpr ⟨s_iload C0 dX10_swap_104, List.forall_mem_cons.mpr ⟨s_aload_n C0 dX10_swap_106 rfl, List.forall_mem_cons.mpr ⟨s_get (ci := 10) (k := 3) C0 dX10_swap_107 inX10 rfl (by decide) tw2_121, List.forall_mem_cons.mpr ⟨s_iload_n C0 dX10_swap_110 rfl, List.forall_mem_cons.mpr ⟨s_iload C0 dX10_swap_111, List.forall_mem_cons.mpr ⟨s_callV (ci := 5) C0 (kX5_throwsAt l) dX10_swap_113 rfl qX5_throwsAt tw4_21 tw3_132 tw3_133 tw1_5 tw3_134 rfl (by decide) (by decide), List.forall_mem_cons.mpr ⟨s_callV (ci := 5) C0 (kX5_change l) dX10_swap_116 rfl qX5_change tw5_66 tw5_67 tw5_68 tw1_5 tw5_69 rfl (by decide) (by decide), List.forall_mem_cons.mpr ⟨s_aload_n C0 dX10_swap_119 rfl, List.forall_mem_cons.mpr ⟨s_iconst C0 dX10_swap_120 rfl, List.forall_mem_cons.mpr ⟨s_callV (ci := 10) C0 (kX10_answer l) dX10_swap_121 rfl qX10_answer tw3_139 tw3_141 twp_14 tw1_1 tw3_142 rfl (by decide) (by decide), List.forall_mem_cons.mpr ⟨s_pop C0 dX10_swap_124, List.forall_mem_cons.mpr ⟨s_iconst C0 dX10_swap_125 rfl, List.forall_mem_cons.mpr ⟨s_zret C0 hr dX10_swap_126, fun _ h => absurd h List.not_mem_nil⟩⟩⟩⟩⟩⟩⟩⟩⟩⟩⟩⟩⟩⟩⟩⟩⟩⟩⟩⟩⟩⟩⟩⟩⟩⟩⟩⟩⟩⟩⟩⟩
def fX10_swap : Mf := mf 7 (fun K => tl K lX10_swap)
theorem kX10_swap (l : Launch) : Okm l yX10_swap cX10_swap 7 (some .boolean) 6 fX10_swap := Okm_tl (own := RX10) (by decide +kernel) rfl (fun C0 hr => List.forall_mem_append.mpr ⟨hX10_swap_0 l C0 hr, hX10_swap_1 l C0 hr⟩)
theorem dX10_better_0 : decode cX10_better 0 = .ok (.aload_n 0, 1) := by decide +kernel
theorem dX10_better_1 : decode cX10_better 1 = .ok (.invokevirtual 141, 3) := by decide +kernel
theorem dX10_better_4 : decode cX10_better 4 = .ok (.ifCond .ne 9, 3) := by decide +kernel
theorem dX10_better_7 : decode cX10_better 7 = .ok (.aload_n 0, 1) := by decide +kernel
theorem dX10_better_8 : decode cX10_better 8 = .ok (.iconst 1, 1) := by decide +kernel
theorem dX10_better_9 : decode cX10_better 9 = .ok (.invokevirtual 108, 3) := by decide +kernel
theorem dX10_better_12 : decode cX10_better 12 = .ok (.ireturn, 1) := by decide +kernel
theorem dX10_better_13 : decode cX10_better 13 = .ok (.aload_n 0, 1) := by decide +kernel
theorem dX10_better_14 : decode cX10_better 14 = .ok (.getfield 83, 3) := by decide +kernel
theorem dX10_better_17 : decode cX10_better 17 = .ok (.invokevirtual 332, 3) := by decide +kernel
theorem dX10_better_20 : decode cX10_better 20 = .ok (.iconst 0, 1) := by decide +kernel
theorem dX10_better_21 : decode cX10_better 21 = .ok (.istore_n 1, 1) := by decide +kernel
theorem dX10_better_22 : decode cX10_better 22 = .ok (.iload_n 1, 1) := by decide +kernel
theorem dX10_better_23 : decode cX10_better 23 = .ok (.bipush 99, 2) := by decide +kernel
theorem dX10_better_25 : decode cX10_better 25 = .ok (.if_icmp .ge 19, 3) := by decide +kernel
theorem dX10_better_28 : decode cX10_better 28 = .ok (.aload_n 0, 1) := by decide +kernel
theorem dX10_better_29 : decode cX10_better 29 = .ok (.getfield 69, 3) := by decide +kernel
theorem dX10_better_32 : decode cX10_better 32 = .ok (.invokevirtual 353, 3) := by decide +kernel
theorem dX10_better_35 : decode cX10_better 35 = .ok (.ifCond .eq 9, 3) := by decide +kernel
theorem dX10_better_38 : decode cX10_better 38 = .ok (.iinc 1 1, 3) := by decide +kernel
theorem dX10_better_41 : decode cX10_better 41 = .ok (.goto (-19), 3) := by decide +kernel
theorem dX10_better_44 : decode cX10_better 44 = .ok (.aload_n 0, 1) := by decide +kernel
theorem dX10_better_45 : decode cX10_better 45 = .ok (.iload_n 1, 1) := by decide +kernel
theorem dX10_better_46 : decode cX10_better 46 = .ok (.invokevirtual 138, 3) := by decide +kernel
theorem dX10_better_49 : decode cX10_better 49 = .ok (.ireturn, 1) := by decide +kernel
def lX10_better : List (Nat × (Op ⊕ Nat)) := [(0, .inl (o_aload 0 1)), (1, .inl (o_callV fX10_hasText 0 10 4)), (4, .inl (o_if_ne 13 7)), (7, .inl (o_aload 0 8)), (8, .inl (o_pushI (nI 1) 9)), (9, .inl (o_callV fX10_refuse 1 10 12)), (12, .inr 0), (13, .inl (o_aload 0 14)), (14, .inl (o_get 10 9 17)), (17, .inl (o_callV fX4_keep 0 4 20)), (20, .inl (o_pushI (nI 0) 21)), (21, .inl (o_istore 1 22)), (22, .inl (o_iload 1 23)), (23, .inl (o_pushI (nI 99) 25)), (25, .inl (o_icmp_ge 44 28)), (28, .inl (o_aload 0 29)), (29, .inl (o_get 10 7 32)), (32, .inl (o_callV fX2_changeBest 0 2 35)), (35, .inl (o_if_eq 44 38)), (38, .inl (o_iinc 1 (nI 1) 41)), (41, .inl (o_goto 22)), (44, .inl (o_aload 0 45)), (45, .inl (o_iload 1 46)), (46, .inl (o_callV fX10_answer 1 10 49)), (49, .inr 0)]
theorem qX10_better : yX10_better.cls = RX10 ∧ yX10_better.cls ≠ "java/lang/invoke/MethodHandle" ∧ yX10_better.cls ≠ "java/lang/invoke/VarHandle" ∧ (parseMethodDescriptor yX10_better.desc).map (fun d => d.parameters.length) = some 0 := by decide +kernel
set_option maxRecDepth 10000 in
theorem hX10_better_0 (l : Launch) {p : Program} {e : Env} {s : State} {m : MethodId} {args : Array Value} {below : List Frame} {meth : Method} {c : Code} {D : va_G} {ad adV : Nat → Nat} {cA : Nat → ClassId} {K : Kt} (C0 : Cx p s m args meth c D ad adV cA cX10_better 2 RX10) (hr : meth.sig.returnType = (some .int)) : ∀ q ∈ lX10_better, Sd p l e (rmd 7) s m args below meth c (MQ below (QQ D ad cA K) args s 0 0 (AA ad)) D ad cA 2 q.1 (opOf K q.2) := List.forall_mem_cons.mpr ⟨s_aload_n C0 dX10_better_0 rfl, List.forall_mem_cons.mpr ⟨s_callV (ci := 10) C0 (kX10_hasText l) dX10_better_1 rfl qX10_hasText tw3_155 tw3_157 twp_15 tw1_1 tw3_158 rfl (by decide) (by decide), List.forall_mem_cons.mpr ⟨s_if_ne C0 dX10_better_4 rfl, List.forall_mem_cons.mpr ⟨s_aload_n C0 dX10_better_7 rfl, List.forall_mem_cons.mpr ⟨s_iconst C0 dX10_better_8 rfl, List.forall_mem_cons.mpr ⟨s_callV (ci := 10) C0 (kX10_refuse l) dX10_better_9 rfl qX10_refuse tw2_173 tw2_175 twp_0 tw1_1 tw2_176 rfl (by decide) (by decide), List.forall_mem_cons.mpr ⟨s_iret C0 hr dX10_better_12, List.forall_mem_cons.mpr ⟨s_aload_n C0 dX10_better_13 rfl, List.forall_mem_cons.mpr ⟨s_get (ci := 10) (k := 9) C0 dX10_better_14 inX10 rfl (by decide) tw2_127, List.forall_mem_cons.mpr ⟨s_callV (ci := 4) C0 (kX4_keep l) dX10_better_17 rfl qX4_keep tw5_40 tw5_41 tw5_42 tw1_11 tw5_43 rfl (by decide) (by decide), List.forall_mem_cons.mpr ⟨s_iconst C0 dX10_better_20 rfl, List.forall_mem_cons.mpr ⟨s_istore_n C0 dX10_better_21 rfl (by decide), List.forall_mem_cons.mpr ⟨s_iload_n C0 dX10_better_22 rfl, List.forall_mem_cons.mpr ⟨s_bipush C0 dX10_better_23 (by decide +kernel), List.forall_mem_cons.mpr ⟨s_icmp_ge C0 dX10_better_25 rfl, List.forall_mem_cons.mpr ⟨s_aload_n C0 dX10_better_28 rfl, List.forall_mem_cons.mpr ⟨s_get (ci := 10) (k := 7) C0 dX10_better_29 inX10 rfl (by decide) tw2_125, List.forall_mem_cons.mpr ⟨s_callV (ci := 2) C0 (kX2_changeBest l) dX10_better_32 rfl qX2_changeBest tw5_87 tw5_88 tw5_89 tw1_9 tw5_90 rfl (by decide) (by decide), List.forall_mem_cons.mpr ⟨s_if_eq C0 dX10_better_35 rfl, List.forall_mem_cons.mpr ⟨s_iinc C0 dX10_better_38 rfl (by decide), List.forall_mem_cons.mpr ⟨s_goto C0 dX10_better_41 rfl, List.forall_mem_cons.mpr ⟨s_aload_n C0 dX10_better_44 rfl, List.forall_mem_cons.mpr ⟨s_iload_n C0 dX10_better_45 rfl, List.forall_mem_cons.mpr ⟨s_callV (ci := 10) C0 (kX10_answer l) dX10_better_46 rfl qX10_answer tw3_139 tw3_141 twp_14 tw1_1 tw3_142 rfl (by decide) (by decide), List.forall_mem_cons.mpr ⟨s_iret C0 hr dX10_better_49, fun _ h => absurd h List.not_mem_nil⟩⟩⟩⟩⟩⟩⟩⟩⟩⟩⟩⟩⟩⟩⟩⟩⟩⟩⟩⟩⟩⟩⟩⟩⟩
def fX10_better : Mf := mf 2 (fun K => tl K lX10_better)
theorem kX10_better (l : Launch) : Okm l yX10_better cX10_better 2 (some .int) 7 fX10_better := Okm_tl (own := RX10) (by decide +kernel) rfl (fun C0 hr => hX10_better_0 l C0 hr)
theorem dX10_fill_0 : decode cX10_fill 0 = .ok (.aload_n 0, 1) := by decide +kernel
theorem dX10_fill_1 : decode cX10_fill 1 = .ok (.iload_n 1, 1) := by decide +kernel
theorem dX10_fill_2 : decode cX10_fill 2 = .ok (.invokevirtual 184, 3) := by decide +kernel
theorem dX10_fill_5 : decode cX10_fill 5 = .ok (.ifCond .ne 9, 3) := by decide +kernel
theorem dX10_fill_8 : decode cX10_fill 8 = .ok (.aload_n 0, 1) := by decide +kernel
theorem dX10_fill_9 : decode cX10_fill 9 = .ok (.iconst 1, 1) := by decide +kernel
theorem dX10_fill_10 : decode cX10_fill 10 = .ok (.invokevirtual 108, 3) := by decide +kernel
theorem dX10_fill_13 : decode cX10_fill 13 = .ok (.ireturn, 1) := by decide +kernel
theorem dX10_fill_14 : decode cX10_fill 14 = .ok (.aload_n 0, 1) := by decide +kernel
theorem dX10_fill_15 : decode cX10_fill 15 = .ok (.getfield 83, 3) := by decide +kernel
theorem dX10_fill_18 : decode cX10_fill 18 = .ok (.invokevirtual 332, 3) := by decide +kernel
theorem dX10_fill_21 : decode cX10_fill 21 = .ok (.aload_n 0, 1) := by decide +kernel
theorem dX10_fill_22 : decode cX10_fill 22 = .ok (.aload_n 0, 1) := by decide +kernel
theorem dX10_fill_23 : decode cX10_fill 23 = .ok (.getfield 69, 3) := by decide +kernel
theorem dX10_fill_26 : decode cX10_fill 26 = .ok (.iload_n 1, 1) := by decide +kernel
theorem dX10_fill_27 : decode cX10_fill 27 = .ok (.invokevirtual 356, 3) := by decide +kernel
theorem dX10_fill_30 : decode cX10_fill 30 = .ok (.invokevirtual 138, 3) := by decide +kernel
theorem dX10_fill_33 : decode cX10_fill 33 = .ok (.ireturn, 1) := by decide +kernel
def lX10_fill : List (Nat × (Op ⊕ Nat)) := [(0, .inl (o_aload 0 1)), (1, .inl (o_iload 1 2)), (2, .inl (o_callV fX10_hasGame 1 10 5)), (5, .inl (o_if_ne 14 8)), (8, .inl (o_aload 0 9)), (9, .inl (o_pushI (nI 1) 10)), (10, .inl (o_callV fX10_refuse 1 10 13)), (13, .inr 0), (14, .inl (o_aload 0 15)), (15, .inl (o_get 10 9 18)), (18, .inl (o_callV fX4_keep 0 4 21)), (21, .inl (o_aload 0 22)), (22, .inl (o_aload 0 23)), (23, .inl (o_get 10 7 26)), (26, .inl (o_iload 1 27)), (27, .inl (o_callV fX2_fillGame 1 2 30)), (30, .inl (o_callV fX10_answer 1 10 33)), (33, .inr 0)]
theorem qX10_fill : yX10_fill.cls = RX10 ∧ yX10_fill.cls ≠ "java/lang/invoke/MethodHandle" ∧ yX10_fill.cls ≠ "java/lang/invoke/VarHandle" ∧ (parseMethodDescriptor yX10_fill.desc).map (fun d => d.parameters.length) = some 1 := by decide +kernel
set_option maxRecDepth 10000 in
theorem hX10_fill_0 (l : Launch) {p : Program} {e : Env} {s : State} {m : MethodId} {args : Array Value} {below : List Frame} {meth : Method} {c : Code} {D : va_G} {ad adV : Nat → Nat} {cA : Nat → ClassId} {K : Kt} (C0 : Cx p s m args meth c D ad adV cA cX10_fill 2 RX10) (hr : meth.sig.returnType = (some .int)) : ∀ q ∈ lX10_fill, Sd p l e (rmd 6) s m args below meth c (MQ below (QQ D ad cA K) args s 0 0 (AA ad)) D ad cA 2 q.1 (opOf K q.2) := List.forall_mem_cons.mpr ⟨s_aload_n C0 dX10_fill_0 rfl, List.forall_mem_cons.mpr ⟨s_iload_n C0 dX10_fill_1 rfl, List.forall_mem_cons.mpr ⟨s_callV (ci := 10) C0 (kX10_hasGame l) dX10_fill_2 rfl qX10_hasGame tw3_217 tw3_219 twp_19 tw1_1 tw3_220 rfl (by decide) (by decide), List.forall_mem_cons.mpr ⟨s_if_ne C0 dX10_fill_5 rfl, List.forall_mem_cons.mpr ⟨s_aload_n C0 dX10_fill_8 rfl, List.forall_mem_cons.mpr ⟨s_iconst C0 dX10_fill_9 rfl, List.forall_mem_cons.mpr ⟨s_callV (ci := 10) C0 (kX10_refuse l) dX10_fill_10 rfl qX10_refuse tw2_173 tw2_175 twp_0 tw1_1 tw2_176 rfl (by decide) (by decide), List.forall_mem_cons.mpr ⟨s_iret C0 hr dX10_fill_13, List.forall_mem_cons.mpr ⟨s_aload_n C0 dX10_fill_14 rfl, List.forall_mem_cons.mpr ⟨s_get (ci := 10) (k := 9) C0 dX10_fill_15 inX10 rfl (by decide) tw2_127, List.forall_mem_cons.mpr ⟨s_callV (ci := 4) C0 (kX4_keep l) dX10_fill_18 rfl qX4_keep tw5_40 tw5_41 tw5_42 tw1_11 tw5_43 rfl (by decide) (by decide), List.forall_mem_cons.mpr ⟨s_aload_n C0 dX10_fill_21 rfl, List.forall_mem_cons.mpr ⟨s_aload_n C0 dX10_fill_22 rfl, List.forall_mem_cons.mpr ⟨s_get (ci := 10) (k := 7) C0 dX10_fill_23 inX10 rfl (by decide) tw2_125, List.forall_mem_cons.mpr ⟨s_iload_n C0 dX10_fill_26 rfl, List.forall_mem_cons.mpr ⟨s_callV (ci := 2) C0 (kX2_fillGame l) dX10_fill_27 rfl qX2_fillGame tw5_103 tw5_104 tw5_105 tw1_9 tw5_106 rfl (by decide) (by decide), List.forall_mem_cons.mpr ⟨s_callV (ci := 10) C0 (kX10_answer l) dX10_fill_30 rfl qX10_answer tw3_139 tw3_141 twp_14 tw1_1 tw3_142 rfl (by decide) (by decide), List.forall_mem_cons.mpr ⟨s_iret C0 hr dX10_fill_33, fun _ h => absurd h List.not_mem_nil⟩⟩⟩⟩⟩⟩⟩⟩⟩⟩⟩⟩⟩⟩⟩⟩⟩⟩
def fX10_fill : Mf := mf 2 (fun K => tl K lX10_fill)
theorem kX10_fill (l : Launch) : Okm l yX10_fill cX10_fill 2 (some .int) 6 fX10_fill := Okm_tl (own := RX10) (by decide +kernel) rfl (fun C0 hr => hX10_fill_0 l C0 hr)
theorem dX10_fillAll_0 : decode cX10_fillAll 0 = .ok (.aload_n 0, 1) := by decide +kernel
theorem dX10_fillAll_1 : decode cX10_fillAll 1 = .ok (.invokevirtual 141, 3) := by decide +kernel
theorem dX10_fillAll_4 : decode cX10_fillAll 4 = .ok (.ifCond .ne 9, 3) := by decide +kernel
theorem dX10_fillAll_7 : decode cX10_fillAll 7 = .ok (.aload_n 0, 1) := by decide +kernel
theorem dX10_fillAll_8 : decode cX10_fillAll 8 = .ok (.iconst 1, 1) := by decide +kernel
theorem dX10_fillAll_9 : decode cX10_fillAll 9 = .ok (.invokevirtual 108, 3) := by decide +kernel
theorem dX10_fillAll_12 : decode cX10_fillAll 12 = .ok (.ireturn, 1) := by decide +kernel
theorem dX10_fillAll_13 : decode cX10_fillAll 13 = .ok (.aload_n 0, 1) := by decide +kernel
theorem dX10_fillAll_14 : decode cX10_fillAll 14 = .ok (.getfield 83, 3) := by decide +kernel
theorem dX10_fillAll_17 : decode cX10_fillAll 17 = .ok (.invokevirtual 332, 3) := by decide +kernel
theorem dX10_fillAll_20 : decode cX10_fillAll 20 = .ok (.iconst 0, 1) := by decide +kernel
theorem dX10_fillAll_21 : decode cX10_fillAll 21 = .ok (.istore_n 1, 1) := by decide +kernel
theorem dX10_fillAll_22 : decode cX10_fillAll 22 = .ok (.iconst 0, 1) := by decide +kernel
theorem dX10_fillAll_23 : decode cX10_fillAll 23 = .ok (.istore_n 2, 1) := by decide +kernel
theorem dX10_fillAll_24 : decode cX10_fillAll 24 = .ok (.iload_n 2, 1) := by decide +kernel
theorem dX10_fillAll_25 : decode cX10_fillAll 25 = .ok (.aload_n 0, 1) := by decide +kernel
theorem dX10_fillAll_26 : decode cX10_fillAll 26 = .ok (.getfield 28, 3) := by decide +kernel
theorem dX10_fillAll_29 : decode cX10_fillAll 29 = .ok (.getfield 135, 3) := by decide +kernel
theorem dX10_fillAll_32 : decode cX10_fillAll 32 = .ok (.if_icmp .ge 20, 3) := by decide +kernel
theorem dX10_fillAll_35 : decode cX10_fillAll 35 = .ok (.iload_n 1, 1) := by decide +kernel
theorem dX10_fillAll_36 : decode cX10_fillAll 36 = .ok (.aload_n 0, 1) := by decide +kernel
theorem dX10_fillAll_37 : decode cX10_fillAll 37 = .ok (.getfield 69, 3) := by decide +kernel
theorem dX10_fillAll_40 : decode cX10_fillAll 40 = .ok (.iload_n 2, 1) := by decide +kernel
theorem dX10_fillAll_41 : decode cX10_fillAll 41 = .ok (.invokevirtual 356, 3) := by decide +kernel
theorem dX10_fillAll_44 : decode cX10_fillAll 44 = .ok (.iadd, 1) := by decide +kernel
theorem dX10_fillAll_45 : decode cX10_fillAll 45 = .ok (.istore_n 1, 1) := by decide +kernel
theorem dX10_fillAll_46 : decode cX10_fillAll 46 = .ok (.iinc 2 1, 3) := by decide +kernel
theorem dX10_fillAll_49 : decode cX10_fillAll 49 = .ok (.goto (-25), 3) := by decide +kernel
theorem dX10_fillAll_52 : decode cX10_fillAll 52 = .ok (.aload_n 0, 1) := by decide +kernel
theorem dX10_fillAll_53 : decode cX10_fillAll 53 = .ok (.iload_n 1, 1) := by decide +kernel
theorem dX10_fillAll_54 : decode cX10_fillAll 54 = .ok (.invokevirtual 138, 3) := by decide +kernel
theorem dX10_fillAll_57 : decode cX10_fillAll 57 = .ok (.ireturn, 1) := by decide +kernel
def lX10_fillAll : List (Nat × (Op ⊕ Nat)) := [(0, .inl (o_aload 0 1)), (1, .inl (o_callV fX10_hasText 0 10 4)), (4, .inl (o_if_ne 13 7)), (7, .inl (o_aload 0 8)), (8, .inl (o_pushI (nI 1) 9)), (9, .inl (o_callV fX10_refuse 1 10 12)), (12, .inr 0), (13, .inl (o_aload 0 14)), (14, .inl (o_get 10 9 17)), (17, .inl (o_callV fX4_keep 0 4 20)), (20, .inl (o_pushI (nI 0) 21)), (21, .inl (o_istore 1 22)), (22, .inl (o_pushI (nI 0) 23)), (23, .inl (o_istore 2 24)), (24, .inl (o_iload 2 25)), (25, .inl (o_aload 0 26)), (26, .inl (o_get 10 2 29)), (29, .inl (o_get 9 4 32)), (32, .inl (o_icmp_ge 52 35)), (35, .inl (o_iload 1 36)), (36, .inl (o_aload 0 37)), (37, .inl (o_get 10 7 40)), (40, .inl (o_iload 2 41)), (41, .inl (o_callV fX2_fillGame 1 2 44)), (44, .inl (o_iadd 45)), (45, .inl (o_istore 1 46)), (46, .inl (o_iinc 2 (nI 1) 49)), (49, .inl (o_goto 24)), (52, .inl (o_aload 0 53)), (53, .inl (o_iload 1 54)), (54, .inl (o_callV fX10_answer 1 10 57)), (57, .inr 0)]
theorem qX10_fillAll : yX10_fillAll.cls = RX10 ∧ yX10_fillAll.cls ≠ "java/lang/invoke/MethodHandle" ∧ yX10_fillAll.cls ≠ "java/lang/invoke/VarHandle" ∧ (parseMethodDescriptor yX10_fillAll.desc).map (fun d => d.parameters.length) = some 0 := by decide +kernel
set_option maxRecDepth 10000 in
theorem hX10_fillAll_0 (l : Launch) {p : Program} {e : Env} {s : State} {m : MethodId} {args : Array Value} {below : List Frame} {meth : Method} {c : Code} {D : va_G} {ad adV : Nat → Nat} {cA : Nat → ClassId} {K : Kt} (C0 : Cx p s m args meth c D ad adV cA cX10_fillAll 3 RX10) (hr : meth.sig.returnType = (some .int)) : ∀ q ∈ lX10_fillAll, Sd p l e (rmd 6) s m args below meth c (MQ below (QQ D ad cA K) args s 0 0 (AA ad)) D ad cA 3 q.1 (opOf K q.2) := List.forall_mem_cons.mpr ⟨s_aload_n C0 dX10_fillAll_0 rfl, List.forall_mem_cons.mpr ⟨s_callV (ci := 10) C0 (kX10_hasText l) dX10_fillAll_1 rfl qX10_hasText tw3_155 tw3_157 twp_15 tw1_1 tw3_158 rfl (by decide) (by decide), List.forall_mem_cons.mpr ⟨s_if_ne C0 dX10_fillAll_4 rfl, List.forall_mem_cons.mpr ⟨s_aload_n C0 dX10_fillAll_7 rfl, List.forall_mem_cons.mpr ⟨s_iconst C0 dX10_fillAll_8 rfl, List.forall_mem_cons.mpr ⟨s_callV (ci := 10) C0 (kX10_refuse l) dX10_fillAll_9 rfl qX10_refuse tw2_173 tw2_175 twp_0 tw1_1 tw2_176 rfl (by decide) (by decide), List.forall_mem_cons.mpr ⟨s_iret C0 hr dX10_fillAll_12, List.forall_mem_cons.mpr ⟨s_aload_n C0 dX10_fillAll_13 rfl, List.forall_mem_cons.mpr ⟨s_get (ci := 10) (k := 9) C0 dX10_fillAll_14 inX10 rfl (by decide) tw2_127, List.forall_mem_cons.mpr ⟨s_callV (ci := 4) C0 (kX4_keep l) dX10_fillAll_17 rfl qX4_keep tw5_40 tw5_41 tw5_42 tw1_11 tw5_43 rfl (by decide) (by decide), List.forall_mem_cons.mpr ⟨s_iconst C0 dX10_fillAll_20 rfl, List.forall_mem_cons.mpr ⟨s_istore_n C0 dX10_fillAll_21 rfl (by decide), List.forall_mem_cons.mpr ⟨s_iconst C0 dX10_fillAll_22 rfl, List.forall_mem_cons.mpr ⟨s_istore_n C0 dX10_fillAll_23 rfl (by decide), List.forall_mem_cons.mpr ⟨s_iload_n C0 dX10_fillAll_24 rfl, List.forall_mem_cons.mpr ⟨s_aload_n C0 dX10_fillAll_25 rfl, List.forall_mem_cons.mpr ⟨s_get (ci := 10) (k := 2) C0 dX10_fillAll_26 inX10 rfl (by decide) tw2_120, List.forall_mem_cons.mpr ⟨s_get (ci := 9) (k := 4) C0 dX10_fillAll_29 inX9 rfl (by decide) tw1_95, List.forall_mem_cons.mpr ⟨s_icmp_ge C0 dX10_fillAll_32 rfl, List.forall_mem_cons.mpr ⟨s_iload_n C0 dX10_fillAll_35 rfl, List.forall_mem_cons.mpr ⟨s_aload_n C0 dX10_fillAll_36 rfl, List.forall_mem_cons.mpr ⟨s_get (ci := 10) (k := 7) C0 dX10_fillAll_37 inX10 rfl (by decide) tw2_125, List.forall_mem_cons.mpr ⟨s_iload_n C0 dX10_fillAll_40 rfl, List.forall_mem_cons.mpr ⟨s_callV (ci := 2) C0 (kX2_fillGame l) dX10_fillAll_41 rfl qX2_fillGame tw5_103 tw5_104 tw5_105 tw1_9 tw5_106 rfl (by decide) (by decide), List.forall_mem_cons.mpr ⟨s_iadd C0 dX10_fillAll_44, List.forall_mem_cons.mpr ⟨s_istore_n C0 dX10_fillAll_45 rfl (by decide), List.forall_mem_cons.mpr ⟨s_iinc C0 dX10_fillAll_46 rfl (by decide), List.forall_mem_cons.mpr ⟨s_goto C0 dX10_fillAll_49 rfl, List.forall_mem_cons.mpr ⟨s_aload_n C0 dX10_fillAll_52 rfl, List.forall_mem_cons.mpr ⟨s_iload_n C0 dX10_fillAll_53 rfl, List.forall_mem_cons.mpr ⟨s_callV (ci := 10) C0 (kX10_answer l) dX10_fillAll_54 rfl qX10_answer tw3_139 tw3_141 twp_14 tw1_1 tw3_142 rfl (by decide) (by decide), List.forall_mem_cons.mpr ⟨s_iret C0 hr dX10_fillAll_57, fun _ h => absurd h List.not_mem_nil⟩⟩⟩⟩⟩⟩⟩⟩⟩⟩⟩⟩⟩⟩⟩⟩⟩⟩⟩⟩⟩⟩⟩⟩⟩⟩⟩⟩⟩⟩⟩⟩
def fX10_fillAll : Mf := mf 3 (fun K => tl K lX10_fillAll)
theorem kX10_fillAll (l : Launch) : Okm l yX10_fillAll cX10_fillAll 3 (some .int) 6 fX10_fillAll := Okm_tl (own := RX10) (by decide +kernel) rfl (fun C0 hr => hX10_fillAll_0 l C0 hr)
