theorem dX11_readOnce_0 : decode cX11_readOnce 0 = .ok (.aload_n 0, 1) := by decide +kernel
theorem dX11_readOnce_1 : decode cX11_readOnce 1 = .ok (.getfield 137, 3) := by decide +kernel
theorem dX11_readOnce_4 : decode cX11_readOnce 4 = .ok (.iload_n 1, 1) := by decide +kernel
theorem dX11_readOnce_5 : decode cX11_readOnce 5 = .ok (.ishr, 1) := by decide +kernel
theorem dX11_readOnce_6 : decode cX11_readOnce 6 = .ok (.iconst 1, 1) := by decide +kernel
theorem dX11_readOnce_7 : decode cX11_readOnce 7 = .ok (.iand, 1) := by decide +kernel
theorem dX11_readOnce_8 : decode cX11_readOnce 8 = .ok (.iconst 1, 1) := by decide +kernel
theorem dX11_readOnce_9 : decode cX11_readOnce 9 = .ok (.if_icmp .ne 9, 3) := by decide +kernel
theorem dX11_readOnce_12 : decode cX11_readOnce 12 = .ok (.aload_n 0, 1) := by decide +kernel
theorem dX11_readOnce_13 : decode cX11_readOnce 13 = .ok (.iconst 3, 1) := by decide +kernel
theorem dX11_readOnce_14 : decode cX11_readOnce 14 = .ok (.invokevirtual 119, 3) := by decide +kernel
theorem dX11_readOnce_17 : decode cX11_readOnce 17 = .ok (.ireturn, 1) := by decide +kernel
theorem dX11_readOnce_18 : decode cX11_readOnce 18 = .ok (.aload_n 0, 1) := by decide +kernel
theorem dX11_readOnce_19 : decode cX11_readOnce 19 = .ok (.dup, 1) := by decide +kernel
theorem dX11_readOnce_20 : decode cX11_readOnce 20 = .ok (.getfield 137, 3) := by decide +kernel
theorem dX11_readOnce_23 : decode cX11_readOnce 23 = .ok (.iconst 1, 1) := by decide +kernel
theorem dX11_readOnce_24 : decode cX11_readOnce 24 = .ok (.iload_n 1, 1) := by decide +kernel
theorem dX11_readOnce_25 : decode cX11_readOnce 25 = .ok (.ishl, 1) := by decide +kernel
theorem dX11_readOnce_26 : decode cX11_readOnce 26 = .ok (.ior, 1) := by decide +kernel
theorem dX11_readOnce_27 : decode cX11_readOnce 27 = .ok (.putfield 137, 3) := by decide +kernel
theorem dX11_readOnce_30 : decode cX11_readOnce 30 = .ok (.aload_n 0, 1) := by decide +kernel
theorem dX11_readOnce_31 : decode cX11_readOnce 31 = .ok (.invokevirtual 123, 3) := by decide +kernel
theorem dX11_readOnce_34 : decode cX11_readOnce 34 = .ok (.aload_n 0, 1) := by decide +kernel
theorem dX11_readOnce_35 : decode cX11_readOnce 35 = .ok (.iload_n 1, 1) := by decide +kernel
theorem dX11_readOnce_36 : decode cX11_readOnce 36 = .ok (.iload_n 2, 1) := by decide +kernel
theorem dX11_readOnce_37 : decode cX11_readOnce 37 = .ok (.iload_n 3, 1) := by decide +kernel
theorem dX11_readOnce_38 : decode cX11_readOnce 38 = .ok (.invokevirtual 134, 3) := by decide +kernel
theorem dX11_readOnce_41 : decode cX11_readOnce 41 = .ok (.ireturn, 1) := by decide +kernel
def lX11_readOnce : List (Nat × (Op ⊕ Nat)) := [(0, .inl (o_aload 0 1)), (1, .inl (o_get 11 16 4)), (4, .inl (o_iload 1 5)), (5, .inl (o_ishr 6)), (6, .inl (o_pushI (nI 1) 7)), (7, .inl (o_iand 8)), (8, .inl (o_pushI (nI 1) 9)), (9, .inl (o_icmp_ne 18 12)), (12, .inl (o_aload 0 13)), (13, .inl (o_pushI (nI 3) 14)), (14, .inl (o_callV fX11_errs 1 11 17)), (17, .inr 1), (18, .inl (o_aload 0 19)), (19, .inl (o_dup 20)), (20, .inl (o_get 11 16 23)), (23, .inl (o_pushI (nI 1) 24)), (24, .inl (o_iload 1 25)), (25, .inl (o_ishl 26)), (26, .inl (o_ior 27)), (27, .inl (o_putI 11 16 30)), (30, .inl (o_aload 0 31)), (31, .inl (o_callV fX11_goesOn 0 11 34)), (34, .inl (o_aload 0 35)), (35, .inl (o_iload 1 36)), (36, .inl (o_iload 2 37)), (37, .inl (o_iload 3 38)), (38, .inl (o_callV fX11_takes 3 11 41)), (41, .inr 1)]
theorem qX11_readOnce : yX11_readOnce.cls = RX11 ∧ yX11_readOnce.cls ≠ "java/lang/invoke/MethodHandle" ∧ yX11_readOnce.cls ≠ "java/lang/invoke/VarHandle" ∧ (parseMethodDescriptor yX11_readOnce.desc).map (fun d => d.parameters.length) = some 3 := by decide +kernel
set_option maxRecDepth 10000 in
theorem hX11_readOnce_0 (l : Launch) {p : Program} {e : Env} {s : State} {m : MethodId} {args : Array Value} {below : List Frame} {meth : Method} {c : Code} {D : va_G} {ad adV : Nat → Nat} {cA : Nat → ClassId} {K : Kt} (C0 : Cx p s m args meth c D ad adV cA cX11_readOnce 4 RX11) (hr : meth.sig.returnType = (some .boolean)) : ∀ q ∈ lX11_readOnce, Sd p l e (rmd 3) s m args below meth c (MQ below (QQ D ad cA K) args s 0 0 (AA ad)) D ad cA 4 q.1 (opOf K q.2) := List.forall_mem_cons.mpr ⟨s_aload_n C0 dX11_readOnce_0 rfl, List.forall_mem_cons.mpr ⟨s_get (ci := 11) (k := 16) C0 dX11_readOnce_1 inX11 rfl (by decide) tw6_27, List.forall_mem_cons.mpr ⟨s_iload_n C0 dX11_readOnce_4 rfl, List.forall_mem_cons.mpr ⟨s_ishr C0 dX11_readOnce_5, List.forall_mem_cons.mpr ⟨s_iconst C0 dX11_readOnce_6 rfl, List.forall_mem_cons.mpr ⟨s_iand C0 dX11_readOnce_7, List.forall_mem_cons.mpr ⟨s_iconst C0 dX11_readOnce_8 rfl, List.forall_mem_cons.mpr ⟨s_icmp_ne C0 dX11_readOnce_9 rfl, List.forall_mem_cons.mpr ⟨s_aload_n C0 dX11_readOnce_12 rfl, List.forall_mem_cons.mpr ⟨s_iconst C0 dX11_readOnce_13 rfl, List.forall_mem_cons.mpr ⟨s_callV (ci := 11) C0 (kX11_errs l) dX11_readOnce_14 rfl qX11_errs tw6_149 tw6_151 twp_48 tw1_12 tw6_152 rfl (by decide) (by decide), List.forall_mem_cons.mpr ⟨s_zret C0 hr dX11_readOnce_17, List.forall_mem_cons.mpr ⟨s_aload_n C0 dX11_readOnce_18 rfl, List.forall_mem_cons.mpr ⟨s_dup C0 dX11_readOnce_19, List.forall_mem_cons.mpr ⟨s_get (ci := 11) (k := 16) C0 dX11_readOnce_20 inX11 rfl (by decide) tw6_27, List.forall_mem_cons.mpr ⟨s_iconst C0 dX11_readOnce_23 rfl, List.forall_mem_cons.mpr ⟨s_iload_n C0 dX11_readOnce_24 rfl, List.forall_mem_cons.mpr ⟨s_ishl C0 dX11_readOnce_25, List.forall_mem_cons.mpr ⟨s_ior C0 dX11_readOnce_26, List.forall_mem_cons.mpr ⟨s_putI (ci := 11) (k := 16) C0 dX11_readOnce_27 inX11 tyX11_ok nmX11 rfl (by decide) rfl rfl tw6_27, List.forall_mem_cons.mpr ⟨s_aload_n C0 dX11_readOnce_30 rfl, List.forall_mem_cons.mpr ⟨s_callV (ci := 11) C0 (kX11_goesOn l) dX11_readOnce_31 rfl qX11_goesOn tw6_126 tw6_128 twp_43 tw1_12 tw6_129 rfl (by decide) (by decide), List.forall_mem_cons.mpr ⟨s_aload_n C0 dX11_readOnce_34 rfl, List.forall_mem_cons.mpr ⟨s_iload_n C0 dX11_readOnce_35 rfl, List.forall_mem_cons.mpr ⟨s_iload_n C0 dX11_readOnce_36 rfl, List.forall_mem_cons.mpr ⟨s_iload_n C0 dX11_readOnce_37 rfl, List.forall_mem_cons.mpr ⟨s_callV (ci := 11) C0 (kX11_takes l) dX11_readOnce_38 rfl qX11_takes tw6_168 tw6_170 twp_51 tw1_12 tw6_171 rfl (by decide) (by decide), List.forall_mem_cons.mpr ⟨s_zret C0 hr dX11_readOnce_41, fun _ h => absurd h List.not_mem_nil⟩⟩⟩⟩⟩⟩⟩⟩⟩⟩⟩⟩⟩⟩⟩⟩⟩⟩⟩⟩⟩⟩⟩⟩⟩⟩⟩⟩
def fX11_readOnce : Mf := mf 4 (fun K => tl K lX11_readOnce)
theorem kX11_readOnce (l : Launch) : Okm l yX11_readOnce cX11_readOnce 4 (some .boolean) 3 fX11_readOnce := Okm_tl (own := RX11) (by decide +kernel) rfl (fun C0 hr => hX11_readOnce_0 l C0 hr)
theorem dX11_readLine_0 : decode cX11_readLine 0 = .ok (.aload_n 0, 1) := by decide +kernel
theorem dX11_readLine_1 : decode cX11_readLine 1 = .ok (.ldc 99, 2) := by decide +kernel
theorem dX11_readLine_3 : decode cX11_readLine 3 = .ok (.invokevirtual 101, 3) := by decide +kernel
theorem dX11_readLine_6 : decode cX11_readLine 6 = .ok (.ifCond .eq 8, 3) := by decide +kernel
theorem dX11_readLine_9 : decode cX11_readLine 9 = .ok (.aload_n 0, 1) := by decide +kernel
theorem dX11_readLine_10 : decode cX11_readLine 10 = .ok (.invokevirtual 140, 3) := by decide +kernel
theorem dX11_readLine_13 : decode cX11_readLine 13 = .ok (.ireturn, 1) := by decide +kernel
theorem dX11_readLine_14 : decode cX11_readLine 14 = .ok (.aload_n 0, 1) := by decide +kernel
theorem dX11_readLine_15 : decode cX11_readLine 15 = .ok (.ldc 109, 2) := by decide +kernel
theorem dX11_readLine_17 : decode cX11_readLine 17 = .ok (.invokevirtual 101, 3) := by decide +kernel
theorem dX11_readLine_20 : decode cX11_readLine 20 = .ok (.ifCond .eq 8, 3) := by decide +kernel
theorem dX11_readLine_23 : decode cX11_readLine 23 = .ok (.aload_n 0, 1) := by decide +kernel
theorem dX11_readLine_24 : decode cX11_readLine 24 = .ok (.invokevirtual 143, 3) := by decide +kernel
theorem dX11_readLine_27 : decode cX11_readLine 27 = .ok (.ireturn, 1) := by decide +kernel
theorem dX11_readLine_28 : decode cX11_readLine 28 = .ok (.aload_n 0, 1) := by decide +kernel
theorem dX11_readLine_29 : decode cX11_readLine 29 = .ok (.ldc 111, 2) := by decide +kernel
theorem dX11_readLine_31 : decode cX11_readLine 31 = .ok (.invokevirtual 101, 3) := by decide +kernel
theorem dX11_readLine_34 : decode cX11_readLine 34 = .ok (.ifCond .eq 8, 3) := by decide +kernel
theorem dX11_readLine_37 : decode cX11_readLine 37 = .ok (.aload_n 0, 1) := by decide +kernel
theorem dX11_readLine_38 : decode cX11_readLine 38 = .ok (.invokevirtual 146, 3) := by decide +kernel
theorem dX11_readLine_41 : decode cX11_readLine 41 = .ok (.ireturn, 1) := by decide +kernel
theorem dX11_readLine_42 : decode cX11_readLine 42 = .ok (.aload_n 0, 1) := by decide +kernel
theorem dX11_readLine_43 : decode cX11_readLine 43 = .ok (.ldc 113, 2) := by decide +kernel
theorem dX11_readLine_45 : decode cX11_readLine 45 = .ok (.invokevirtual 101, 3) := by decide +kernel
theorem dX11_readLine_48 : decode cX11_readLine 48 = .ok (.ifCond .eq 13, 3) := by decide +kernel
theorem dX11_readLine_51 : decode cX11_readLine 51 = .ok (.aload_n 0, 1) := by decide +kernel
theorem dX11_readLine_52 : decode cX11_readLine 52 = .ok (.iconst 3, 1) := by decide +kernel
theorem dX11_readLine_53 : decode cX11_readLine 53 = .ok (.iconst 0, 1) := by decide +kernel
theorem dX11_readLine_54 : decode cX11_readLine 54 = .ok (.sipush 500, 3) := by decide +kernel
theorem dX11_readLine_57 : decode cX11_readLine 57 = .ok (.invokevirtual 149, 3) := by decide +kernel
theorem dX11_readLine_60 : decode cX11_readLine 60 = .ok (.ireturn, 1) := by decide +kernel
theorem dX11_readLine_61 : decode cX11_readLine 61 = .ok (.aload_n 0, 1) := by decide +kernel
theorem dX11_readLine_62 : decode cX11_readLine 62 = .ok (.ldc 115, 2) := by decide +kernel
theorem dX11_readLine_64 : decode cX11_readLine 64 = .ok (.invokevirtual 101, 3) := by decide +kernel
theorem dX11_readLine_67 : decode cX11_readLine 67 = .ok (.ifCond .eq 12, 3) := by decide +kernel
theorem dX11_readLine_70 : decode cX11_readLine 70 = .ok (.aload_n 0, 1) := by decide +kernel
theorem dX11_readLine_71 : decode cX11_readLine 71 = .ok (.iconst 4, 1) := by decide +kernel
theorem dX11_readLine_72 : decode cX11_readLine 72 = .ok (.iconst 0, 1) := by decide +kernel
theorem dX11_readLine_73 : decode cX11_readLine 73 = .ok (.bipush 9, 2) := by decide +kernel
theorem dX11_readLine_75 : decode cX11_readLine 75 = .ok (.invokevirtual 149, 3) := by decide +kernel
theorem dX11_readLine_78 : decode cX11_readLine 78 = .ok (.ireturn, 1) := by decide +kernel
theorem dX11_readLine_79 : decode cX11_readLine 79 = .ok (.aload_n 0, 1) := by decide +kernel
theorem dX11_readLine_80 : decode cX11_readLine 80 = .ok (.ldc 117, 2) := by decide +kernel
theorem dX11_readLine_82 : decode cX11_readLine 82 = .ok (.invokevirtual 101, 3) := by decide +kernel
theorem dX11_readLine_85 : decode cX11_readLine 85 = .ok (.ifCond .eq 14, 3) := by decide +kernel
theorem dX11_readLine_88 : decode cX11_readLine 88 = .ok (.aload_n 0, 1) := by decide +kernel
theorem dX11_readLine_89 : decode cX11_readLine 89 = .ok (.iconst 5, 1) := by decide +kernel
theorem dX11_readLine_90 : decode cX11_readLine 90 = .ok (.iconst 1, 1) := by decide +kernel
theorem dX11_readLine_91 : decode cX11_readLine 91 = .ok (.bipush 60, 2) := by decide +kernel
theorem dX11_readLine_93 : decode cX11_readLine 93 = .ok (.invokevirtual 149, 3) := by decide +kernel
theorem dX11_readLine_96 : decode cX11_readLine 96 = .ok (.goto 8, 3) := by decide +kernel
theorem dX11_readLine_99 : decode cX11_readLine 99 = .ok (.aload_n 0, 1) := by decide +kernel
theorem dX11_readLine_100 : decode cX11_readLine 100 = .ok (.iconst 1, 1) := by decide +kernel
theorem dX11_readLine_101 : decode cX11_readLine 101 = .ok (.invokevirtual 119, 3) := by decide +kernel
theorem dX11_readLine_104 : decode cX11_readLine 104 = .ok (.ireturn, 1) := by decide +kernel
def lX11_readLine_0 : List (Nat × (Op ⊕ Nat)) := [(0, .inl (o_aload 0 1)), (1, .inl (o_pushR 200 3)), (3, .inl (o_callV fX11_isWord 1 11 6)), (6, .inl (o_if_eq 14 9)), (9, .inl (o_aload 0 10)), (10, .inl (o_callV fX11_readArm 0 11 13)), (13, .inr 1), (14, .inl (o_aload 0 15)), (15, .inl (o_pushR 203 17)), (17, .inl (o_callV fX11_isWord 1 11 20)), (20, .inl (o_if_eq 28 23)), (23, .inl (o_aload 0 24)), (24, .inl (o_callV fX11_readGame 0 11 27)), (27, .inr 1), (28, .inl (o_aload 0 29)), (29, .inl (o_pushR 204 31)), (31, .inl (o_callV fX11_isWord 1 11 34)), (34, .inl (o_if_eq 42 37)), (37, .inl (o_aload 0 38)), (38, .inl (o_callV fX11_readRest 0 11 41)), (41, .inr 1), (42, .inl (o_aload 0 43)), (43, .inl (o_pushR 205 45)), (45, .inl (o_callV fX11_isWord 1 11 48)), (48, .inl (o_if_eq 61 51)), (51, .inl (o_aload 0 52)), (52, .inl (o_pushI (nI 3) 53)), (53, .inl (o_pushI (nI 0) 54)), (54, .inl (o_pushI (nI 500) 57)), (57, .inl (o_callV fX11_readOnce 3 11 60)), (60, .inr 1), (61, .inl (o_aload 0 62)), (62, .inl (o_pushR 206 64)), (64, .inl (o_callV fX11_isWord 1 11 67)), (67, .inl (o_if_eq 79 70)), (70, .inl (o_aload 0 71)), (71, .inl (o_pushI (nI 4) 72)), (72, .inl (o_pushI (nI 0) 73)), (73, .inl (o_pushI (nI 9) 75)), (75, .inl (o_callV fX11_readOnce 3 11 78))]
def lX11_readLine_1 : List (Nat × (Op ⊕ Nat)) := [(78, .inr 1), (79, .inl (o_aload 0 80)), (80, .inl (o_pushR 207 82)), (82, .inl (o_callV fX11_isWord 1 11 85)), (85, .inl (o_if_eq 99 88)), (88, .inl (o_aload 0 89)), (89, .inl (o_pushI (nI 5) 90)), (90, .inl (o_pushI (nI 1) 91)), (91, .inl (o_pushI (nI 60) 93)), (93, .inl (o_callV fX11_readOnce 3 11 96)), (96, .inl (o_goto 104)), (99, .inl (o_aload 0 100)), (100, .inl (o_pushI (nI 1) 101)), (101, .inl (o_callV fX11_errs 1 11 104)), (104, .inr 1)]
def lX11_readLine : List (Nat × (Op ⊕ Nat)) := lX11_readLine_0 ++ (lX11_readLine_1)
theorem qX11_readLine : yX11_readLine.cls = RX11 ∧ yX11_readLine.cls ≠ "java/lang/invoke/MethodHandle" ∧ yX11_readLine.cls ≠ "java/lang/invoke/VarHandle" ∧ (parseMethodDescriptor yX11_readLine.desc).map (fun d => d.parameters.length) = some 0 := by decide +kernel
set_option maxRecDepth 10000 in
theorem hX11_readLine_0 (l : Launch) {p : Program} {e : Env} {s : State} {m : MethodId} {args : Array Value} {below : List Frame} {meth : Method} {c : Code} {D : va_G} {ad adV : Nat → Nat} {cA : Nat → ClassId} {K : Kt} (C0 : Cx p s m args meth c D ad adV cA cX11_readLine 1 RX11) (hr : meth.sig.returnType = (some .boolean)) : ∀ q ∈ lX11_readLine_0, Sd p l e (rmd 8) s m args below meth c (MQ below (QQ D ad cA K) args s 0 0 (AA ad)) D ad cA 1 q.1 (opOf K q.2) := List.forall_mem_cons.mpr ⟨s_aload_n C0 dX11_readLine_0 rfl, List.forall_mem_cons.mpr ⟨s_ldcS (tx := "arm") (k := 0) C0 dX11_readLine_1 (List.mem_of_getElem? (i := 8) rfl), List.forall_mem_cons.mpr ⟨s_callV (ci := 11) C0 (kX11_isWord l) dX11_readLine_3 rfl qX11_isWord tw6_139 tw6_141 twp_46 tw1_12 tw6_142 rfl (by decide) (by decide), List.forall_mem_cons.mpr ⟨s_if_eq C0 dX11_readLine_6 rfl, List.forall_mem_cons.mpr ⟨s_aload_n C0 dX11_readLine_9 rfl, List.forall_mem_cons.mpr ⟨s_callV (ci := 11) C0 (kX11_readArm l) dX11_readLine_10 rfl qX11_readArm tw6_145 tw6_147 twp_47 tw1_12 tw6_148 rfl (by decide) (by decide), List.forall_mem_cons.mpr ⟨s_zret C0 hr dX11_readLine_13, List.forall_mem_cons.mpr ⟨s_aload_n C0 dX11_readLine_14 rfl, List.forall_mem_cons.mpr ⟨s_ldcS (tx := "game") (k := 3) C0 dX11_readLine_15 (List.mem_of_getElem? (i := 11) rfl), List.forall_mem_cons.mpr ⟨s_callV (ci := 11) C0 (kX11_isWord l) dX11_readLine_17 rfl qX11_isWord tw6_139 tw6_141 twp_46 tw1_12 tw6_142 rfl (by decide) (by decide), List.forall_mem_cons.mpr ⟨s_if_eq C0 dX11_readLine_20 rfl, List.forall_mem_cons.mpr ⟨s_aload_n C0 dX11_readLine_23 rfl, List.forall_mem_cons.mpr ⟨s_callV (ci := 11) C0 (kX11_readGame l) dX11_readLine_24 rfl qX11_readGame tw6_172 tw6_174 twp_52 tw1_12 tw6_175 rfl (by decide) (by decide), List.forall_mem_cons.mpr ⟨s_zret C0 hr dX11_readLine_27, List.forall_mem_cons.mpr ⟨s_aload_n C0 dX11_readLine_28 rfl, List.forall_mem_cons.mpr ⟨s_ldcS (tx := "rest") (k := 4) C0 dX11_readLine_29 (List.mem_of_getElem? (i := 12) rfl), List.forall_mem_cons.mpr ⟨s_callV (ci := 11) C0 (kX11_isWord l) dX11_readLine_31 rfl qX11_isWord tw6_139 tw6_141 twp_46 tw1_12 tw6_142 rfl (by decide) (by decide), List.forall_mem_cons.mpr ⟨s_if_eq C0 dX11_readLine_34 rfl, List.forall_mem_cons.mpr ⟨s_aload_n C0 dX11_readLine_37 rfl, List.forall_mem_cons.mpr ⟨s_callV (ci := 11) C0 (kX11_readRest l) dX11_readLine_38 rfl qX11_readRest tw6_176 tw6_178 twp_53 tw1_12 tw6_179 rfl (by decide) (by decide), List.forall_mem_cons.mpr ⟨s_zret C0 hr dX11_readLine_41, List.forall_mem_cons.mpr ⟨s_aload_n C0 dX11_readLine_42 rfl, List.forall_mem_cons.mpr ⟨s_ldcS (tx := "week") (k := 5) C0 dX11_readLine_43 (List.mem_of_getElem? (i := 13) rfl), List.forall_mem_cons.mpr ⟨s_callV (ci := 11) C0 (kX11_isWord l) dX11_readLine_45 rfl qX11_isWord tw6_139 tw6_141 twp_46 tw1_12 tw6_142 rfl (by decide) (by decide), List.forall_mem_cons.mpr ⟨s_if_eq C0 dX11_readLine_48 rfl, List.forall_mem_cons.mpr ⟨s_aload_n C0 dX11_readLine_51 rfl, List.forall_mem_cons.mpr ⟨s_iconst C0 dX11_readLine_52 rfl, List.forall_mem_cons.mpr ⟨s_iconst C0 dX11_readLine_53 rfl, List.forall_mem_cons.mpr ⟨s_sipush C0 dX11_readLine_54 (by decide +kernel), List.forall_mem_cons.mpr ⟨s_callV (ci := 11) C0 (kX11_readOnce l) dX11_readLine_57 rfl qX11_readOnce tw6_180 tw6_182 twp_54 tw1_12 tw6_183 rfl (by decide) (by decide), List.forall_mem_cons.mpr ⟨s_zret C0 hr dX11_readLine_60, List.forall_mem_cons.mpr ⟨s_aload_n C0 dX11_readLine_61 rfl, List.forall_mem_cons.mpr ⟨s_ldcS (tx := "edge") (k := 6) C0 dX11_readLine_62 (List.mem_of_getElem? (i := 14) rfl), List.forall_mem_cons.mpr ⟨s_callV (ci := 11) C0 (kX11_isWord l) dX11_readLine_64 rfl qX11_isWord tw6_139 tw6_141 twp_46 tw1_12 tw6_142 rfl (by decide) (by decide), List.forall_mem_cons.mpr ⟨s_if_eq C0 dX11_readLine_67 rfl, List.forall_mem_cons.mpr ⟨s_aload_n C0 dX11_readLine_70 rfl, List.forall_mem_cons.mpr ⟨s_iconst C0 dX11_readLine_71 rfl, List.forall_mem_cons.mpr ⟨s_iconst C0 dX11_readLine_72 rfl, List.forall_mem_cons.mpr ⟨s_bipush C0 dX11_readLine_73 (by decide +kernel), List.forall_mem_cons.mpr ⟨s_callV (ci := 11) C0 (kX11_readOnce l) dX11_readLine_75 rfl qX11_readOnce tw6_180 tw6_182 twp_54 tw1_12 tw6_183 rfl (by decide) (by decide), fun _ h => absurd h List.not_mem_nil⟩⟩⟩⟩⟩⟩⟩⟩⟩⟩⟩⟩⟩⟩⟩⟩⟩⟩⟩⟩⟩⟩⟩⟩⟩⟩⟩⟩⟩⟩⟩⟩⟩⟩⟩⟩⟩⟩⟩⟩
set_option maxRecDepth 10000 in
theorem hX11_readLine_1 (l : Launch) {p : Program} {e : Env} {s : State} {m : MethodId} {args : Array Value} {below : List Frame} {meth : Method} {c : Code} {D : va_G} {ad adV : Nat → Nat} {cA : Nat → ClassId} {K : Kt} (C0 : Cx p s m args meth c D ad adV cA cX11_readLine 1 RX11) (hr : meth.sig.returnType = (some .boolean)) : ∀ q ∈ lX11_readLine_1, Sd p l e (rmd 8) s m args below meth c (MQ below (QQ D ad cA K) args s 0 0 (AA ad)) D ad cA 1 q.1 (opOf K q.2) := List.forall_mem_cons.mpr ⟨s_zret C0 hr dX11_readLine_78, List.forall_mem_cons.mpr ⟨s_aload_n C0 dX11_readLine_79 rfl, List.forall_mem_cons.mpr ⟨s_ldcS (tx := "out") (k := 7) C0 dX11_readLine_80 (List.mem_of_getElem? (i := 15) rfl), List.forall_mem_cons.mpr ⟨s_callV (ci := 11) C0 (kX11_isWord l) dX11_readLine_82 rfl qX11_isWord tw6_139 tw6_141 twp_46 tw1_12 tw6_142 rfl (by decide) (by decide), List.forall_mem_cons.mpr ⟨s_if_eq C0 dX11_readLine_85 rfl, List.forall_mem_cons.mpr ⟨s_aload_n C0 dX11_readLine_88 rfl, List.forall_mem_cons.mpr ⟨s_iconst C0 dX11_readLine_89 rfl, List.forall_mem_cons.mpr ⟨s_iconst C0 dX11_readLine_90 rfl, List.forall_mem_cons.mpr ⟨s_bipush C0 dX11_readLine_91 (by decide +kernel), List.forall_mem_cons.mpr ⟨s_callV (ci := 11) C0 (kX11_readOnce l) dX11_readLine_93 rfl qX11_readOnce tw6_180 tw6_182 twp_54 tw1_12 tw6_183 rfl (by decide) (by decide), List.forall_mem_cons.mpr ⟨s_goto C0 dX11_readLine_96 rfl, List.forall_mem_cons.mpr ⟨s_aload_n C0 dX11_readLine_99 rfl, List.forall_mem_cons.mpr ⟨s_iconst C0 dX11_readLine_100 rfl, List.forall_mem_cons.mpr ⟨s_callV (ci := 11) C0 (kX11_errs l) dX11_readLine_101 rfl qX11_errs tw6_149 tw6_151 twp_48 tw1_12 tw6_152 rfl (by decide) (by decide), List.forall_mem_cons.mpr ⟨s_zret C0 hr dX11_readLine_104, fun _ h => absurd h List.not_mem_nil⟩⟩⟩⟩⟩⟩⟩⟩⟩⟩⟩⟩⟩⟩⟩
def fX11_readLine : Mf := mf 1 (fun K => tl K lX11_readLine)
theorem kX11_readLine (l : Launch) : Okm l yX11_readLine cX11_readLine 1 (some .boolean) 8 fX11_readLine := Okm_tl (own := RX11) (by decide +kernel) rfl (fun C0 hr => List.forall_mem_append.mpr ⟨hX11_readLine_0 l C0 hr, hX11_readLine_1 l C0 hr⟩)
theorem dX11_readAll_0 : decode cX11_readAll 0 = .ok (.aload_n 0, 1) := by decide +kernel
theorem dX11_readAll_1 : decode cX11_readAll 1 = .ok (.iload_n 1, 1) := by decide +kernel
theorem dX11_readAll_2 : decode cX11_readAll 2 = .ok (.putfield 60, 3) := by decide +kernel
theorem dX11_readAll_5 : decode cX11_readAll 5 = .ok (.aload_n 0, 1) := by decide +kernel
theorem dX11_readAll_6 : decode cX11_readAll 6 = .ok (.iconst 0, 1) := by decide +kernel
theorem dX11_readAll_7 : decode cX11_readAll 7 = .ok (.putfield 63, 3) := by decide +kernel
theorem dX11_readAll_10 : decode cX11_readAll 10 = .ok (.aload_n 0, 1) := by decide +kernel
theorem dX11_readAll_11 : decode cX11_readAll 11 = .ok (.iconst 0, 1) := by decide +kernel
theorem dX11_readAll_12 : decode cX11_readAll 12 = .ok (.putfield 137, 3) := by decide +kernel
theorem dX11_readAll_15 : decode cX11_readAll 15 = .ok (.iconst 0, 1) := by decide +kernel
theorem dX11_readAll_16 : decode cX11_readAll 16 = .ok (.istore_n 2, 1) := by decide +kernel
theorem dX11_readAll_17 : decode cX11_readAll 17 = .ok (.iload_n 2, 1) := by decide +kernel
theorem dX11_readAll_18 : decode cX11_readAll 18 = .ok (.sipush 256, 3) := by decide +kernel
theorem dX11_readAll_21 : decode cX11_readAll 21 = .ok (.if_icmp .ge 26, 3) := by decide +kernel
theorem dX11_readAll_24 : decode cX11_readAll 24 = .ok (.aload_n 0, 1) := by decide +kernel
theorem dX11_readAll_25 : decode cX11_readAll 25 = .ok (.getfield 20, 3) := by decide +kernel
theorem dX11_readAll_28 : decode cX11_readAll 28 = .ok (.iload_n 2, 1) := by decide +kernel
theorem dX11_readAll_29 : decode cX11_readAll 29 = .ok (.iload_n 2, 1) := by decide +kernel
theorem dX11_readAll_30 : decode cX11_readAll 30 = .ok (.iconst 5, 1) := by decide +kernel
theorem dX11_readAll_31 : decode cX11_readAll 31 = .ok (.if_icmp .ne 8, 3) := by decide +kernel
theorem dX11_readAll_34 : decode cX11_readAll 34 = .ok (.bipush 15, 2) := by decide +kernel
theorem dX11_readAll_36 : decode cX11_readAll 36 = .ok (.goto 4, 3) := by decide +kernel
theorem dX11_readAll_39 : decode cX11_readAll 39 = .ok (.iconst 0, 1) := by decide +kernel
theorem dX11_readAll_40 : decode cX11_readAll 40 = .ok (.iastore, 1) := by decide +kernel
theorem dX11_readAll_41 : decode cX11_readAll 41 = .ok (.iinc 2 1, 3) := by decide +kernel
theorem dX11_readAll_44 : decode cX11_readAll 44 = .ok (.goto (-27), 3) := by decide +kernel
theorem dX11_readAll_47 : decode cX11_readAll 47 = .ok (.aload_n 0, 1) := by decide +kernel
theorem dX11_readAll_48 : decode cX11_readAll 48 = .ok (.invokevirtual 123, 3) := by decide +kernel
theorem dX11_readAll_51 : decode cX11_readAll 51 = .ok (.aload_n 0, 1) := by decide +kernel
theorem dX11_readAll_52 : decode cX11_readAll 52 = .ok (.invokevirtual 152, 3) := by decide +kernel
theorem dX11_readAll_55 : decode cX11_readAll 55 = .ok (.ifCond .ne 5, 3) := by decide +kernel
theorem dX11_readAll_58 : decode cX11_readAll 58 = .ok (.iconst 0, 1) := by decide +kernel
theorem dX11_readAll_59 : decode cX11_readAll 59 = .ok (.ireturn, 1) := by decide +kernel
theorem dX11_readAll_60 : decode cX11_readAll 60 = .ok (.aload_n 0, 1) := by decide +kernel
theorem dX11_readAll_61 : decode cX11_readAll 61 = .ok (.getfield 73, 3) := by decide +kernel
theorem dX11_readAll_64 : decode cX11_readAll 64 = .ok (.bipush 59, 2) := by decide +kernel
theorem dX11_readAll_66 : decode cX11_readAll 66 = .ok (.if_icmp .ne 16, 3) := by decide +kernel
theorem dX11_readAll_69 : decode cX11_readAll 69 = .ok (.aload_n 0, 1) := by decide +kernel
theorem dX11_readAll_70 : decode cX11_readAll 70 = .ok (.invokevirtual 123, 3) := by decide +kernel
theorem dX11_readAll_73 : decode cX11_readAll 73 = .ok (.aload_n 0, 1) := by decide +kernel
theorem dX11_readAll_74 : decode cX11_readAll 74 = .ok (.invokevirtual 152, 3) := by decide +kernel
theorem dX11_readAll_77 : decode cX11_readAll 77 = .ok (.ifCond .ne (-17), 3) := by decide +kernel
theorem dX11_readAll_80 : decode cX11_readAll 80 = .ok (.iconst 0, 1) := by decide +kernel
theorem dX11_readAll_81 : decode cX11_readAll 81 = .ok (.ireturn, 1) := by decide +kernel
theorem dX11_readAll_82 : decode cX11_readAll 82 = .ok (.aload_n 0, 1) := by decide +kernel
theorem dX11_readAll_83 : decode cX11_readAll 83 = .ok (.getfield 73, 3) := by decide +kernel
theorem dX11_readAll_86 : decode cX11_readAll 86 = .ok (.ifCond .eq 9, 3) := by decide +kernel
theorem dX11_readAll_89 : decode cX11_readAll 89 = .ok (.aload_n 0, 1) := by decide +kernel
theorem dX11_readAll_90 : decode cX11_readAll 90 = .ok (.iconst 1, 1) := by decide +kernel
theorem dX11_readAll_91 : decode cX11_readAll 91 = .ok (.invokevirtual 119, 3) := by decide +kernel
theorem dX11_readAll_94 : decode cX11_readAll 94 = .ok (.ireturn, 1) := by decide +kernel
theorem dX11_readAll_95 : decode cX11_readAll 95 = .ok (.aload_n 0, 1) := by decide +kernel
theorem dX11_readAll_96 : decode cX11_readAll 96 = .ok (.getfield 20, 3) := by decide +kernel
theorem dX11_readAll_99 : decode cX11_readAll 99 = .ok (.iconst 0, 1) := by decide +kernel
theorem dX11_readAll_100 : decode cX11_readAll 100 = .ok (.iaload, 1) := by decide +kernel
theorem dX11_readAll_101 : decode cX11_readAll 101 = .ok (.ifCond .le 12, 3) := by decide +kernel
theorem dX11_readAll_104 : decode cX11_readAll 104 = .ok (.aload_n 0, 1) := by decide +kernel
theorem dX11_readAll_105 : decode cX11_readAll 105 = .ok (.getfield 20, 3) := by decide +kernel
theorem dX11_readAll_108 : decode cX11_readAll 108 = .ok (.iconst 1, 1) := by decide +kernel
theorem dX11_readAll_109 : decode cX11_readAll 109 = .ok (.iaload, 1) := by decide +kernel
theorem dX11_readAll_110 : decode cX11_readAll 110 = .ok (.ifCond .gt 11, 3) := by decide +kernel
theorem dX11_readAll_113 : decode cX11_readAll 113 = .ok (.aload_n 0, 1) := by decide +kernel
theorem dX11_readAll_114 : decode cX11_readAll 114 = .ok (.iconst 5, 1) := by decide +kernel
theorem dX11_readAll_115 : decode cX11_readAll 115 = .ok (.invokevirtual 119, 3) := by decide +kernel
theorem dX11_readAll_118 : decode cX11_readAll 118 = .ok (.ifCond .eq 7, 3) := by decide +kernel
theorem dX11_readAll_121 : decode cX11_readAll 121 = .ok (.iconst 1, 1) := by decide +kernel
theorem dX11_readAll_122 : decode cX11_readAll 122 = .ok (.goto 4, 3) := by decide +kernel
theorem dX11_readAll_125 : decode cX11_readAll 125 = .ok (.iconst 0, 1) := by decide +kernel
theorem dX11_readAll_126 : decode cX11_readAll 126 = .ok (.ireturn, 1) := by decide +kernel
def lX11_readAll_0 : List (Nat × (Op ⊕ Nat)) := [(0, .inl (o_aload 0 1)), (1, .inl (o_iload 1 2)), (2, .inl (o_putI 11 11 5)), (5, .inl (o_aload 0 6)), (6, .inl (o_pushI (nI 0) 7)), (7, .inl (o_putI 11 13 10)), (10, .inl (o_aload 0 11)), (11, .inl (o_pushI (nI 0) 12)), (12, .inl (o_putI 11 16 15)), (15, .inl (o_pushI (nI 0) 16)), (16, .inl (o_istore 2 17)), (17, .inl (o_iload 2 18)), (18, .inl (o_pushI (nI 256) 21)), (21, .inl (o_icmp_ge 47 24)), (24, .inl (o_aload 0 25)), (25, .inl (o_get 11 8 28)), (28, .inl (o_iload 2 29)), (29, .inl (o_iload 2 30)), (30, .inl (o_pushI (nI 5) 31)), (31, .inl (o_icmp_ne 39 34)), (34, .inl (o_pushI (nI 15) 36)), (36, .inl (o_goto 40)), (39, .inl (o_pushI (nI 0) 40)), (40, .inl (o_iast 41)), (41, .inl (o_iinc 2 (nI 1) 44)), (44, .inl (o_goto 17)), (47, .inl (o_aload 0 48)), (48, .inl (o_callV fX11_goesOn 0 11 51)), (51, .inl (o_aload 0 52)), (52, .inl (o_callV fX11_readLine 0 11 55)), (55, .inl (o_if_ne 60 58)), (58, .inl (o_pushI (nI 0) 59)), (59, .inr 1), (60, .inl (o_aload 0 61)), (61, .inl (o_get 11 14 64)), (64, .inl (o_pushI (nI 59) 66)), (66, .inl (o_icmp_ne 82 69)), (69, .inl (o_aload 0 70)), (70, .inl (o_callV fX11_goesOn 0 11 73)), (73, .inl (o_aload 0 74))]
def lX11_readAll_1 : List (Nat × (Op ⊕ Nat)) := [(74, .inl (o_callV fX11_readLine 0 11 77)), (77, .inl (o_if_ne 60 80)), (80, .inl (o_pushI (nI 0) 81)), (81, .inr 1), (82, .inl (o_aload 0 83)), (83, .inl (o_get 11 14 86)), (86, .inl (o_if_eq 95 89)), (89, .inl (o_aload 0 90)), (90, .inl (o_pushI (nI 1) 91)), (91, .inl (o_callV fX11_errs 1 11 94)), (94, .inr 1), (95, .inl (o_aload 0 96)), (96, .inl (o_get 11 8 99)), (99, .inl (o_pushI (nI 0) 100)), (100, .inl (o_iald 101)), (101, .inl (o_if_le 113 104)), (104, .inl (o_aload 0 105)), (105, .inl (o_get 11 8 108)), (108, .inl (o_pushI (nI 1) 109)), (109, .inl (o_iald 110)), (110, .inl (o_if_gt 121 113)), (113, .inl (o_aload 0 114)), (114, .inl (o_pushI (nI 5) 115)), (115, .inl (o_callV fX11_errs 1 11 118)), (118, .inl (o_if_eq 125 121)), (121, .inl (o_pushI (nI 1) 122)), (122, .inl (o_goto 126)), (125, .inl (o_pushI (nI 0) 126)), (126, .inr 1)]
def lX11_readAll : List (Nat × (Op ⊕ Nat)) := lX11_readAll_0 ++ (lX11_readAll_1)
theorem qX11_readAll : yX11_readAll.cls = RX11 ∧ yX11_readAll.cls ≠ "java/lang/invoke/MethodHandle" ∧ yX11_readAll.cls ≠ "java/lang/invoke/VarHandle" ∧ (parseMethodDescriptor yX11_readAll.desc).map (fun d => d.parameters.length) = some 1 := by decide +kernel
set_option maxRecDepth 10000 in
theorem hX11_readAll_0 (l : Launch) {p : Program} {e : Env} {s : State} {m : MethodId} {args : Array Value} {below : List Frame} {meth : Method} {c : Code} {D : va_G} {ad adV : Nat → Nat} {cA : Nat → ClassId} {K : Kt} (C0 : Cx p s m args meth c D ad adV cA cX11_readAll 3 RX11) (hr : meth.sig.returnType = (some .boolean)) : ∀ q ∈ lX11_readAll_0, Sd p l e (rmd 9) s m args below meth c (MQ below (QQ D ad cA K) args s 0 0 (AA ad)) D ad cA 3 q.1 (opOf K q.2) := List.forall_mem_cons.mpr ⟨s_aload_n C0 dX11_readAll_0 rfl, List.forall_mem_cons.mpr ⟨s_iload_n C0 dX11_readAll_1 rfl, List.forall_mem_cons.mpr ⟨s_putI (ci := 11) (k := 11) C0 dX11_readAll_2 inX11 tyX11_ok nmX11 rfl (by decide) rfl rfl tw6_22, List.forall_mem_cons.mpr ⟨s_aload_n C0 dX11_readAll_5 rfl, List.forall_mem_cons.mpr ⟨s_iconst C0 dX11_readAll_6 rfl, List.forall_mem_cons.mpr ⟨s_putI (ci := 11) (k := 13) C0 dX11_readAll_7 inX11 tyX11_ok nmX11 rfl (by decide) rfl rfl tw6_24, List.forall_mem_cons.mpr ⟨s_aload_n C0 dX11_readAll_10 rfl, List.forall_mem_cons.mpr ⟨s_iconst C0 dX11_readAll_11 rfl, List.forall_mem_cons.mpr ⟨s_putI (ci := 11) (k := 16) C0 dX11_readAll_12 inX11 tyX11_ok nmX11 rfl (by decide) rfl rfl tw6_27, List.forall_mem_cons.mpr ⟨s_iconst C0 dX11_readAll_15 rfl, List.forall_mem_cons.mpr ⟨s_istore_n C0 dX11_readAll_16 rfl (by decide), List.forall_mem_cons.mpr ⟨s_iload_n C0 dX11_readAll_17 rfl, List.forall_mem_cons.mpr ⟨s_sipush C0 dX11_readAll_18 (by decide +kernel), List.forall_mem_cons.mpr ⟨s_icmp_ge C0 dX11_readAll_21 rfl, List.forall_mem_cons.mpr ⟨s_aload_n C0 dX11_readAll_24 rfl, List.forall_mem_cons.mpr ⟨s_get (ci := 11) (k := 8) C0 dX11_readAll_25 inX11 rfl (by decide) tw6_19, List.forall_mem_cons.mpr ⟨s_iload_n C0 dX11_readAll_28 rfl, List.forall_mem_cons.mpr ⟨s_iload_n C0 dX11_readAll_29 rfl, List.forall_mem_cons.mpr ⟨s_iconst C0 dX11_readAll_30 rfl, List.forall_mem_cons.mpr ⟨s_icmp_ne C0 dX11_readAll_31 rfl, List.forall_mem_cons.mpr ⟨s_bipush C0 dX11_readAll_34 (by decide +kernel), List.forall_mem_cons.mpr ⟨s_goto C0 dX11_readAll_36 rfl, List.forall_mem_cons.mpr ⟨s_iconst C0 dX11_readAll_39 rfl, List.forall_mem_cons.mpr ⟨s_iast C0 dX11_readAll_40, List.forall_mem_cons.mpr ⟨s_iinc C0 dX11_readAll_41 rfl (by decide), List.forall_mem_cons.mpr ⟨s_goto C0 dX11_readAll_44 rfl, List.forall_mem_cons.mpr ⟨s_aload_n C0 dX11_readAll_47 rfl, List.forall_mem_cons.mpr ⟨s_callV (ci := 11) C0 (kX11_goesOn l) dX11_readAll_48 rfl qX11_goesOn tw6_126 tw6_128 twp_43 tw1_12 tw6_129 rfl (by decide) (by decide), List.forall_mem_cons.mpr ⟨s_aload_n C0 dX11_readAll_51 rfl, List.forall_mem_cons.mpr ⟨s_callV (ci := 11) C0 (kX11_readLine l) dX11_readAll_52 rfl qX11_readLine tw6_134 tw6_136 twp_45 tw1_12 tw6_137 rfl (by decide) (by decide), List.forall_mem_cons.mpr ⟨s_if_ne C0 dX11_readAll_55 rfl, List.forall_mem_cons.mpr ⟨s_iconst C0 dX11_readAll_58 rfl, List.forall_mem_cons.mpr ⟨s_zret C0 hr dX11_readAll_59, List.forall_mem_cons.mpr ⟨s_aload_n C0 dX11_readAll_60 rfl, List.forall_mem_cons.mpr ⟨s_get (ci := 11) (k := 14) C0 dX11_readAll_61 inX11 rfl (by decide) tw6_25, List.forall_mem_cons.mpr ⟨s_bipush C0 dX11_readAll_64 (by decide +kernel), List.forall_mem_cons.mpr ⟨s_icmp_ne C0 dX11_readAll_66 rfl, List.forall_mem_cons.mpr ⟨s_aload_n C0 dX11_readAll_69 rfl, List.forall_mem_cons.mpr ⟨s_callV (ci := 11) C0 (kX11_goesOn l) dX11_readAll_70 rfl qX11_goesOn tw6_126 tw6_128 twp_43 tw1_12 tw6_129 rfl (by decide) (by decide), List.forall_mem_cons.mpr ⟨s_aload_n C0 dX11_readAll_73 rfl, fun _ h => absurd h List.not_mem_nil⟩⟩⟩⟩⟩⟩⟩⟩⟩⟩⟩⟩⟩⟩⟩⟩⟩⟩⟩⟩⟩⟩⟩⟩⟩⟩⟩⟩⟩⟩⟩⟩⟩⟩⟩⟩⟩⟩⟩⟩
set_option maxRecDepth 10000 in
theorem hX11_readAll_1 (l : Launch) {p : Program} {e : Env} {s : State} {m : MethodId} {args : Array Value} {below : List Frame} {meth : Method} {c : Code} {D : va_G} {ad adV : Nat → Nat} {cA : Nat → ClassId} {K : Kt} (C0 : Cx p s m args meth c D ad adV cA cX11_readAll 3 RX11) (hr : meth.sig.returnType = (some .boolean)) : ∀ q ∈ lX11_readAll_1, Sd p l e (rmd 9) s m args below meth c (MQ below (QQ D ad cA K) args s 0 0 (AA ad)) D ad cA 3 q.1 (opOf K q.2) := List.forall_mem_cons.mpr ⟨s_callV (ci := 11) C0 (kX11_readLine l) dX11_readAll_74 rfl qX11_readLine tw6_134 tw6_136 twp_45 tw1_12 tw6_137 rfl (by decide) (by decide), List.forall_mem_cons.mpr ⟨s_if_ne C0 dX11_readAll_77 rfl, List.forall_mem_cons.mpr ⟨s_iconst C0 dX11_readAll_80 rfl, List.forall_mem_cons.mpr ⟨s_zret C0 hr dX11_readAll_81, List.forall_mem_cons.mpr ⟨s_aload_n C0 dX11_readAll_82 rfl, List.forall_mem_cons.mpr ⟨s_get (ci := 11) (k := 14) C0 dX11_readAll_83 inX11 rfl (by decide) tw6_25, List.forall_mem_cons.mpr ⟨s_if_eq C0 dX11_readAll_86 rfl, List.forall_mem_cons.mpr ⟨s_aload_n C0 dX11_readAll_89 rfl, List.forall_mem_cons.mpr ⟨s_iconst C0 dX11_readAll_90 rfl, List.forall_mem_cons.mpr ⟨s_callV (ci := 11) C0 (kX11_errs l) dX11_readAll_91 rfl qX11_errs tw6_149 tw6_151 twp_48 tw1_12 tw6_152 rfl (by decide) (by decide), List.forall_mem_cons.mpr ⟨s_zret C0 hr dX11_readAll_94, List.forall_mem_cons.mpr ⟨s_aload_n C0 dX11_readAll_95 rfl, List.forall_mem_cons.mpr ⟨s_get (ci := 11) (k := 8) C0 dX11_readAll_96 inX11 rfl (by decide) tw6_19, List.forall_mem_cons.mpr ⟨s_iconst C0 dX11_readAll_99 rfl, List.forall_mem_cons.mpr ⟨s_iald C0 dX11_readAll_100, List.forall_mem_cons.mpr ⟨s_if_le C0 dX11_readAll_101 rfl, List.forall_mem_cons.mpr ⟨s_aload_n C0 dX11_readAll_104 rfl, List.forall_mem_cons.mpr ⟨s_get (ci := 11) (k := 8) C0 dX11_readAll_105 inX11 rfl (by decide) tw6_19, List.forall_mem_cons.mpr ⟨s_iconst C0 dX11_readAll_108 rfl, List.forall_mem_cons.mpr ⟨s_iald C0 dX11_readAll_109, List.forall_mem_cons.mpr ⟨s_if_gt C0 dX11_readAll_110 rfl, List.forall_mem_cons.mpr ⟨s_aload_n C0 dX11_readAll_113 rfl, List.forall_mem_cons.mpr ⟨s_iconst C0 dX11_readAll_114 rfl, List.forall_mem_cons.mpr ⟨s_callV (ci := 11) C0 (kX11_errs l) dX11_readAll_115 rfl qX11_errs tw6_149 tw6_151 twp_48 tw1_12 tw6_152 rfl (by decide) (by decide), List.forall_mem_cons.mpr ⟨s_if_eq C0 dX11_readAll_118 rfl, List.forall_mem_cons.mpr ⟨s_iconst C0 dX11_readAll_121 rfl, List.forall_mem_cons.mpr ⟨s_goto C0 dX11_readAll_122 rfl, List.forall_mem_cons.mpr ⟨s_iconst C0 dX11_readAll_125 rfl, List.forall_mem_cons.mpr ⟨s_zret C0 hr dX11_readAll_126, fun _ h => absurd h List.not_mem_nil⟩⟩⟩⟩⟩⟩⟩⟩⟩⟩⟩⟩⟩⟩⟩⟩⟩⟩⟩⟩⟩⟩⟩⟩⟩⟩⟩⟩⟩
def fX11_readAll : Mf := mf 3 (fun K => tl K lX11_readAll)
theorem kX11_readAll (l : Launch) : Okm l yX11_readAll cX11_readAll 3 (some .boolean) 9 fX11_readAll := Okm_tl (own := RX11) (by decide +kernel) rfl (fun C0 hr => List.forall_mem_append.mpr ⟨hX11_readAll_0 l C0 hr, hX11_readAll_1 l C0 hr⟩)
theorem dX11_lays_0 : decode cX11_lays 0 = .ok (.iconst 0, 1) := by decide +kernel
theorem dX11_lays_1 : decode cX11_lays 1 = .ok (.istore 5, 2) := by decide +kernel
theorem dX11_lays_3 : decode cX11_lays 3 = .ok (.iload 5, 2) := by decide +kernel
theorem dX11_lays_5 : decode cX11_lays 5 = .ok (.iload 4, 2) := by decide +kernel
theorem dX11_lays_7 : decode cX11_lays 7 = .ok (.if_icmp .ge 21, 3) := by decide +kernel
theorem dX11_lays_10 : decode cX11_lays 10 = .ok (.aload_n 0, 1) := by decide +kernel
theorem dX11_lays_11 : decode cX11_lays 11 = .ok (.iload_n 1, 1) := by decide +kernel
theorem dX11_lays_12 : decode cX11_lays 12 = .ok (.iload 5, 2) := by decide +kernel
theorem dX11_lays_14 : decode cX11_lays 14 = .ok (.iadd, 1) := by decide +kernel
theorem dX11_lays_15 : decode cX11_lays 15 = .ok (.aload_n 2, 1) := by decide +kernel
theorem dX11_lays_16 : decode cX11_lays 16 = .ok (.iload_n 3, 1) := by decide +kernel
theorem dX11_lays_17 : decode cX11_lays 17 = .ok (.iload 5, 2) := by decide +kernel
theorem dX11_lays_19 : decode cX11_lays 19 = .ok (.iadd, 1) := by decide +kernel
theorem dX11_lays_20 : decode cX11_lays 20 = .ok (.iaload, 1) := by decide +kernel
theorem dX11_lays_21 : decode cX11_lays 21 = .ok (.iastore, 1) := by decide +kernel
theorem dX11_lays_22 : decode cX11_lays 22 = .ok (.iinc 5 1, 3) := by decide +kernel
theorem dX11_lays_25 : decode cX11_lays 25 = .ok (.goto (-22), 3) := by decide +kernel
theorem dX11_lays_28 : decode cX11_lays 28 = .ok (.return_, 1) := by decide +kernel
def lX11_lays : List (Nat × (Op ⊕ Nat)) := [(0, .inl (o_pushI (nI 0) 1)), (1, .inl (o_istore 5 3)), (3, .inl (o_iload 5 5)), (5, .inl (o_iload 4 7)), (7, .inl (o_icmp_ge 28 10)), (10, .inl (o_aload 0 11)), (11, .inl (o_iload 1 12)), (12, .inl (o_iload 5 14)), (14, .inl (o_iadd 15)), (15, .inl (o_aload 2 16)), (16, .inl (o_iload 3 17)), (17, .inl (o_iload 5 19)), (19, .inl (o_iadd 20)), (20, .inl (o_iald 21)), (21, .inl (o_iast 22)), (22, .inl (o_iinc 5 (nI 1) 25)), (25, .inl (o_goto 3)), (28, .inr 3)]
theorem qX11_lays : yX11_lays.cls ≠ "java/lang/invoke/MethodHandle" ∧ yX11_lays.cls ≠ "java/lang/invoke/VarHandle" ∧ (parseMethodDescriptor yX11_lays.desc).map (fun d => d.parameters.length) = some 5 := by decide +kernel
set_option maxRecDepth 10000 in
theorem hX11_lays_0 (l : Launch) {p : Program} {e : Env} {s : State} {m : MethodId} {args : Array Value} {below : List Frame} {meth : Method} {c : Code} {D : va_G} {ad adV : Nat → Nat} {cA : Nat → ClassId} {K : Kt} (C0 : Cx p s m args meth c D ad adV cA cX11_lays 6 RX11) (hr : meth.sig.returnType = none) : ∀ q ∈ lX11_lays, Sd p l e (rmd 0) s m args below meth c (MQ below (QQ D ad cA K) args s 0 0 (AA ad)) D ad cA 6 q.1 (opOf K q.2) := List.forall_mem_cons.mpr ⟨s_iconst C0 dX11_lays_0 rfl, List.forall_mem_cons.mpr ⟨s_istore C0 dX11_lays_1 (by decide), List.forall_mem_cons.mpr ⟨s_iload C0 dX11_lays_3, List.forall_mem_cons.mpr ⟨s_iload C0 dX11_lays_5, List.forall_mem_cons.mpr ⟨s_icmp_ge C0 dX11_lays_7 rfl, List.forall_mem_cons.mpr ⟨s_aload_n C0 dX11_lays_10 rfl, List.forall_mem_cons.mpr ⟨s_iload_n C0 dX11_lays_11 rfl, List.forall_mem_cons.mpr ⟨s_iload C0 dX11_lays_12, List.forall_mem_cons.mpr ⟨s_iadd C0 dX11_lays_14, List.forall_mem_cons.mpr ⟨s_aload_n C0 dX11_lays_15 rfl, List.forall_mem_cons.mpr ⟨s_iload_n C0 dX11_lays_16 rfl, List.forall_mem_cons.mpr ⟨s_iload C0 dX11_lays_17, List.forall_mem_cons.mpr ⟨s_iadd C0 dX11_lays_19, List.forall_mem_cons.mpr ⟨s_iald C0 dX11_lays_20, List.forall_mem_cons.mpr ⟨s_iast C0 dX11_lays_21, List.forall_mem_cons.mpr ⟨s_iinc C0 dX11_lays_22 rfl (by decide), List.forall_mem_cons.mpr ⟨s_goto C0 dX11_lays_25 rfl, List.forall_mem_cons.mpr ⟨s_vret C0 hr dX11_lays_28, fun _ h => absurd h List.not_mem_nil⟩⟩⟩⟩⟩⟩⟩⟩⟩⟩⟩⟩⟩⟩⟩⟩⟩⟩
def fX11_lays : Mf := mf 6 (fun K => tl K lX11_lays)
theorem kX11_lays (l : Launch) : Okm l yX11_lays cX11_lays 6 none 0 fX11_lays := Okm_tl (own := RX11) (by decide +kernel) rfl (fun C0 hr => hX11_lays_0 l C0 hr)
theorem dX11_text_0 : decode cX11_text 0 = .ok (.aload_n 0, 1) := by decide +kernel
theorem dX11_text_1 : decode cX11_text 1 = .ok (.iconst 1, 1) := by decide +kernel
theorem dX11_text_2 : decode cX11_text 2 = .ok (.iload_n 1, 1) := by decide +kernel
theorem dX11_text_3 : decode cX11_text 3 = .ok (.iconst 0, 1) := by decide +kernel
theorem dX11_text_4 : decode cX11_text 4 = .ok (.aload_n 0, 1) := by decide +kernel
theorem dX11_text_5 : decode cX11_text 5 = .ok (.getfield 53, 3) := by decide +kernel
theorem dX11_text_8 : decode cX11_text 8 = .ok (.invokestatic 76, 3) := by decide +kernel
theorem dX11_text_11 : decode cX11_text 11 = .ok (.invokestatic 155, 3) := by decide +kernel
theorem dX11_text_14 : decode cX11_text 14 = .ok (.invokevirtual 159, 3) := by decide +kernel
theorem dX11_text_17 : decode cX11_text 17 = .ok (.ifCond .eq 5, 3) := by decide +kernel
theorem dX11_text_20 : decode cX11_text 20 = .ok (.iconst (-1), 1) := by decide +kernel
theorem dX11_text_21 : decode cX11_text 21 = .ok (.ireturn, 1) := by decide +kernel
theorem dX11_text_22 : decode cX11_text 22 = .ok (.aload_n 0, 1) := by decide +kernel
theorem dX11_text_23 : decode cX11_text 23 = .ok (.iconst 0, 1) := by decide +kernel
theorem dX11_text_24 : decode cX11_text 24 = .ok (.putfield 53, 3) := by decide +kernel
theorem dX11_text_27 : decode cX11_text 27 = .ok (.aload_n 0, 1) := by decide +kernel
theorem dX11_text_28 : decode cX11_text 28 = .ok (.iconst 0, 1) := by decide +kernel
theorem dX11_text_29 : decode cX11_text 29 = .ok (.putfield 162, 3) := by decide +kernel
theorem dX11_text_32 : decode cX11_text 32 = .ok (.aload_n 0, 1) := by decide +kernel
theorem dX11_text_33 : decode cX11_text 33 = .ok (.iload_n 1, 1) := by decide +kernel
theorem dX11_text_34 : decode cX11_text 34 = .ok (.invokevirtual 165, 3) := by decide +kernel
theorem dX11_text_37 : decode cX11_text 37 = .ok (.ifCond .ne 25, 3) := by decide +kernel
theorem dX11_text_40 : decode cX11_text 40 = .ok (.aload_n 0, 1) := by decide +kernel
theorem dX11_text_41 : decode cX11_text 41 = .ok (.aload_n 0, 1) := by decide +kernel
theorem dX11_text_42 : decode cX11_text 42 = .ok (.getfield 93, 3) := by decide +kernel
theorem dX11_text_45 : decode cX11_text 45 = .ok (.putfield 162, 3) := by decide +kernel
theorem dX11_text_48 : decode cX11_text 48 = .ok (.aload_n 0, 1) := by decide +kernel
theorem dX11_text_49 : decode cX11_text 49 = .ok (.aload_n 0, 1) := by decide +kernel
theorem dX11_text_50 : decode cX11_text 50 = .ok (.getfield 96, 3) := by decide +kernel
theorem dX11_text_53 : decode cX11_text 53 = .ok (.putfield 9, 3) := by decide +kernel
theorem dX11_text_56 : decode cX11_text 56 = .ok (.aload_n 0, 1) := by decide +kernel
theorem dX11_text_57 : decode cX11_text 57 = .ok (.iconst 4, 1) := by decide +kernel
theorem dX11_text_58 : decode cX11_text 58 = .ok (.invokevirtual 168, 3) := by decide +kernel
theorem dX11_text_61 : decode cX11_text 61 = .ok (.ireturn, 1) := by decide +kernel
theorem dX11_text_62 : decode cX11_text 62 = .ok (.aload_n 0, 1) := by decide +kernel
theorem dX11_text_63 : decode cX11_text 63 = .ok (.iconst 1, 1) := by decide +kernel
theorem dX11_text_64 : decode cX11_text 64 = .ok (.putfield 171, 3) := by decide +kernel
theorem dX11_text_67 : decode cX11_text 67 = .ok (.aload_n 0, 1) := by decide +kernel
theorem dX11_text_68 : decode cX11_text 68 = .ok (.iconst 0, 1) := by decide +kernel
theorem dX11_text_69 : decode cX11_text 69 = .ok (.putfield 175, 3) := by decide +kernel
theorem dX11_text_72 : decode cX11_text 72 = .ok (.aload_n 0, 1) := by decide +kernel
theorem dX11_text_73 : decode cX11_text 73 = .ok (.getfield 17, 3) := by decide +kernel
theorem dX11_text_76 : decode cX11_text 76 = .ok (.iconst 0, 1) := by decide +kernel
theorem dX11_text_77 : decode cX11_text 77 = .ok (.aload_n 0, 1) := by decide +kernel
theorem dX11_text_78 : decode cX11_text 78 = .ok (.getfield 20, 3) := by decide +kernel
theorem dX11_text_81 : decode cX11_text 81 = .ok (.iconst 0, 1) := by decide +kernel
theorem dX11_text_82 : decode cX11_text 82 = .ok (.sipush 256, 3) := by decide +kernel
theorem dX11_text_85 : decode cX11_text 85 = .ok (.invokestatic 178, 3) := by decide +kernel
theorem dX11_text_88 : decode cX11_text 88 = .ok (.aload_n 0, 1) := by decide +kernel
theorem dX11_text_89 : decode cX11_text 89 = .ok (.getfield 23, 3) := by decide +kernel
theorem dX11_text_92 : decode cX11_text 92 = .ok (.iconst 0, 1) := by decide +kernel
theorem dX11_text_93 : decode cX11_text 93 = .ok (.aload_n 0, 1) := by decide +kernel
theorem dX11_text_94 : decode cX11_text 94 = .ok (.getfield 26, 3) := by decide +kernel
theorem dX11_text_97 : decode cX11_text 97 = .ok (.iconst 0, 1) := by decide +kernel
theorem dX11_text_98 : decode cX11_text 98 = .ok (.bipush 56, 2) := by decide +kernel
theorem dX11_text_100 : decode cX11_text 100 = .ok (.invokestatic 178, 3) := by decide +kernel
theorem dX11_text_103 : decode cX11_text 103 = .ok (.aload_n 0, 1) := by decide +kernel
theorem dX11_text_104 : decode cX11_text 104 = .ok (.getfield 17, 3) := by decide +kernel
theorem dX11_text_107 : decode cX11_text 107 = .ok (.iconst 1, 1) := by decide +kernel
theorem dX11_text_108 : decode cX11_text 108 = .ok (.iaload, 1) := by decide +kernel
theorem dX11_text_109 : decode cX11_text 109 = .ok (.ireturn, 1) := by decide +kernel
def lX11_text_0 : List (Nat × (Op ⊕ Nat)) := [(0, .inl (o_aload 0 1)), (1, .inl (o_pushI (nI 1) 2)), (2, .inl (o_iload 1 3)), (3, .inl (o_pushI (nI 0) 4)), (4, .inl (o_aload 0 5)), (5, .inl (o_get 11 5 8)), (8, .inl (o_callS fX11_in 3 11)), (11, .inl (o_callS fX11_unless_ 2 14)), (14, .inl (o_callV fX11_isRefused 1 11 17)), (17, .inl (o_if_eq 22 20)), (20, .inl (o_pushI ((-1)) 21)), (21, .inr 0), (22, .inl (o_aload 0 23)), (23, .inl (o_pushI (nI 0) 24)), (24, .inl (o_putI 11 5 27)), (27, .inl (o_aload 0 28)), (28, .inl (o_pushI (nI 0) 29)), (29, .inl (o_putI 11 2 32)), (32, .inl (o_aload 0 33)), (33, .inl (o_iload 1 34)), (34, .inl (o_callV fX11_readAll 1 11 37)), (37, .inl (o_if_ne 62 40)), (40, .inl (o_aload 0 41)), (41, .inl (o_aload 0 42)), (42, .inl (o_get 11 17 45)), (45, .inl (o_putI 11 2 48)), (48, .inl (o_aload 0 49)), (49, .inl (o_aload 0 50)), (50, .inl (o_get 11 18 53)), (53, .inl (o_putI 11 3 56)), (56, .inl (o_aload 0 57)), (57, .inl (o_pushI (nI 4) 58)), (58, .inl (o_callV fX11_no 1 11 61)), (61, .inr 0), (62, .inl (o_aload 0 63)), (63, .inl (o_pushI (nI 1) 64)), (64, .inl (o_putZ 11 6 67)), (67, .inl (o_aload 0 68)), (68, .inl (o_pushI (nI 0) 69)), (69, .inl (o_putI 11 24 72))]
def lX11_text_1 : List (Nat × (Op ⊕ Nat)) := [(72, .inl (o_aload 0 73)), (73, .inl (o_get 11 7 76)), (76, .inl (o_pushI (nI 0) 77)), (77, .inl (o_aload 0 78)), (78, .inl (o_get 11 8 81)), (81, .inl (o_pushI (nI 0) 82)), (82, .inl (o_pushI (nI 256) 85)), (85, .inl (o_callS fX11_lays 5 88)), (88, .inl (o_aload 0 89)), (89, .inl (o_get 11 9 92)), (92, .inl (o_pushI (nI 0) 93)), (93, .inl (o_aload 0 94)), (94, .inl (o_get 11 10 97)), (97, .inl (o_pushI (nI 0) 98)), (98, .inl (o_pushI (nI 56) 100)), (100, .inl (o_callS fX11_lays 5 103)), (103, .inl (o_aload 0 104)), (104, .inl (o_get 11 7 107)), (107, .inl (o_pushI (nI 1) 108)), (108, .inl (o_iald 109)), (109, .inr 0)]
def lX11_text : List (Nat × (Op ⊕ Nat)) := lX11_text_0 ++ (lX11_text_1)
theorem qX11_text : yX11_text.cls = RX11 ∧ yX11_text.cls ≠ "java/lang/invoke/MethodHandle" ∧ yX11_text.cls ≠ "java/lang/invoke/VarHandle" ∧ (parseMethodDescriptor yX11_text.desc).map (fun d => d.parameters.length) = some 1 := by decide +kernel
set_option maxRecDepth 10000 in
theorem hX11_text_0 (l : Launch) {p : Program} {e : Env} {s : State} {m : MethodId} {args : Array Value} {below : List Frame} {meth : Method} {c : Code} {D : va_G} {ad adV : Nat → Nat} {cA : Nat → ClassId} {K : Kt} (C0 : Cx p s m args meth c D ad adV cA cX11_text 2 RX11) (hr : meth.sig.returnType = (some .int)) : ∀ q ∈ lX11_text_0, Sd p l e (rmd 10) s m args below meth c (MQ below (QQ D ad cA K) args s 0 0 (AA ad)) D ad cA 2 q.1 (opOf K q.2) := List.forall_mem_cons.mpr ⟨s_aload_n C0 dX11_text_0 rfl, List.forall_mem_cons.mpr ⟨s_iconst C0 dX11_text_1 rfl, List.forall_mem_cons.mpr ⟨s_iload_n C0 dX11_text_2 rfl, List.forall_mem_cons.mpr ⟨s_iconst C0 dX11_text_3 rfl, List.forall_mem_cons.mpr ⟨s_aload_n C0 dX11_text_4 rfl, List.forall_mem_cons.mpr ⟨s_get (ci := 11) (k := 5) C0 dX11_text_5 inX11 rfl (by decide) tw6_16, List.forall_mem_cons.mpr ⟨s_callS C0 (kX11_in l) dX11_text_8 qX11_in tw6_112 tw6_113 tw1_12 tw6_114 rfl (by decide) (by decide), List.forall_mem_cons.mpr ⟨s_callS C0 (kX11_unless_ l) dX11_text_11 qX11_unless_ tw6_115 tw6_116 tw1_12 tw6_117 rfl (by decide) (by decide), List.forall_mem_cons.mpr ⟨s_callV (ci := 11) C0 (kX11_isRefused l) dX11_text_14 rfl qX11_isRefused tw6_118 tw6_120 twp_41 tw1_12 tw6_121 rfl (by decide) (by decide), List.forall_mem_cons.mpr ⟨s_if_eq C0 dX11_text_17 rfl, List.forall_mem_cons.mpr ⟨s_iconst C0 dX11_text_20 rfl, List.forall_mem_cons.mpr ⟨s_iret C0 hr dX11_text_21, List.forall_mem_cons.mpr ⟨s_aload_n C0 dX11_text_22 rfl, List.forall_mem_cons.mpr ⟨s_iconst C0 dX11_text_23 rfl, List.forall_mem_cons.mpr ⟨s_putI (ci := 11) (k := 5) C0 dX11_text_24 inX11 tyX11_ok nmX11 rfl (by decide) rfl rfl tw6_16, List.forall_mem_cons.mpr ⟨s_aload_n C0 dX11_text_27 rfl, List.forall_mem_cons.mpr ⟨s_iconst C0 dX11_text_28 rfl, List.forall_mem_cons.mpr ⟨s_putI (ci := 11) (k := 2) C0 dX11_text_29 inX11 tyX11_ok nmX11 rfl (by decide) rfl rfl tw6_13, List.forall_mem_cons.mpr ⟨s_aload_n C0 dX11_text_32 rfl, List.forall_mem_cons.mpr ⟨s_iload_n C0 dX11_text_33 rfl, List.forall_mem_cons.mpr ⟨s_callV (ci := 11) C0 (kX11_readAll l) dX11_text_34 rfl qX11_readAll tw6_122 tw6_124 twp_42 tw1_12 tw6_125 rfl (by decide) (by decide), List.forall_mem_cons.mpr ⟨s_if_ne C0 dX11_text_37 rfl, List.forall_mem_cons.mpr ⟨s_aload_n C0 dX11_text_40 rfl, List.forall_mem_cons.mpr ⟨s_aload_n C0 dX11_text_41 rfl, List.forall_mem_cons.mpr ⟨s_get (ci := 11) (k := 17) C0 dX11_text_42 inX11 rfl (by decide) tw6_28, List.forall_mem_cons.mpr ⟨s_putI (ci := 11) (k := 2) C0 dX11_text_45 inX11 tyX11_ok nmX11 rfl (by decide) rfl rfl tw6_13, List.forall_mem_cons.mpr ⟨s_aload_n C0 dX11_text_48 rfl, List.forall_mem_cons.mpr ⟨s_aload_n C0 dX11_text_49 rfl, List.forall_mem_cons.mpr ⟨s_get (ci := 11) (k := 18) C0 dX11_text_50 inX11 rfl (by decide) tw6_29, List.forall_mem_cons.mpr ⟨s_putI (ci := 11) (k := 3) C0 dX11_text_53 inX11 tyX11_ok nmX11 rfl (by decide) rfl rfl tw6_14, List.forall_mem_cons.mpr ⟨s_aload_n C0 dX11_text_56 rfl, List.forall_mem_cons.mpr ⟨s_iconst C0 dX11_text_57 rfl, List.forall_mem_cons.mpr ⟨s_callV (ci := 11) C0 (kX11_no l) dX11_text_58 rfl qX11_no tw6_184 tw6_186 twp_55 tw1_12 tw6_187 rfl (by decide) (by decide), List.forall_mem_cons.mpr ⟨s_iret C0 hr dX11_text_61, List.forall_mem_cons.mpr ⟨s_aload_n C0 dX11_text_62 rfl, List.forall_mem_cons.mpr ⟨s_iconst C0 dX11_text_63 rfl, List.forall_mem_cons.mpr ⟨s_putZ (ci := 11) (k := 6) C0 dX11_text_64 inX11 tyX11_ok nmX11 rfl (by decide) rfl rfl tw6_17, List.forall_mem_cons.mpr ⟨s_aload_n C0 dX11_text_67 rfl, List.forall_mem_cons.mpr ⟨s_iconst C0 dX11_text_68 rfl, List.forall_mem_cons.mpr ⟨s_putI (ci := 11) (k := 24) C0 dX11_text_69 inX11 tyX11_ok nmX11 rfl (by decide) rfl rfl tw6_35, fun _ h => absurd h List.not_mem_nil⟩⟩⟩⟩⟩⟩⟩⟩⟩⟩⟩⟩⟩⟩⟩⟩⟩⟩⟩⟩⟩⟩⟩⟩⟩⟩⟩⟩⟩⟩⟩⟩⟩⟩⟩⟩⟩⟩⟩⟩
set_option maxRecDepth 10000 in
theorem hX11_text_1 (l : Launch) {p : Program} {e : Env} {s : State} {m : MethodId} {args : Array Value} {below : List Frame} {meth : Method} {c : Code} {D : va_G} {ad adV : Nat → Nat} {cA : Nat → ClassId} {K : Kt} (C0 : Cx p s m args meth c D ad adV cA cX11_text 2 RX11) (hr : meth.sig.returnType = (some .int)) : ∀ q ∈ lX11_text_1, Sd p l e (rmd 10) s m args below meth c (MQ below (QQ D ad cA K) args s 0 0 (AA ad)) D ad cA 2 q.1 (opOf K q.2) := List.forall_mem_cons.mpr ⟨s_aload_n C0 dX11_text_72 rfl, List.forall_mem_cons.mpr ⟨s_get (ci := 11) (k := 7) C0 dX11_text_73 inX11 rfl (by decide) tw6_18, List.forall_mem_cons.mpr ⟨s_iconst C0 dX11_text_76 rfl, List.forall_mem_cons.mpr ⟨s_aload_n C0 dX11_text_77 rfl, List.forall_mem_cons.mpr ⟨s_get (ci := 11) (k := 8) C0 dX11_text_78 inX11 rfl (by decide) tw6_19, List.forall_mem_cons.mpr ⟨s_iconst C0 dX11_text_81 rfl, List.forall_mem_cons.mpr ⟨s_sipush C0 dX11_text_82 (by decide +kernel), List.forall_mem_cons.mpr ⟨s_callS C0 (kX11_lays l) dX11_text_85 qX11_lays tw6_188 tw6_189 tw1_12 tw6_190 rfl (by decide) (by decide), List.forall_mem_cons.mpr ⟨s_aload_n C0 dX11_text_88 rfl, List.forall_mem_cons.mpr ⟨s_get (ci := 11) (k := 9) C0 dX11_text_89 inX11 rfl (by decide) tw6_20, List.forall_mem_cons.mpr ⟨s_iconst C0 dX11_text_92 rfl, List.forall_mem_cons.mpr ⟨s_aload_n C0 dX11_text_93 rfl, List.forall_mem_cons.mpr ⟨s_get (ci := 11) (k := 10) C0 dX11_text_94 inX11 rfl (by decide) tw6_21, List.forall_mem_cons.mpr ⟨s_iconst C0 dX11_text_97 rfl, List.forall_mem_cons.mpr ⟨s_bipush C0 dX11_text_98 (by decide +kernel), List.forall_mem_cons.mpr ⟨s_callS C0 (kX11_lays l) dX11_text_100 qX11_lays tw6_188 tw6_189 tw1_12 tw6_190 rfl (by decide) (by decide), List.forall_mem_cons.mpr ⟨s_aload_n C0 dX11_text_103 rfl, List.forall_mem_cons.mpr ⟨s_get (ci := 11) (k := 7) C0 dX11_text_104 inX11 rfl (by decide) tw6_18, List.forall_mem_cons.mpr ⟨s_iconst C0 dX11_text_107 rfl, List.forall_mem_cons.mpr ⟨s_iald C0 dX11_text_108, List.forall_mem_cons.mpr ⟨s_iret C0 hr dX11_text_109, fun _ h => absurd h List.not_mem_nil⟩⟩⟩⟩⟩⟩⟩⟩⟩⟩⟩⟩⟩⟩⟩⟩⟩⟩⟩⟩⟩
def fX11_text : Mf := mf 2 (fun K => tl K lX11_text)
theorem kX11_text (l : Launch) : Okm l yX11_text cX11_text 2 (some .int) 10 fX11_text := Okm_tl (own := RX11) (by decide +kernel) rfl (fun C0 hr => List.forall_mem_append.mpr ⟨hX11_text_0 l C0 hr, hX11_text_1 l C0 hr⟩)
theorem dX11_fault_0 : decode cX11_fault 0 = .ok (.aload_n 0, 1) := by decide +kernel
theorem dX11_fault_1 : decode cX11_fault 1 = .ok (.iconst 0, 1) := by decide +kernel
theorem dX11_fault_2 : decode cX11_fault 2 = .ok (.putfield 47, 3) := by decide +kernel
theorem dX11_fault_5 : decode cX11_fault 5 = .ok (.aload_n 0, 1) := by decide +kernel
theorem dX11_fault_6 : decode cX11_fault 6 = .ok (.getfield 162, 3) := by decide +kernel
theorem dX11_fault_9 : decode cX11_fault 9 = .ok (.ireturn, 1) := by decide +kernel
def lX11_fault : List (Nat × (Op ⊕ Nat)) := [(0, .inl (o_aload 0 1)), (1, .inl (o_pushI (nI 0) 2)), (2, .inl (o_putI 11 0 5)), (5, .inl (o_aload 0 6)), (6, .inl (o_get 11 2 9)), (9, .inr 0)]
theorem qX11_fault : yX11_fault.cls = RX11 ∧ yX11_fault.cls ≠ "java/lang/invoke/MethodHandle" ∧ yX11_fault.cls ≠ "java/lang/invoke/VarHandle" ∧ (parseMethodDescriptor yX11_fault.desc).map (fun d => d.parameters.length) = some 0 := by decide +kernel
set_option maxRecDepth 10000 in
theorem hX11_fault_0 (l : Launch) {p : Program} {e : Env} {s : State} {m : MethodId} {args : Array Value} {below : List Frame} {meth : Method} {c : Code} {D : va_G} {ad adV : Nat → Nat} {cA : Nat → ClassId} {K : Kt} (C0 : Cx p s m args meth c D ad adV cA cX11_fault 1 RX11) (hr : meth.sig.returnType = (some .int)) : ∀ q ∈ lX11_fault, Sd p l e (rmd 0) s m args below meth c (MQ below (QQ D ad cA K) args s 0 0 (AA ad)) D ad cA 1 q.1 (opOf K q.2) := List.forall_mem_cons.mpr ⟨s_aload_n C0 dX11_fault_0 rfl, List.forall_mem_cons.mpr ⟨s_iconst C0 dX11_fault_1 rfl, List.forall_mem_cons.mpr ⟨s_putI (ci := 11) (k := 0) C0 dX11_fault_2 inX11 tyX11_ok nmX11 rfl (by decide) rfl rfl tw6_11, List.forall_mem_cons.mpr ⟨s_aload_n C0 dX11_fault_5 rfl, List.forall_mem_cons.mpr ⟨s_get (ci := 11) (k := 2) C0 dX11_fault_6 inX11 rfl (by decide) tw6_13, List.forall_mem_cons.mpr ⟨s_iret C0 hr dX11_fault_9, fun _ h => absurd h List.not_mem_nil⟩⟩⟩⟩⟩⟩
def fX11_fault : Mf := mf 1 (fun K => tl K lX11_fault)
theorem kX11_fault (l : Launch) : Okm l yX11_fault cX11_fault 1 (some .int) 0 fX11_fault := Okm_tl (own := RX11) (by decide +kernel) rfl (fun C0 hr => hX11_fault_0 l C0 hr)
theorem dX11_where_0 : decode cX11_where 0 = .ok (.aload_n 0, 1) := by decide +kernel
theorem dX11_where_1 : decode cX11_where 1 = .ok (.iconst 0, 1) := by decide +kernel
theorem dX11_where_2 : decode cX11_where 2 = .ok (.putfield 47, 3) := by decide +kernel
theorem dX11_where_5 : decode cX11_where 5 = .ok (.aload_n 0, 1) := by decide +kernel
theorem dX11_where_6 : decode cX11_where 6 = .ok (.getfield 50, 3) := by decide +kernel
theorem dX11_where_9 : decode cX11_where 9 = .ok (.iconst 4, 1) := by decide +kernel
theorem dX11_where_10 : decode cX11_where 10 = .ok (.if_icmp .ne 10, 3) := by decide +kernel
theorem dX11_where_13 : decode cX11_where 13 = .ok (.aload_n 0, 1) := by decide +kernel
theorem dX11_where_14 : decode cX11_where 14 = .ok (.getfield 9, 3) := by decide +kernel
theorem dX11_where_17 : decode cX11_where 17 = .ok (.goto 4, 3) := by decide +kernel
theorem dX11_where_20 : decode cX11_where 20 = .ok (.iconst (-1), 1) := by decide +kernel
theorem dX11_where_21 : decode cX11_where 21 = .ok (.ireturn, 1) := by decide +kernel
def lX11_where : List (Nat × (Op ⊕ Nat)) := [(0, .inl (o_aload 0 1)), (1, .inl (o_pushI (nI 0) 2)), (2, .inl (o_putI 11 0 5)), (5, .inl (o_aload 0 6)), (6, .inl (o_get 11 1 9)), (9, .inl (o_pushI (nI 4) 10)), (10, .inl (o_icmp_ne 20 13)), (13, .inl (o_aload 0 14)), (14, .inl (o_get 11 3 17)), (17, .inl (o_goto 21)), (20, .inl (o_pushI ((-1)) 21)), (21, .inr 0)]
theorem qX11_where : yX11_where.cls = RX11 ∧ yX11_where.cls ≠ "java/lang/invoke/MethodHandle" ∧ yX11_where.cls ≠ "java/lang/invoke/VarHandle" ∧ (parseMethodDescriptor yX11_where.desc).map (fun d => d.parameters.length) = some 0 := by decide +kernel
set_option maxRecDepth 10000 in
theorem hX11_where_0 (l : Launch) {p : Program} {e : Env} {s : State} {m : MethodId} {args : Array Value} {below : List Frame} {meth : Method} {c : Code} {D : va_G} {ad adV : Nat → Nat} {cA : Nat → ClassId} {K : Kt} (C0 : Cx p s m args meth c D ad adV cA cX11_where 1 RX11) (hr : meth.sig.returnType = (some .int)) : ∀ q ∈ lX11_where, Sd p l e (rmd 0) s m args below meth c (MQ below (QQ D ad cA K) args s 0 0 (AA ad)) D ad cA 1 q.1 (opOf K q.2) := List.forall_mem_cons.mpr ⟨s_aload_n C0 dX11_where_0 rfl, List.forall_mem_cons.mpr ⟨s_iconst C0 dX11_where_1 rfl, List.forall_mem_cons.mpr ⟨s_putI (ci := 11) (k := 0) C0 dX11_where_2 inX11 tyX11_ok nmX11 rfl (by decide) rfl rfl tw6_11, List.forall_mem_cons.mpr ⟨s_aload_n C0 dX11_where_5 rfl, List.forall_mem_cons.mpr ⟨s_get (ci := 11) (k := 1) C0 dX11_where_6 inX11 rfl (by decide) tw6_12, List.forall_mem_cons.mpr ⟨s_iconst C0 dX11_where_9 rfl, List.forall_mem_cons.mpr ⟨s_icmp_ne C0 dX11_where_10 rfl, List.forall_mem_cons.mpr ⟨s_aload_n C0 dX11_where_13 rfl, List.forall_mem_cons.mpr ⟨s_get (ci := 11) (k := 3) C0 dX11_where_14 inX11 rfl (by decide) tw6_14, List.forall_mem_cons.mpr ⟨s_goto C0 dX11_where_17 rfl, List.forall_mem_cons.mpr ⟨s_iconst C0 dX11_where_20 rfl, List.forall_mem_cons.mpr ⟨s_iret C0 hr dX11_where_21, fun _ h => absurd h List.not_mem_nil⟩⟩⟩⟩⟩⟩⟩⟩⟩⟩⟩⟩
def fX11_where : Mf := mf 1 (fun K => tl K lX11_where)
theorem kX11_where (l : Launch) : Okm l yX11_where cX11_where 1 (some .int) 0 fX11_where := Okm_tl (own := RX11) (by decide +kernel) rfl (fun C0 hr => hX11_where_0 l C0 hr)
theorem dX11_isArm_0 : decode cX11_isArm 0 = .ok (.iload_n 1, 1) := by decide +kernel
theorem dX11_isArm_1 : decode cX11_isArm 1 = .ok (.iconst 0, 1) := by decide +kernel
theorem dX11_isArm_2 : decode cX11_isArm 2 = .ok (.aload_n 0, 1) := by decide +kernel
theorem dX11_isArm_3 : decode cX11_isArm 3 = .ok (.getfield 17, 3) := by decide +kernel
theorem dX11_isArm_6 : decode cX11_isArm 6 = .ok (.iconst 0, 1) := by decide +kernel
theorem dX11_isArm_7 : decode cX11_isArm 7 = .ok (.iaload, 1) := by decide +kernel
theorem dX11_isArm_8 : decode cX11_isArm 8 = .ok (.iconst 1, 1) := by decide +kernel
theorem dX11_isArm_9 : decode cX11_isArm 9 = .ok (.isub, 1) := by decide +kernel
theorem dX11_isArm_10 : decode cX11_isArm 10 = .ok (.invokestatic 76, 3) := by decide +kernel
theorem dX11_isArm_13 : decode cX11_isArm 13 = .ok (.ireturn, 1) := by decide +kernel
def lX11_isArm : List (Nat × (Op ⊕ Nat)) := [(0, .inl (o_iload 1 1)), (1, .inl (o_pushI (nI 0) 2)), (2, .inl (o_aload 0 3)), (3, .inl (o_get 11 7 6)), (6, .inl (o_pushI (nI 0) 7)), (7, .inl (o_iald 8)), (8, .inl (o_pushI (nI 1) 9)), (9, .inl (o_isub 10)), (10, .inl (o_callS fX11_in 3 13)), (13, .inr 1)]
theorem qX11_isArm : yX11_isArm.cls = RX11 ∧ yX11_isArm.cls ≠ "java/lang/invoke/MethodHandle" ∧ yX11_isArm.cls ≠ "java/lang/invoke/VarHandle" ∧ (parseMethodDescriptor yX11_isArm.desc).map (fun d => d.parameters.length) = some 1 := by decide +kernel
set_option maxRecDepth 10000 in
theorem hX11_isArm_0 (l : Launch) {p : Program} {e : Env} {s : State} {m : MethodId} {args : Array Value} {below : List Frame} {meth : Method} {c : Code} {D : va_G} {ad adV : Nat → Nat} {cA : Nat → ClassId} {K : Kt} (C0 : Cx p s m args meth c D ad adV cA cX11_isArm 2 RX11) (hr : meth.sig.returnType = (some .boolean)) : ∀ q ∈ lX11_isArm, Sd p l e (rmd 1) s m args below meth c (MQ below (QQ D ad cA K) args s 0 0 (AA ad)) D ad cA 2 q.1 (opOf K q.2) := List.forall_mem_cons.mpr ⟨s_iload_n C0 dX11_isArm_0 rfl, List.forall_mem_cons.mpr ⟨s_iconst C0 dX11_isArm_1 rfl, List.forall_mem_cons.mpr ⟨s_aload_n C0 dX11_isArm_2 rfl, List.forall_mem_cons.mpr ⟨s_get (ci := 11) (k := 7) C0 dX11_isArm_3 inX11 rfl (by decide) tw6_18, List.forall_mem_cons.mpr ⟨s_iconst C0 dX11_isArm_6 rfl, List.forall_mem_cons.mpr ⟨s_iald C0 dX11_isArm_7, List.forall_mem_cons.mpr ⟨s_iconst C0 dX11_isArm_8 rfl, List.forall_mem_cons.mpr ⟨s_isub C0 dX11_isArm_9, List.forall_mem_cons.mpr ⟨s_callS C0 (kX11_in l) dX11_isArm_10 qX11_in tw6_112 tw6_113 tw1_12 tw6_114 rfl (by decide) (by decide), List.forall_mem_cons.mpr ⟨s_zret C0 hr dX11_isArm_13, fun _ h => absurd h List.not_mem_nil⟩⟩⟩⟩⟩⟩⟩⟩⟩⟩
def fX11_isArm : Mf := mf 2 (fun K => tl K lX11_isArm)
theorem kX11_isArm (l : Launch) : Okm l yX11_isArm cX11_isArm 2 (some .boolean) 1 fX11_isArm := Okm_tl (own := RX11) (by decide +kernel) rfl (fun C0 hr => hX11_isArm_0 l C0 hr)
theorem dX11_isGame_0 : decode cX11_isGame 0 = .ok (.iload_n 1, 1) := by decide +kernel
theorem dX11_isGame_1 : decode cX11_isGame 1 = .ok (.iconst 0, 1) := by decide +kernel
theorem dX11_isGame_2 : decode cX11_isGame 2 = .ok (.aload_n 0, 1) := by decide +kernel
theorem dX11_isGame_3 : decode cX11_isGame 3 = .ok (.getfield 17, 3) := by decide +kernel
theorem dX11_isGame_6 : decode cX11_isGame 6 = .ok (.iconst 1, 1) := by decide +kernel
theorem dX11_isGame_7 : decode cX11_isGame 7 = .ok (.iaload, 1) := by decide +kernel
theorem dX11_isGame_8 : decode cX11_isGame 8 = .ok (.iconst 1, 1) := by decide +kernel
theorem dX11_isGame_9 : decode cX11_isGame 9 = .ok (.isub, 1) := by decide +kernel
theorem dX11_isGame_10 : decode cX11_isGame 10 = .ok (.invokestatic 76, 3) := by decide +kernel
theorem dX11_isGame_13 : decode cX11_isGame 13 = .ok (.ireturn, 1) := by decide +kernel
def lX11_isGame : List (Nat × (Op ⊕ Nat)) := [(0, .inl (o_iload 1 1)), (1, .inl (o_pushI (nI 0) 2)), (2, .inl (o_aload 0 3)), (3, .inl (o_get 11 7 6)), (6, .inl (o_pushI (nI 1) 7)), (7, .inl (o_iald 8)), (8, .inl (o_pushI (nI 1) 9)), (9, .inl (o_isub 10)), (10, .inl (o_callS fX11_in 3 13)), (13, .inr 1)]
theorem qX11_isGame : yX11_isGame.cls = RX11 ∧ yX11_isGame.cls ≠ "java/lang/invoke/MethodHandle" ∧ yX11_isGame.cls ≠ "java/lang/invoke/VarHandle" ∧ (parseMethodDescriptor yX11_isGame.desc).map (fun d => d.parameters.length) = some 1 := by decide +kernel
set_option maxRecDepth 10000 in
theorem hX11_isGame_0 (l : Launch) {p : Program} {e : Env} {s : State} {m : MethodId} {args : Array Value} {below : List Frame} {meth : Method} {c : Code} {D : va_G} {ad adV : Nat → Nat} {cA : Nat → ClassId} {K : Kt} (C0 : Cx p s m args meth c D ad adV cA cX11_isGame 2 RX11) (hr : meth.sig.returnType = (some .boolean)) : ∀ q ∈ lX11_isGame, Sd p l e (rmd 1) s m args below meth c (MQ below (QQ D ad cA K) args s 0 0 (AA ad)) D ad cA 2 q.1 (opOf K q.2) := List.forall_mem_cons.mpr ⟨s_iload_n C0 dX11_isGame_0 rfl, List.forall_mem_cons.mpr ⟨s_iconst C0 dX11_isGame_1 rfl, List.forall_mem_cons.mpr ⟨s_aload_n C0 dX11_isGame_2 rfl, List.forall_mem_cons.mpr ⟨s_get (ci := 11) (k := 7) C0 dX11_isGame_3 inX11 rfl (by decide) tw6_18, List.forall_mem_cons.mpr ⟨s_iconst C0 dX11_isGame_6 rfl, List.forall_mem_cons.mpr ⟨s_iald C0 dX11_isGame_7, List.forall_mem_cons.mpr ⟨s_iconst C0 dX11_isGame_8 rfl, List.forall_mem_cons.mpr ⟨s_isub C0 dX11_isGame_9, List.forall_mem_cons.mpr ⟨s_callS C0 (kX11_in l) dX11_isGame_10 qX11_in tw6_112 tw6_113 tw1_12 tw6_114 rfl (by decide) (by decide), List.forall_mem_cons.mpr ⟨s_zret C0 hr dX11_isGame_13, fun _ h => absurd h List.not_mem_nil⟩⟩⟩⟩⟩⟩⟩⟩⟩⟩
def fX11_isGame : Mf := mf 2 (fun K => tl K lX11_isGame)
theorem kX11_isGame (l : Launch) : Okm l yX11_isGame cX11_isGame 2 (some .boolean) 1 fX11_isGame := Okm_tl (own := RX11) (by decide +kernel) rfl (fun C0 hr => hX11_isGame_0 l C0 hr)
theorem dX11_outingsAll_0 : decode cX11_outingsAll 0 = .ok (.iconst 0, 1) := by decide +kernel
theorem dX11_outingsAll_1 : decode cX11_outingsAll 1 = .ok (.istore_n 1, 1) := by decide +kernel
theorem dX11_outingsAll_2 : decode cX11_outingsAll 2 = .ok (.iconst 0, 1) := by decide +kernel
theorem dX11_outingsAll_3 : decode cX11_outingsAll 3 = .ok (.istore_n 2, 1) := by decide +kernel
theorem dX11_outingsAll_4 : decode cX11_outingsAll 4 = .ok (.iload_n 2, 1) := by decide +kernel
theorem dX11_outingsAll_5 : decode cX11_outingsAll 5 = .ok (.aload_n 0, 1) := by decide +kernel
theorem dX11_outingsAll_6 : decode cX11_outingsAll 6 = .ok (.getfield 17, 3) := by decide +kernel
theorem dX11_outingsAll_9 : decode cX11_outingsAll 9 = .ok (.iconst 1, 1) := by decide +kernel
theorem dX11_outingsAll_10 : decode cX11_outingsAll 10 = .ok (.iaload, 1) := by decide +kernel
theorem dX11_outingsAll_11 : decode cX11_outingsAll 11 = .ok (.if_icmp .ge 21, 3) := by decide +kernel
theorem dX11_outingsAll_14 : decode cX11_outingsAll 14 = .ok (.iload_n 1, 1) := by decide +kernel
theorem dX11_outingsAll_15 : decode cX11_outingsAll 15 = .ok (.aload_n 0, 1) := by decide +kernel
theorem dX11_outingsAll_16 : decode cX11_outingsAll 16 = .ok (.getfield 17, 3) := by decide +kernel
theorem dX11_outingsAll_19 : decode cX11_outingsAll 19 = .ok (.bipush 106, 2) := by decide +kernel
theorem dX11_outingsAll_21 : decode cX11_outingsAll 21 = .ok (.iload_n 2, 1) := by decide +kernel
theorem dX11_outingsAll_22 : decode cX11_outingsAll 22 = .ok (.iadd, 1) := by decide +kernel
theorem dX11_outingsAll_23 : decode cX11_outingsAll 23 = .ok (.iaload, 1) := by decide +kernel
theorem dX11_outingsAll_24 : decode cX11_outingsAll 24 = .ok (.iadd, 1) := by decide +kernel
theorem dX11_outingsAll_25 : decode cX11_outingsAll 25 = .ok (.istore_n 1, 1) := by decide +kernel
theorem dX11_outingsAll_26 : decode cX11_outingsAll 26 = .ok (.iinc 2 1, 3) := by decide +kernel
theorem dX11_outingsAll_29 : decode cX11_outingsAll 29 = .ok (.goto (-25), 3) := by decide +kernel
theorem dX11_outingsAll_32 : decode cX11_outingsAll 32 = .ok (.iload_n 1, 1) := by decide +kernel
theorem dX11_outingsAll_33 : decode cX11_outingsAll 33 = .ok (.ireturn, 1) := by decide +kernel
def lX11_outingsAll : List (Nat × (Op ⊕ Nat)) := [(0, .inl (o_pushI (nI 0) 1)), (1, .inl (o_istore 1 2)), (2, .inl (o_pushI (nI 0) 3)), (3, .inl (o_istore 2 4)), (4, .inl (o_iload 2 5)), (5, .inl (o_aload 0 6)), (6, .inl (o_get 11 7 9)), (9, .inl (o_pushI (nI 1) 10)), (10, .inl (o_iald 11)), (11, .inl (o_icmp_ge 32 14)), (14, .inl (o_iload 1 15)), (15, .inl (o_aload 0 16)), (16, .inl (o_get 11 7 19)), (19, .inl (o_pushI (nI 106) 21)), (21, .inl (o_iload 2 22)), (22, .inl (o_iadd 23)), (23, .inl (o_iald 24)), (24, .inl (o_iadd 25)), (25, .inl (o_istore 1 26)), (26, .inl (o_iinc 2 (nI 1) 29)), (29, .inl (o_goto 4)), (32, .inl (o_iload 1 33)), (33, .inr 0)]
theorem qX11_outingsAll : yX11_outingsAll.cls = RX11 ∧ yX11_outingsAll.cls ≠ "java/lang/invoke/MethodHandle" ∧ yX11_outingsAll.cls ≠ "java/lang/invoke/VarHandle" ∧ (parseMethodDescriptor yX11_outingsAll.desc).map (fun d => d.parameters.length) = some 0 := by decide +kernel
set_option maxRecDepth 10000 in
theorem hX11_outingsAll_0 (l : Launch) {p : Program} {e : Env} {s : State} {m : MethodId} {args : Array Value} {below : List Frame} {meth : Method} {c : Code} {D : va_G} {ad adV : Nat → Nat} {cA : Nat → ClassId} {K : Kt} (C0 : Cx p s m args meth c D ad adV cA cX11_outingsAll 3 RX11) (hr : meth.sig.returnType = (some .int)) : ∀ q ∈ lX11_outingsAll, Sd p l e (rmd 0) s m args below meth c (MQ below (QQ D ad cA K) args s 0 0 (AA ad)) D ad cA 3 q.1 (opOf K q.2) := List.forall_mem_cons.mpr ⟨s_iconst C0 dX11_outingsAll_0 rfl, List.forall_mem_cons.mpr ⟨s_istore_n C0 dX11_outingsAll_1 rfl (by decide), List.forall_mem_cons.mpr ⟨s_iconst C0 dX11_outingsAll_2 rfl, List.forall_mem_cons.mpr ⟨s_istore_n C0 dX11_outingsAll_3 rfl (by decide), List.forall_mem_cons.mpr ⟨s_iload_n C0 dX11_outingsAll_4 rfl, List.forall_mem_cons.mpr ⟨s_aload_n C0 dX11_outingsAll_5 rfl, List.forall_mem_cons.mpr ⟨s_get (ci := 11) (k := 7) C0 dX11_outingsAll_6 inX11 rfl (by decide) tw6_18, List.forall_mem_cons.mpr ⟨s_iconst C0 dX11_outingsAll_9 rfl, List.forall_mem_cons.mpr ⟨s_iald C0 dX11_outingsAll_10, List.forall_mem_cons.mpr ⟨s_icmp_ge C0 dX11_outingsAll_11 rfl, List.forall_mem_cons.mpr ⟨s_iload_n C0 dX11_outingsAll_14 rfl, List.forall_mem_cons.mpr ⟨s_aload_n C0 dX11_outingsAll_15 rfl, List.forall_mem_cons.mpr ⟨s_get (ci := 11) (k := 7) C0 dX11_outingsAll_16 inX11 rfl (by decide) tw6_18, List.forall_mem_cons.mpr ⟨s_bipush C0 dX11_outingsAll_19 (by decide +kernel), List.forall_mem_cons.mpr ⟨s_iload_n C0 dX11_outingsAll_21 rfl, List.forall_mem_cons.mpr ⟨s_iadd C0 dX11_outingsAll_22, List.forall_mem_cons.mpr ⟨s_iald C0 dX11_outingsAll_23, List.forall_mem_cons.mpr ⟨s_iadd C0 dX11_outingsAll_24, List.forall_mem_cons.mpr ⟨s_istore_n C0 dX11_outingsAll_25 rfl (by decide), List.forall_mem_cons.mpr ⟨s_iinc C0 dX11_outingsAll_26 rfl (by decide), List.forall_mem_cons.mpr ⟨s_goto C0 dX11_outingsAll_29 rfl, List.forall_mem_cons.mpr ⟨s_iload_n C0 dX11_outingsAll_32 rfl, List.forall_mem_cons.mpr ⟨s_iret C0 hr dX11_outingsAll_33, fun _ h => absurd h List.not_mem_nil⟩⟩⟩⟩⟩⟩⟩⟩⟩⟩⟩⟩⟩⟩⟩⟩⟩⟩⟩⟩⟩⟩⟩
def fX11_outingsAll : Mf := mf 3 (fun K => tl K lX11_outingsAll)
theorem kX11_outingsAll (l : Launch) : Okm l yX11_outingsAll cX11_outingsAll 3 (some .int) 0 fX11_outingsAll := Okm_tl (own := RX11) (by decide +kernel) rfl (fun C0 hr => hX11_outingsAll_0 l C0 hr)
theorem dX11_about_0 : decode cX11_about 0 = .ok (.aload_n 0, 1) := by decide +kernel
theorem dX11_about_1 : decode cX11_about 1 = .ok (.aload_n 0, 1) := by decide +kernel
theorem dX11_about_2 : decode cX11_about 2 = .ok (.getfield 171, 3) := by decide +kernel
theorem dX11_about_5 : decode cX11_about 5 = .ok (.ifCond .eq 17, 3) := by decide +kernel
theorem dX11_about_8 : decode cX11_about 8 = .ok (.iload_n 1, 1) := by decide +kernel
theorem dX11_about_9 : decode cX11_about 9 = .ok (.iconst 0, 1) := by decide +kernel
theorem dX11_about_10 : decode cX11_about 10 = .ok (.bipush 7, 2) := by decide +kernel
theorem dX11_about_12 : decode cX11_about 12 = .ok (.invokestatic 76, 3) := by decide +kernel
theorem dX11_about_15 : decode cX11_about 15 = .ok (.ifCond .eq 7, 3) := by decide +kernel
theorem dX11_about_18 : decode cX11_about 18 = .ok (.iconst 1, 1) := by decide +kernel
theorem dX11_about_19 : decode cX11_about 19 = .ok (.goto 4, 3) := by decide +kernel
theorem dX11_about_22 : decode cX11_about 22 = .ok (.iconst 0, 1) := by decide +kernel
theorem dX11_about_23 : decode cX11_about 23 = .ok (.invokestatic 182, 3) := by decide +kernel
theorem dX11_about_26 : decode cX11_about 26 = .ok (.invokevirtual 159, 3) := by decide +kernel
theorem dX11_about_29 : decode cX11_about 29 = .ok (.ifCond .eq 5, 3) := by decide +kernel
theorem dX11_about_32 : decode cX11_about 32 = .ok (.iconst (-1), 1) := by decide +kernel
theorem dX11_about_33 : decode cX11_about 33 = .ok (.ireturn, 1) := by decide +kernel
theorem dX11_about_34 : decode cX11_about 34 = .ok (.iload_n 1, 1) := by decide +kernel
theorem dX11_about_35 : decode cX11_about 35 = .ok (.tableswitch 88 0 6 #[41, 48, 55, 60, 67, 74, 81], 41) := by decide +kernel
theorem dX11_about_76 : decode cX11_about 76 = .ok (.aload_n 0, 1) := by decide +kernel
theorem dX11_about_77 : decode cX11_about 77 = .ok (.getfield 17, 3) := by decide +kernel
theorem dX11_about_80 : decode cX11_about 80 = .ok (.iconst 0, 1) := by decide +kernel
theorem dX11_about_81 : decode cX11_about 81 = .ok (.iaload, 1) := by decide +kernel
theorem dX11_about_82 : decode cX11_about 82 = .ok (.ireturn, 1) := by decide +kernel
theorem dX11_about_83 : decode cX11_about 83 = .ok (.aload_n 0, 1) := by decide +kernel
theorem dX11_about_84 : decode cX11_about 84 = .ok (.getfield 17, 3) := by decide +kernel
theorem dX11_about_87 : decode cX11_about 87 = .ok (.iconst 1, 1) := by decide +kernel
theorem dX11_about_88 : decode cX11_about 88 = .ok (.iaload, 1) := by decide +kernel
theorem dX11_about_89 : decode cX11_about 89 = .ok (.ireturn, 1) := by decide +kernel
theorem dX11_about_90 : decode cX11_about 90 = .ok (.aload_n 0, 1) := by decide +kernel
theorem dX11_about_91 : decode cX11_about 91 = .ok (.invokevirtual 185, 3) := by decide +kernel
theorem dX11_about_94 : decode cX11_about 94 = .ok (.ireturn, 1) := by decide +kernel
theorem dX11_about_95 : decode cX11_about 95 = .ok (.aload_n 0, 1) := by decide +kernel
theorem dX11_about_96 : decode cX11_about 96 = .ok (.getfield 17, 3) := by decide +kernel
theorem dX11_about_99 : decode cX11_about 99 = .ok (.iconst 3, 1) := by decide +kernel
theorem dX11_about_100 : decode cX11_about 100 = .ok (.iaload, 1) := by decide +kernel
theorem dX11_about_101 : decode cX11_about 101 = .ok (.ireturn, 1) := by decide +kernel
theorem dX11_about_102 : decode cX11_about 102 = .ok (.aload_n 0, 1) := by decide +kernel
theorem dX11_about_103 : decode cX11_about 103 = .ok (.getfield 17, 3) := by decide +kernel
theorem dX11_about_106 : decode cX11_about 106 = .ok (.iconst 4, 1) := by decide +kernel
theorem dX11_about_107 : decode cX11_about 107 = .ok (.iaload, 1) := by decide +kernel
theorem dX11_about_108 : decode cX11_about 108 = .ok (.ireturn, 1) := by decide +kernel
theorem dX11_about_109 : decode cX11_about 109 = .ok (.aload_n 0, 1) := by decide +kernel
theorem dX11_about_110 : decode cX11_about 110 = .ok (.getfield 17, 3) := by decide +kernel
theorem dX11_about_113 : decode cX11_about 113 = .ok (.iconst 5, 1) := by decide +kernel
theorem dX11_about_114 : decode cX11_about 114 = .ok (.iaload, 1) := by decide +kernel
theorem dX11_about_115 : decode cX11_about 115 = .ok (.ireturn, 1) := by decide +kernel
theorem dX11_about_116 : decode cX11_about 116 = .ok (.aload_n 0, 1) := by decide +kernel
theorem dX11_about_117 : decode cX11_about 117 = .ok (.getfield 17, 3) := by decide +kernel
theorem dX11_about_120 : decode cX11_about 120 = .ok (.iconst 2, 1) := by decide +kernel
theorem dX11_about_121 : decode cX11_about 121 = .ok (.iaload, 1) := by decide +kernel
theorem dX11_about_122 : decode cX11_about 122 = .ok (.ireturn, 1) := by decide +kernel
theorem dX11_about_123 : decode cX11_about 123 = .ok (.aload_n 0, 1) := by decide +kernel
theorem dX11_about_124 : decode cX11_about 124 = .ok (.getfield 175, 3) := by decide +kernel
theorem dX11_about_127 : decode cX11_about 127 = .ok (.ireturn, 1) := by decide +kernel
def lX11_about_0 : List (Nat × (Op ⊕ Nat)) := [(0, .inl (o_aload 0 1)), (1, .inl (o_aload 0 2)), (2, .inl (o_get 11 6 5)), (5, .inl (o_if_eq 22 8)), (8, .inl (o_iload 1 9)), (9, .inl (o_pushI (nI 0) 10)), (10, .inl (o_pushI (nI 7) 12)), (12, .inl (o_callS fX11_in 3 15)), (15, .inl (o_if_eq 22 18)), (18, .inl (o_pushI (nI 1) 19)), (19, .inl (o_goto 23)), (22, .inl (o_pushI (nI 0) 23)), (23, .inl (o_callS fX11_unless 1 26)), (26, .inl (o_callV fX11_isRefused 1 11 29)), (29, .inl (o_if_eq 34 32)), (32, .inl (o_pushI ((-1)) 33)), (33, .inr 0), (34, .inl (o_iload 1 35)), (35, .inl (o_table 0 6 123 [76, 83, 90, 95, 102, 109, 116])), (76, .inl (o_aload 0 77)), (77, .inl (o_get 11 7 80)), (80, .inl (o_pushI (nI 0) 81)), (81, .inl (o_iald 82)), (82, .inr 0), (83, .inl (o_aload 0 84)), (84, .inl (o_get 11 7 87)), (87, .inl (o_pushI (nI 1) 88)), (88, .inl (o_iald 89)), (89, .inr 0), (90, .inl (o_aload 0 91)), (91, .inl (o_callV fX11_outingsAll 0 11 94)), (94, .inr 0), (95, .inl (o_aload 0 96)), (96, .inl (o_get 11 7 99)), (99, .inl (o_pushI (nI 3) 100)), (100, .inl (o_iald 101)), (101, .inr 0), (102, .inl (o_aload 0 103)), (103, .inl (o_get 11 7 106)), (106, .inl (o_pushI (nI 4) 107))]
def lX11_about_1 : List (Nat × (Op ⊕ Nat)) := [(107, .inl (o_iald 108)), (108, .inr 0), (109, .inl (o_aload 0 110)), (110, .inl (o_get 11 7 113)), (113, .inl (o_pushI (nI 5) 114)), (114, .inl (o_iald 115)), (115, .inr 0), (116, .inl (o_aload 0 117)), (117, .inl (o_get 11 7 120)), (120, .inl (o_pushI (nI 2) 121)), (121, .inl (o_iald 122)), (122, .inr 0), (123, .inl (o_aload 0 124)), (124, .inl (o_get 11 24 127)), (127, .inr 0)]
def lX11_about : List (Nat × (Op ⊕ Nat)) := lX11_about_0 ++ (lX11_about_1)
theorem qX11_about : yX11_about.cls = RX11 ∧ yX11_about.cls ≠ "java/lang/invoke/MethodHandle" ∧ yX11_about.cls ≠ "java/lang/invoke/VarHandle" ∧ (parseMethodDescriptor yX11_about.desc).map (fun d => d.parameters.length) = some 1 := by decide +kernel
set_option maxRecDepth 10000 in
theorem hX11_about_0 (l : Launch) {p : Program} {e : Env} {s : State} {m : MethodId} {args : Array Value} {below : List Frame} {meth : Method} {c : Code} {D : va_G} {ad adV : Nat → Nat} {cA : Nat → ClassId} {K : Kt} (C0 : Cx p s m args meth c D ad adV cA cX11_about 2 RX11) (hr : meth.sig.returnType = (some .int)) : ∀ q ∈ lX11_about_0, Sd p l e (rmd 1) s m args below meth c (MQ below (QQ D ad cA K) args s 0 0 (AA ad)) D ad cA 2 q.1 (opOf K q.2) := List.forall_mem_cons.mpr ⟨s_aload_n C0 dX11_about_0 rfl, List.forall_mem_cons.mpr ⟨s_aload_n C0 dX11_about_1 rfl, List.forall_mem_cons.mpr ⟨s_get (ci := 11) (k := 6) C0 dX11_about_2 inX11 rfl (by decide) tw6_17, List.forall_mem_cons.mpr ⟨s_if_eq C0 dX11_about_5 rfl, List.forall_mem_cons.mpr ⟨s_iload_n C0 dX11_about_8 rfl, List.forall_mem_cons.mpr ⟨s_iconst C0 dX11_about_9 rfl, List.forall_mem_cons.mpr ⟨s_bipush C0 dX11_about_10 (by decide +kernel), List.forall_mem_cons.mpr ⟨s_callS C0 (kX11_in l) dX11_about_12 qX11_in tw6_112 tw6_113 tw1_12 tw6_114 rfl (by decide) (by decide), List.forall_mem_cons.mpr ⟨s_if_eq C0 dX11_about_15 rfl, List.forall_mem_cons.mpr ⟨s_iconst C0 dX11_about_18 rfl, List.forall_mem_cons.mpr ⟨s_goto C0 dX11_about_19 rfl, List.forall_mem_cons.mpr ⟨s_iconst C0 dX11_about_22 rfl, List.forall_mem_cons.mpr ⟨s_callS C0 (kX11_unless l) dX11_about_23 qX11_unless tw6_203 tw6_204 tw1_12 tw6_205 rfl (by decide) (by decide), List.forall_mem_cons.mpr ⟨s_callV (ci := 11) C0 (kX11_isRefused l) dX11_about_26 rfl qX11_isRefused tw6_118 tw6_120 twp_41 tw1_12 tw6_121 rfl (by decide) (by decide), List.forall_mem_cons.mpr ⟨s_if_eq C0 dX11_about_29 rfl, List.forall_mem_cons.mpr ⟨s_iconst C0 dX11_about_32 rfl, List.forall_mem_cons.mpr ⟨s_iret C0 hr dX11_about_33, List.forall_mem_cons.mpr ⟨s_iload_n C0 dX11_about_34 rfl, List.forall_mem_cons.mpr ⟨s_table C0 dX11_about_35 rfl rfl rfl, List.forall_mem_cons.mpr ⟨s_aload_n C0 dX11_about_76 rfl, List.forall_mem_cons.mpr ⟨s_get (ci := 11) (k := 7) C0 dX11_about_77 inX11 rfl (by decide) tw6_18, List.forall_mem_cons.mpr ⟨s_iconst C0 dX11_about_80 rfl, List.forall_mem_cons.mpr ⟨s_iald C0 dX11_about_81, List.forall_mem_cons.mpr ⟨s_iret C0 hr dX11_about_82, List.forall_mem_cons.mpr ⟨s_aload_n C0 dX11_about_83 rfl, List.forall_mem_cons.mpr ⟨s_get (ci := 11) (k := 7) C0 dX11_about_84 inX11 rfl (by decide) tw6_18, List.forall_mem_cons.mpr ⟨s_iconst C0 dX11_about_87 rfl, List.forall_mem_cons.mpr ⟨s_iald C0 dX11_about_88, List.forall_mem_cons.mpr ⟨s_iret C0 hr dX11_about_89, List.forall_mem_cons.mpr ⟨s_aload_n C0 dX11_about_90 rfl, List.forall_mem_cons.mpr ⟨s_callV (ci := 11) C0 (kX11_outingsAll l) dX11_about_91 rfl qX11_outingsAll tw6_206 tw6_208 twp_56 tw1_12 tw6_209 rfl (by decide) (by decide), List.forall_mem_cons.mpr ⟨s_iret C0 hr dX11_about_94, List.forall_mem_cons.mpr ⟨s_aload_n C0 dX11_about_95 rfl, List.forall_mem_cons.mpr ⟨s_get (ci := 11) (k := 7) C0 dX11_about_96 inX11 rfl (by decide) tw6_18, List.forall_mem_cons.mpr ⟨s_iconst C0 dX11_about_99 rfl, List.forall_mem_cons.mpr ⟨s_iald C0 dX11_about_100, List.forall_mem_cons.mpr ⟨s_iret C0 hr dX11_about_101, List.forall_mem_cons.mpr ⟨s_aload_n C0 dX11_about_102 rfl, List.forall_mem_cons.mpr ⟨s_get (ci := 11) (k := 7) C0 dX11_about_103 inX11 rfl (by decide) tw6_18, List.forall_mem_cons.mpr ⟨s_iconst C0 dX11_about_106 rfl, fun _ h => absurd h List.not_mem_nil⟩⟩⟩⟩⟩⟩⟩⟩⟩⟩⟩⟩⟩⟩⟩⟩⟩⟩⟩⟩⟩⟩⟩⟩⟩⟩⟩⟩⟩⟩⟩⟩⟩⟩⟩⟩⟩⟩⟩⟩
set_option maxRecDepth 10000 in
theorem hX11_about_1 (l : Launch) {p : Program} {e : Env} {s : State} {m : MethodId} {args : Array Value} {below : List Frame} {meth : Method} {c : Code} {D : va_G} {ad adV : Nat → Nat} {cA : Nat → ClassId} {K : Kt} (C0 : Cx p s m args meth c D ad adV cA cX11_about 2 RX11) (hr : meth.sig.returnType = (some .int)) : ∀ q ∈ lX11_about_1, Sd p l e (rmd 1) s m args below meth c (MQ below (QQ D ad cA K) args s 0 0 (AA ad)) D ad cA 2 q.1 (opOf K q.2) := List.forall_mem_cons.mpr ⟨s_iald C0 dX11_about_107, List.forall_mem_cons.mpr ⟨s_iret C0 hr dX11_about_108, List.forall_mem_cons.mpr ⟨s_aload_n C0 dX11_about_109 rfl, List.forall_mem_cons.mpr ⟨s_get (ci := 11) (k := 7) C0 dX11_about_110 inX11 rfl (by decide) tw6_18, List.forall_mem_cons.mpr ⟨s_iconst C0 dX11_about_113 rfl, List.forall_mem_cons.mpr ⟨s_iald C0 dX11_about_114, List.forall_mem_cons.mpr ⟨s_iret C0 hr dX11_about_115, List.forall_mem_cons.mpr ⟨s_aload_n C0 dX11_about_116 rfl, List.forall_mem_cons.mpr ⟨s_get (ci := 11) (k := 7) C0 dX11_about_117 inX11 rfl (by decide) tw6_18, List.forall_mem_cons.mpr ⟨s_iconst C0 dX11_about_120 rfl, List.forall_mem_cons.mpr ⟨s_iald C0 dX11_about_121, List.forall_mem_cons.mpr ⟨s_iret C0 hr dX11_about_122, List.forall_mem_cons.mpr ⟨s_aload_n C0 dX11_about_123 rfl, List.forall_mem_cons.mpr ⟨s_get (ci := 11) (k := 24) C0 dX11_about_124 inX11 rfl (by decide) tw6_35, List.forall_mem_cons.mpr ⟨s_iret C0 hr dX11_about_127, fun _ h => absurd h List.not_mem_nil⟩⟩⟩⟩⟩⟩⟩⟩⟩⟩⟩⟩⟩⟩⟩
def fX11_about : Mf := mf 2 (fun K => tl K lX11_about)
theorem kX11_about (l : Launch) : Okm l yX11_about cX11_about 2 (some .int) 1 fX11_about := Okm_tl (own := RX11) (by decide +kernel) rfl (fun C0 hr => List.forall_mem_append.mpr ⟨hX11_about_0 l C0 hr, hX11_about_1 l C0 hr⟩)
theorem dX11_pointsOf_0 : decode cX11_pointsOf 0 = .ok (.aload_n 0, 1) := by decide +kernel
theorem dX11_pointsOf_1 : decode cX11_pointsOf 1 = .ok (.getfield 17, 3) := by decide +kernel
theorem dX11_pointsOf_4 : decode cX11_pointsOf 4 = .ok (.bipush 6, 2) := by decide +kernel
theorem dX11_pointsOf_6 : decode cX11_pointsOf 6 = .ok (.iload_n 1, 1) := by decide +kernel
theorem dX11_pointsOf_7 : decode cX11_pointsOf 7 = .ok (.iadd, 1) := by decide +kernel
theorem dX11_pointsOf_8 : decode cX11_pointsOf 8 = .ok (.iaload, 1) := by decide +kernel
theorem dX11_pointsOf_9 : decode cX11_pointsOf 9 = .ok (.ifCond .ne 15, 3) := by decide +kernel
theorem dX11_pointsOf_12 : decode cX11_pointsOf 12 = .ok (.aload_n 0, 1) := by decide +kernel
theorem dX11_pointsOf_13 : decode cX11_pointsOf 13 = .ok (.getfield 17, 3) := by decide +kernel
theorem dX11_pointsOf_16 : decode cX11_pointsOf 16 = .ok (.bipush 66, 2) := by decide +kernel
theorem dX11_pointsOf_18 : decode cX11_pointsOf 18 = .ok (.iload_n 2, 1) := by decide +kernel
theorem dX11_pointsOf_19 : decode cX11_pointsOf 19 = .ok (.iadd, 1) := by decide +kernel
theorem dX11_pointsOf_20 : decode cX11_pointsOf 20 = .ok (.iaload, 1) := by decide +kernel
theorem dX11_pointsOf_21 : decode cX11_pointsOf 21 = .ok (.goto 15, 3) := by decide +kernel
theorem dX11_pointsOf_24 : decode cX11_pointsOf 24 = .ok (.bipush 9, 2) := by decide +kernel
theorem dX11_pointsOf_26 : decode cX11_pointsOf 26 = .ok (.aload_n 0, 1) := by decide +kernel
theorem dX11_pointsOf_27 : decode cX11_pointsOf 27 = .ok (.getfield 17, 3) := by decide +kernel
theorem dX11_pointsOf_30 : decode cX11_pointsOf 30 = .ok (.bipush 66, 2) := by decide +kernel
theorem dX11_pointsOf_32 : decode cX11_pointsOf 32 = .ok (.iload_n 2, 1) := by decide +kernel
theorem dX11_pointsOf_33 : decode cX11_pointsOf 33 = .ok (.iadd, 1) := by decide +kernel
theorem dX11_pointsOf_34 : decode cX11_pointsOf 34 = .ok (.iaload, 1) := by decide +kernel
theorem dX11_pointsOf_35 : decode cX11_pointsOf 35 = .ok (.isub, 1) := by decide +kernel
theorem dX11_pointsOf_36 : decode cX11_pointsOf 36 = .ok (.istore_n 3, 1) := by decide +kernel
theorem dX11_pointsOf_37 : decode cX11_pointsOf 37 = .ok (.aload_n 0, 1) := by decide +kernel
theorem dX11_pointsOf_38 : decode cX11_pointsOf 38 = .ok (.getfield 17, 3) := by decide +kernel
theorem dX11_pointsOf_41 : decode cX11_pointsOf 41 = .ok (.bipush 14, 2) := by decide +kernel
theorem dX11_pointsOf_43 : decode cX11_pointsOf 43 = .ok (.iload_n 1, 1) := by decide +kernel
theorem dX11_pointsOf_44 : decode cX11_pointsOf 44 = .ok (.iadd, 1) := by decide +kernel
theorem dX11_pointsOf_45 : decode cX11_pointsOf 45 = .ok (.iaload, 1) := by decide +kernel
theorem dX11_pointsOf_46 : decode cX11_pointsOf 46 = .ok (.aload_n 0, 1) := by decide +kernel
theorem dX11_pointsOf_47 : decode cX11_pointsOf 47 = .ok (.getfield 17, 3) := by decide +kernel
theorem dX11_pointsOf_50 : decode cX11_pointsOf 50 = .ok (.iconst 4, 1) := by decide +kernel
theorem dX11_pointsOf_51 : decode cX11_pointsOf 51 = .ok (.iaload, 1) := by decide +kernel
theorem dX11_pointsOf_52 : decode cX11_pointsOf 52 = .ok (.iload_n 3, 1) := by decide +kernel
theorem dX11_pointsOf_53 : decode cX11_pointsOf 53 = .ok (.bipush 9, 2) := by decide +kernel
theorem dX11_pointsOf_55 : decode cX11_pointsOf 55 = .ok (.iload_n 3, 1) := by decide +kernel
theorem dX11_pointsOf_56 : decode cX11_pointsOf 56 = .ok (.isub, 1) := by decide +kernel
theorem dX11_pointsOf_57 : decode cX11_pointsOf 57 = .ok (.isub, 1) := by decide +kernel
theorem dX11_pointsOf_58 : decode cX11_pointsOf 58 = .ok (.imul, 1) := by decide +kernel
theorem dX11_pointsOf_59 : decode cX11_pointsOf 59 = .ok (.iadd, 1) := by decide +kernel
theorem dX11_pointsOf_60 : decode cX11_pointsOf 60 = .ok (.istore 4, 2) := by decide +kernel
theorem dX11_pointsOf_62 : decode cX11_pointsOf 62 = .ok (.iload 4, 2) := by decide +kernel
theorem dX11_pointsOf_64 : decode cX11_pointsOf 64 = .ok (.ifCond .ge 7, 3) := by decide +kernel
theorem dX11_pointsOf_67 : decode cX11_pointsOf 67 = .ok (.iconst 0, 1) := by decide +kernel
theorem dX11_pointsOf_68 : decode cX11_pointsOf 68 = .ok (.goto 5, 3) := by decide +kernel
theorem dX11_pointsOf_71 : decode cX11_pointsOf 71 = .ok (.iload 4, 2) := by decide +kernel
theorem dX11_pointsOf_73 : decode cX11_pointsOf 73 = .ok (.ireturn, 1) := by decide +kernel
def lX11_pointsOf_0 : List (Nat × (Op ⊕ Nat)) := [(0, .inl (o_aload 0 1)), (1, .inl (o_get 11 7 4)), (4, .inl (o_pushI (nI 6) 6)), (6, .inl (o_iload 1 7)), (7, .inl (o_iadd 8)), (8, .inl (o_iald 9)), (9, .inl (o_if_ne 24 12)), (12, .inl (o_aload 0 13)), (13, .inl (o_get 11 7 16)), (16, .inl (o_pushI (nI 66) 18)), (18, .inl (o_iload 2 19)), (19, .inl (o_iadd 20)), (20, .inl (o_iald 21)), (21, .inl (o_goto 36)), (24, .inl (o_pushI (nI 9) 26)), (26, .inl (o_aload 0 27)), (27, .inl (o_get 11 7 30)), (30, .inl (o_pushI (nI 66) 32)), (32, .inl (o_iload 2 33)), (33, .inl (o_iadd 34)), (34, .inl (o_iald 35)), (35, .inl (o_isub 36)), (36, .inl (o_istore 3 37)), (37, .inl (o_aload 0 38)), (38, .inl (o_get 11 7 41)), (41, .inl (o_pushI (nI 14) 43)), (43, .inl (o_iload 1 44)), (44, .inl (o_iadd 45)), (45, .inl (o_iald 46)), (46, .inl (o_aload 0 47)), (47, .inl (o_get 11 7 50)), (50, .inl (o_pushI (nI 4) 51)), (51, .inl (o_iald 52)), (52, .inl (o_iload 3 53)), (53, .inl (o_pushI (nI 9) 55)), (55, .inl (o_iload 3 56)), (56, .inl (o_isub 57)), (57, .inl (o_isub 58)), (58, .inl (o_imul 59)), (59, .inl (o_iadd 60))]
def lX11_pointsOf_1 : List (Nat × (Op ⊕ Nat)) := [(60, .inl (o_istore 4 62)), (62, .inl (o_iload 4 64)), (64, .inl (o_if_ge 71 67)), (67, .inl (o_pushI (nI 0) 68)), (68, .inl (o_goto 73)), (71, .inl (o_iload 4 73)), (73, .inr 0)]
def lX11_pointsOf : List (Nat × (Op ⊕ Nat)) := lX11_pointsOf_0 ++ (lX11_pointsOf_1)
theorem qX11_pointsOf : yX11_pointsOf.cls = RX11 ∧ yX11_pointsOf.cls ≠ "java/lang/invoke/MethodHandle" ∧ yX11_pointsOf.cls ≠ "java/lang/invoke/VarHandle" ∧ (parseMethodDescriptor yX11_pointsOf.desc).map (fun d => d.parameters.length) = some 2 := by decide +kernel
set_option maxRecDepth 10000 in
theorem hX11_pointsOf_0 (l : Launch) {p : Program} {e : Env} {s : State} {m : MethodId} {args : Array Value} {below : List Frame} {meth : Method} {c : Code} {D : va_G} {ad adV : Nat → Nat} {cA : Nat → ClassId} {K : Kt} (C0 : Cx p s m args meth c D ad adV cA cX11_pointsOf 5 RX11) (hr : meth.sig.returnType = (some .int)) : ∀ q ∈ lX11_pointsOf_0, Sd p l e (rmd 0) s m args below meth c (MQ below (QQ D ad cA K) args s 0 0 (AA ad)) D ad cA 5 q.1 (opOf K q.2) := List.forall_mem_cons.mpr ⟨s_aload_n C0 dX11_pointsOf_0 rfl, List.forall_mem_cons.mpr ⟨s_get (ci := 11) (k := 7) C0 dX11_pointsOf_1 inX11 rfl (by decide) tw6_18, List.forall_mem_cons.mpr ⟨s_bipush C0 dX11_pointsOf_4 (by decide +kernel), List.forall_mem_cons.mpr ⟨s_iload_n C0 dX11_pointsOf_6 rfl, List.forall_mem_cons.mpr ⟨s_iadd C0 dX11_pointsOf_7, List.forall_mem_cons.mpr ⟨s_iald C0 dX11_pointsOf_8, List.forall_mem_cons.mpr ⟨s_if_ne C0 dX11_pointsOf_9 rfl, List.forall_mem_cons.mpr ⟨s_aload_n C0 dX11_pointsOf_12 rfl, List.forall_mem_cons.mpr ⟨s_get (ci := 11) (k := 7) C0 dX11_pointsOf_13 inX11 rfl (by decide) tw6_18, List.forall_mem_cons.mpr ⟨s_bipush C0 dX11_pointsOf_16 (by decide +kernel), List.forall_mem_cons.mpr ⟨s_iload_n C0 dX11_pointsOf_18 rfl, List.forall_mem_cons.mpr ⟨s_iadd C0 dX11_pointsOf_19, List.forall_mem_cons.mpr ⟨s_iald C0 dX11_pointsOf_20, List.forall_mem_cons.mpr ⟨s_goto C0 dX11_pointsOf_21 rfl, List.forall_mem_cons.mpr ⟨s_bipush C0 dX11_pointsOf_24 (by decide +kernel), List.forall_mem_cons.mpr ⟨s_aload_n C0 dX11_pointsOf_26 rfl, List.forall_mem_cons.mpr ⟨s_get (ci := 11) (k := 7) C0 dX11_pointsOf_27 inX11 rfl (by decide) tw6_18, List.forall_mem_cons.mpr ⟨s_bipush C0 dX11_pointsOf_30 (by decide +kernel), List.forall_mem_cons.mpr ⟨s_iload_n C0 dX11_pointsOf_32 rfl, List.forall_mem_cons.mpr ⟨s_iadd C0 dX11_pointsOf_33, List.forall_mem_cons.mpr ⟨s_iald C0 dX11_pointsOf_34, List.forall_mem_cons.mpr ⟨s_isub C0 dX11_pointsOf_35, List.forall_mem_cons.mpr ⟨s_istore_n C0 dX11_pointsOf_36 rfl (by decide), List.forall_mem_cons.mpr ⟨s_aload_n C0 dX11_pointsOf_37 rfl, List.forall_mem_cons.mpr ⟨s_get (ci := 11) (k := 7) C0 dX11_pointsOf_38 inX11 rfl (by decide) tw6_18, List.forall_mem_cons.mpr ⟨s_bipush C0 dX11_pointsOf_41 (by decide +kernel), List.forall_mem_cons.mpr ⟨s_iload_n C0 dX11_pointsOf_43 rfl, List.forall_mem_cons.mpr ⟨s_iadd C0 dX11_pointsOf_44, List.forall_mem_cons.mpr ⟨s_iald C0 dX11_pointsOf_45, List.forall_mem_cons.mpr ⟨s_aload_n C0 dX11_pointsOf_46 rfl, List.forall_mem_cons.mpr ⟨s_get (ci := 11) (k := 7) C0 dX11_pointsOf_47 inX11 rfl (by decide) tw6_18, List.forall_mem_cons.mpr ⟨s_iconst C0 dX11_pointsOf_50 rfl, List.forall_mem_cons.mpr ⟨s_iald C0 dX11_pointsOf_51, List.forall_mem_cons.mpr ⟨s_iload_n C0 dX11_pointsOf_52 rfl, List.forall_mem_cons.mpr ⟨s_bipush C0 dX11_pointsOf_53 (by decide +kernel), List.forall_mem_cons.mpr ⟨s_iload_n C0 dX11_pointsOf_55 rfl, List.forall_mem_cons.mpr ⟨s_isub C0 dX11_pointsOf_56, List.forall_mem_cons.mpr ⟨s_isub C0 dX11_pointsOf_57, List.forall_mem_cons.mpr ⟨s_imul C0 dX11_pointsOf_58, List.forall_mem_cons.mpr ⟨s_iadd C0 dX11_pointsOf_59, fun _ h => absurd h List.not_mem_nil⟩⟩⟩⟩⟩⟩⟩⟩⟩⟩⟩⟩⟩⟩⟩⟩⟩⟩⟩⟩⟩⟩⟩⟩⟩⟩⟩⟩⟩⟩⟩⟩⟩⟩⟩⟩⟩⟩⟩⟩
set_option maxRecDepth 10000 in
theorem hX11_pointsOf_1 (l : Launch) {p : Program} {e : Env} {s : State} {m : MethodId} {args : Array Value} {below : List Frame} {meth : Method} {c : Code} {D : va_G} {ad adV : Nat → Nat} {cA : Nat → ClassId} {K : Kt} (C0 : Cx p s m args meth c D ad adV cA cX11_pointsOf 5 RX11) (hr : meth.sig.returnType = (some .int)) : ∀ q ∈ lX11_pointsOf_1, Sd p l e (rmd 0) s m args below meth c (MQ below (QQ D ad cA K) args s 0 0 (AA ad)) D ad cA 5 q.1 (opOf K q.2) := List.forall_mem_cons.mpr ⟨s_istore C0 dX11_pointsOf_60 (by decide), List.forall_mem_cons.mpr ⟨s_iload C0 dX11_pointsOf_62, List.forall_mem_cons.mpr ⟨s_if_ge C0 dX11_pointsOf_64 rfl, List.forall_mem_cons.mpr ⟨s_iconst C0 dX11_pointsOf_67 rfl, List.forall_mem_cons.mpr ⟨s_goto C0 dX11_pointsOf_68 rfl, List.forall_mem_cons.mpr ⟨s_iload C0 dX11_pointsOf_71, List.forall_mem_cons.mpr ⟨s_iret C0 hr dX11_pointsOf_73, fun _ h => absurd h List.not_mem_nil⟩⟩⟩⟩⟩⟩⟩
def fX11_pointsOf : Mf := mf 5 (fun K => tl K lX11_pointsOf)
theorem kX11_pointsOf (l : Launch) : Okm l yX11_pointsOf cX11_pointsOf 5 (some .int) 0 fX11_pointsOf := Okm_tl (own := RX11) (by decide +kernel) rfl (fun C0 hr => List.forall_mem_append.mpr ⟨hX11_pointsOf_0 l C0 hr, hX11_pointsOf_1 l C0 hr⟩)
theorem dX11_above_0 : decode cX11_above 0 = .ok (.iload_n 2, 1) := by decide +kernel
theorem dX11_above_1 : decode cX11_above 1 = .ok (.aload_n 0, 1) := by decide +kernel
theorem dX11_above_2 : decode cX11_above 2 = .ok (.getfield 17, 3) := by decide +kernel
theorem dX11_above_5 : decode cX11_above 5 = .ok (.bipush 30, 2) := by decide +kernel
theorem dX11_above_7 : decode cX11_above 7 = .ok (.iload_n 1, 1) := by decide +kernel
theorem dX11_above_8 : decode cX11_above 8 = .ok (.iadd, 1) := by decide +kernel
theorem dX11_above_9 : decode cX11_above 9 = .ok (.iaload, 1) := by decide +kernel
theorem dX11_above_10 : decode cX11_above 10 = .ok (.if_icmp .le 17, 3) := by decide +kernel
theorem dX11_above_13 : decode cX11_above 13 = .ok (.iload_n 2, 1) := by decide +kernel
theorem dX11_above_14 : decode cX11_above 14 = .ok (.aload_n 0, 1) := by decide +kernel
theorem dX11_above_15 : decode cX11_above 15 = .ok (.getfield 17, 3) := by decide +kernel
theorem dX11_above_18 : decode cX11_above 18 = .ok (.bipush 30, 2) := by decide +kernel
theorem dX11_above_20 : decode cX11_above 20 = .ok (.iload_n 1, 1) := by decide +kernel
theorem dX11_above_21 : decode cX11_above 21 = .ok (.iadd, 1) := by decide +kernel
theorem dX11_above_22 : decode cX11_above 22 = .ok (.iaload, 1) := by decide +kernel
theorem dX11_above_23 : decode cX11_above 23 = .ok (.isub, 1) := by decide +kernel
theorem dX11_above_24 : decode cX11_above 24 = .ok (.goto 4, 3) := by decide +kernel
theorem dX11_above_27 : decode cX11_above 27 = .ok (.iconst 0, 1) := by decide +kernel
theorem dX11_above_28 : decode cX11_above 28 = .ok (.ireturn, 1) := by decide +kernel
def lX11_above : List (Nat × (Op ⊕ Nat)) := [(0, .inl (o_iload 2 1)), (1, .inl (o_aload 0 2)), (2, .inl (o_get 11 7 5)), (5, .inl (o_pushI (nI 30) 7)), (7, .inl (o_iload 1 8)), (8, .inl (o_iadd 9)), (9, .inl (o_iald 10)), (10, .inl (o_icmp_le 27 13)), (13, .inl (o_iload 2 14)), (14, .inl (o_aload 0 15)), (15, .inl (o_get 11 7 18)), (18, .inl (o_pushI (nI 30) 20)), (20, .inl (o_iload 1 21)), (21, .inl (o_iadd 22)), (22, .inl (o_iald 23)), (23, .inl (o_isub 24)), (24, .inl (o_goto 28)), (27, .inl (o_pushI (nI 0) 28)), (28, .inr 0)]
theorem qX11_above : yX11_above.cls = RX11 ∧ yX11_above.cls ≠ "java/lang/invoke/MethodHandle" ∧ yX11_above.cls ≠ "java/lang/invoke/VarHandle" ∧ (parseMethodDescriptor yX11_above.desc).map (fun d => d.parameters.length) = some 2 := by decide +kernel
set_option maxRecDepth 10000 in
theorem hX11_above_0 (l : Launch) {p : Program} {e : Env} {s : State} {m : MethodId} {args : Array Value} {below : List Frame} {meth : Method} {c : Code} {D : va_G} {ad adV : Nat → Nat} {cA : Nat → ClassId} {K : Kt} (C0 : Cx p s m args meth c D ad adV cA cX11_above 3 RX11) (hr : meth.sig.returnType = (some .int)) : ∀ q ∈ lX11_above, Sd p l e (rmd 0) s m args below meth c (MQ below (QQ D ad cA K) args s 0 0 (AA ad)) D ad cA 3 q.1 (opOf K q.2) := List.forall_mem_cons.mpr ⟨s_iload_n C0 dX11_above_0 rfl, List.forall_mem_cons.mpr ⟨s_aload_n C0 dX11_above_1 rfl, List.forall_mem_cons.mpr ⟨s_get (ci := 11) (k := 7) C0 dX11_above_2 inX11 rfl (by decide) tw6_18, List.forall_mem_cons.mpr ⟨s_bipush C0 dX11_above_5 (by decide +kernel), List.forall_mem_cons.mpr ⟨s_iload_n C0 dX11_above_7 rfl, List.forall_mem_cons.mpr ⟨s_iadd C0 dX11_above_8, List.forall_mem_cons.mpr ⟨s_iald C0 dX11_above_9, List.forall_mem_cons.mpr ⟨s_icmp_le C0 dX11_above_10 rfl, List.forall_mem_cons.mpr ⟨s_iload_n C0 dX11_above_13 rfl, List.forall_mem_cons.mpr ⟨s_aload_n C0 dX11_above_14 rfl, List.forall_mem_cons.mpr ⟨s_get (ci := 11) (k := 7) C0 dX11_above_15 inX11 rfl (by decide) tw6_18, List.forall_mem_cons.mpr ⟨s_bipush C0 dX11_above_18 (by decide +kernel), List.forall_mem_cons.mpr ⟨s_iload_n C0 dX11_above_20 rfl, List.forall_mem_cons.mpr ⟨s_iadd C0 dX11_above_21, List.forall_mem_cons.mpr ⟨s_iald C0 dX11_above_22, List.forall_mem_cons.mpr ⟨s_isub C0 dX11_above_23, List.forall_mem_cons.mpr ⟨s_goto C0 dX11_above_24 rfl, List.forall_mem_cons.mpr ⟨s_iconst C0 dX11_above_27 rfl, List.forall_mem_cons.mpr ⟨s_iret C0 hr dX11_above_28, fun _ h => absurd h List.not_mem_nil⟩⟩⟩⟩⟩⟩⟩⟩⟩⟩⟩⟩⟩⟩⟩⟩⟩⟩⟩
def fX11_above : Mf := mf 3 (fun K => tl K lX11_above)
theorem kX11_above (l : Launch) : Okm l yX11_above cX11_above 3 (some .int) 0 fX11_above := Okm_tl (own := RX11) (by decide +kernel) rfl (fun C0 hr => hX11_above_0 l C0 hr)
theorem dX11_worthOf_0 : decode cX11_worthOf 0 = .ok (.aload_n 0, 1) := by decide +kernel
theorem dX11_worthOf_1 : decode cX11_worthOf 1 = .ok (.iload_n 1, 1) := by decide +kernel
theorem dX11_worthOf_2 : decode cX11_worthOf 2 = .ok (.iload_n 3, 1) := by decide +kernel
theorem dX11_worthOf_3 : decode cX11_worthOf 3 = .ok (.invokevirtual 188, 3) := by decide +kernel
theorem dX11_worthOf_6 : decode cX11_worthOf 6 = .ok (.istore 4, 2) := by decide +kernel
theorem dX11_worthOf_8 : decode cX11_worthOf 8 = .ok (.aload_n 0, 1) := by decide +kernel
theorem dX11_worthOf_9 : decode cX11_worthOf 9 = .ok (.iload_n 1, 1) := by decide +kernel
theorem dX11_worthOf_10 : decode cX11_worthOf 10 = .ok (.iload_n 2, 1) := by decide +kernel
theorem dX11_worthOf_11 : decode cX11_worthOf 11 = .ok (.invokevirtual 192, 3) := by decide +kernel
theorem dX11_worthOf_14 : decode cX11_worthOf 14 = .ok (.iload_n 3, 1) := by decide +kernel
theorem dX11_worthOf_15 : decode cX11_worthOf 15 = .ok (.iload 4, 2) := by decide +kernel
theorem dX11_worthOf_17 : decode cX11_worthOf 17 = .ok (.isub, 1) := by decide +kernel
theorem dX11_worthOf_18 : decode cX11_worthOf 18 = .ok (.imul, 1) := by decide +kernel
theorem dX11_worthOf_19 : decode cX11_worthOf 19 = .ok (.aload_n 0, 1) := by decide +kernel
theorem dX11_worthOf_20 : decode cX11_worthOf 20 = .ok (.iload_n 1, 1) := by decide +kernel
theorem dX11_worthOf_21 : decode cX11_worthOf 21 = .ok (.iload_n 2, 1) := by decide +kernel
theorem dX11_worthOf_22 : decode cX11_worthOf 22 = .ok (.invokevirtual 192, 3) := by decide +kernel
theorem dX11_worthOf_25 : decode cX11_worthOf 25 = .ok (.iload 4, 2) := by decide +kernel
theorem dX11_worthOf_27 : decode cX11_worthOf 27 = .ok (.imul, 1) := by decide +kernel
theorem dX11_worthOf_28 : decode cX11_worthOf 28 = .ok (.iconst 2, 1) := by decide +kernel
theorem dX11_worthOf_29 : decode cX11_worthOf 29 = .ok (.idiv, 1) := by decide +kernel
theorem dX11_worthOf_30 : decode cX11_worthOf 30 = .ok (.iadd, 1) := by decide +kernel
theorem dX11_worthOf_31 : decode cX11_worthOf 31 = .ok (.ireturn, 1) := by decide +kernel
def lX11_worthOf : List (Nat × (Op ⊕ Nat)) := [(0, .inl (o_aload 0 1)), (1, .inl (o_iload 1 2)), (2, .inl (o_iload 3 3)), (3, .inl (o_callV fX11_above 2 11 6)), (6, .inl (o_istore 4 8)), (8, .inl (o_aload 0 9)), (9, .inl (o_iload 1 10)), (10, .inl (o_iload 2 11)), (11, .inl (o_callV fX11_pointsOf 2 11 14)), (14, .inl (o_iload 3 15)), (15, .inl (o_iload 4 17)), (17, .inl (o_isub 18)), (18, .inl (o_imul 19)), (19, .inl (o_aload 0 20)), (20, .inl (o_iload 1 21)), (21, .inl (o_iload 2 22)), (22, .inl (o_callV fX11_pointsOf 2 11 25)), (25, .inl (o_iload 4 27)), (27, .inl (o_imul 28)), (28, .inl (o_pushI (nI 2) 29)), (29, .inl (o_idiv 30)), (30, .inl (o_iadd 31)), (31, .inr 0)]
theorem qX11_worthOf : yX11_worthOf.cls = RX11 ∧ yX11_worthOf.cls ≠ "java/lang/invoke/MethodHandle" ∧ yX11_worthOf.cls ≠ "java/lang/invoke/VarHandle" ∧ (parseMethodDescriptor yX11_worthOf.desc).map (fun d => d.parameters.length) = some 3 := by decide +kernel
set_option maxRecDepth 10000 in
theorem hX11_worthOf_0 (l : Launch) {p : Program} {e : Env} {s : State} {m : MethodId} {args : Array Value} {below : List Frame} {meth : Method} {c : Code} {D : va_G} {ad adV : Nat → Nat} {cA : Nat → ClassId} {K : Kt} (C0 : Cx p s m args meth c D ad adV cA cX11_worthOf 5 RX11) (hr : meth.sig.returnType = (some .int)) : ∀ q ∈ lX11_worthOf, Sd p l e (rmd 1) s m args below meth c (MQ below (QQ D ad cA K) args s 0 0 (AA ad)) D ad cA 5 q.1 (opOf K q.2) := List.forall_mem_cons.mpr ⟨s_aload_n C0 dX11_worthOf_0 rfl, List.forall_mem_cons.mpr ⟨s_iload_n C0 dX11_worthOf_1 rfl, List.forall_mem_cons.mpr ⟨s_iload_n C0 dX11_worthOf_2 rfl, List.forall_mem_cons.mpr ⟨s_callV (ci := 11) C0 (kX11_above l) dX11_worthOf_3 rfl qX11_above tw6_238 tw7_0 twp_63 tw1_12 tw7_1 rfl (by decide) (by decide), List.forall_mem_cons.mpr ⟨s_istore C0 dX11_worthOf_6 (by decide), List.forall_mem_cons.mpr ⟨s_aload_n C0 dX11_worthOf_8 rfl, List.forall_mem_cons.mpr ⟨s_iload_n C0 dX11_worthOf_9 rfl, List.forall_mem_cons.mpr ⟨s_iload_n C0 dX11_worthOf_10 rfl, List.forall_mem_cons.mpr ⟨s_callV (ci := 11) C0 (kX11_pointsOf l) dX11_worthOf_11 rfl qX11_pointsOf tw7_2 tw7_4 twp_64 tw1_12 tw7_5 rfl (by decide) (by decide), List.forall_mem_cons.mpr ⟨s_iload_n C0 dX11_worthOf_14 rfl, List.forall_mem_cons.mpr ⟨s_iload C0 dX11_worthOf_15, List.forall_mem_cons.mpr ⟨s_isub C0 dX11_worthOf_17, List.forall_mem_cons.mpr ⟨s_imul C0 dX11_worthOf_18, List.forall_mem_cons.mpr ⟨s_aload_n C0 dX11_worthOf_19 rfl, List.forall_mem_cons.mpr ⟨s_iload_n C0 dX11_worthOf_20 rfl, List.forall_mem_cons.mpr ⟨s_iload_n C0 dX11_worthOf_21 rfl, List.forall_mem_cons.mpr ⟨s_callV (ci := 11) C0 (kX11_pointsOf l) dX11_worthOf_22 rfl qX11_pointsOf tw7_2 tw7_4 twp_64 tw1_12 tw7_5 rfl (by decide) (by decide), List.forall_mem_cons.mpr ⟨s_iload C0 dX11_worthOf_25, List.forall_mem_cons.mpr ⟨s_imul C0 dX11_worthOf_27, List.forall_mem_cons.mpr ⟨s_iconst C0 dX11_worthOf_28 rfl, List.forall_mem_cons.mpr ⟨s_idiv C0 dX11_worthOf_29, List.forall_mem_cons.mpr ⟨s_iadd C0 dX11_worthOf_30, List.forall_mem_cons.mpr ⟨s_iret C0 hr dX11_worthOf_31, fun _ h => absurd h List.not_mem_nil⟩⟩⟩⟩⟩⟩⟩⟩⟩⟩⟩⟩⟩⟩⟩⟩⟩⟩⟩⟩⟩⟩⟩
def fX11_worthOf : Mf := mf 5 (fun K => tl K lX11_worthOf)
theorem kX11_worthOf (l : Launch) : Okm l yX11_worthOf cX11_worthOf 5 (some .int) 1 fX11_worthOf := Okm_tl (own := RX11) (by decide +kernel) rfl (fun C0 hr => hX11_worthOf_0 l C0 hr)
theorem dX11_riskOf_0 : decode cX11_riskOf 0 = .ok (.aload_n 0, 1) := by decide +kernel
theorem dX11_riskOf_1 : decode cX11_riskOf 1 = .ok (.getfield 17, 3) := by decide +kernel
theorem dX11_riskOf_4 : decode cX11_riskOf 4 = .ok (.bipush 38, 2) := by decide +kernel
theorem dX11_riskOf_6 : decode cX11_riskOf 6 = .ok (.iload_n 1, 1) := by decide +kernel
theorem dX11_riskOf_7 : decode cX11_riskOf 7 = .ok (.iadd, 1) := by decide +kernel
theorem dX11_riskOf_8 : decode cX11_riskOf 8 = .ok (.iaload, 1) := by decide +kernel
theorem dX11_riskOf_9 : decode cX11_riskOf 9 = .ok (.aload_n 0, 1) := by decide +kernel
theorem dX11_riskOf_10 : decode cX11_riskOf 10 = .ok (.iload_n 1, 1) := by decide +kernel
theorem dX11_riskOf_11 : decode cX11_riskOf 11 = .ok (.iload_n 2, 1) := by decide +kernel
theorem dX11_riskOf_12 : decode cX11_riskOf 12 = .ok (.invokevirtual 188, 3) := by decide +kernel
theorem dX11_riskOf_15 : decode cX11_riskOf 15 = .ok (.imul, 1) := by decide +kernel
theorem dX11_riskOf_16 : decode cX11_riskOf 16 = .ok (.ireturn, 1) := by decide +kernel
def lX11_riskOf : List (Nat × (Op ⊕ Nat)) := [(0, .inl (o_aload 0 1)), (1, .inl (o_get 11 7 4)), (4, .inl (o_pushI (nI 38) 6)), (6, .inl (o_iload 1 7)), (7, .inl (o_iadd 8)), (8, .inl (o_iald 9)), (9, .inl (o_aload 0 10)), (10, .inl (o_iload 1 11)), (11, .inl (o_iload 2 12)), (12, .inl (o_callV fX11_above 2 11 15)), (15, .inl (o_imul 16)), (16, .inr 0)]
theorem qX11_riskOf : yX11_riskOf.cls = RX11 ∧ yX11_riskOf.cls ≠ "java/lang/invoke/MethodHandle" ∧ yX11_riskOf.cls ≠ "java/lang/invoke/VarHandle" ∧ (parseMethodDescriptor yX11_riskOf.desc).map (fun d => d.parameters.length) = some 2 := by decide +kernel
set_option maxRecDepth 10000 in
theorem hX11_riskOf_0 (l : Launch) {p : Program} {e : Env} {s : State} {m : MethodId} {args : Array Value} {below : List Frame} {meth : Method} {c : Code} {D : va_G} {ad adV : Nat → Nat} {cA : Nat → ClassId} {K : Kt} (C0 : Cx p s m args meth c D ad adV cA cX11_riskOf 3 RX11) (hr : meth.sig.returnType = (some .int)) : ∀ q ∈ lX11_riskOf, Sd p l e (rmd 1) s m args below meth c (MQ below (QQ D ad cA K) args s 0 0 (AA ad)) D ad cA 3 q.1 (opOf K q.2) := List.forall_mem_cons.mpr ⟨s_aload_n C0 dX11_riskOf_0 rfl, List.forall_mem_cons.mpr ⟨s_get (ci := 11) (k := 7) C0 dX11_riskOf_1 inX11 rfl (by decide) tw6_18, List.forall_mem_cons.mpr ⟨s_bipush C0 dX11_riskOf_4 (by decide +kernel), List.forall_mem_cons.mpr ⟨s_iload_n C0 dX11_riskOf_6 rfl, List.forall_mem_cons.mpr ⟨s_iadd C0 dX11_riskOf_7, List.forall_mem_cons.mpr ⟨s_iald C0 dX11_riskOf_8, List.forall_mem_cons.mpr ⟨s_aload_n C0 dX11_riskOf_9 rfl, List.forall_mem_cons.mpr ⟨s_iload_n C0 dX11_riskOf_10 rfl, List.forall_mem_cons.mpr ⟨s_iload_n C0 dX11_riskOf_11 rfl, List.forall_mem_cons.mpr ⟨s_callV (ci := 11) C0 (kX11_above l) dX11_riskOf_12 rfl qX11_above tw6_238 tw7_0 twp_63 tw1_12 tw7_1 rfl (by decide) (by decide), List.forall_mem_cons.mpr ⟨s_imul C0 dX11_riskOf_15, List.forall_mem_cons.mpr ⟨s_iret C0 hr dX11_riskOf_16, fun _ h => absurd h List.not_mem_nil⟩⟩⟩⟩⟩⟩⟩⟩⟩⟩⟩⟩
def fX11_riskOf : Mf := mf 3 (fun K => tl K lX11_riskOf)
theorem kX11_riskOf (l : Launch) : Okm l yX11_riskOf cX11_riskOf 3 (some .int) 1 fX11_riskOf := Okm_tl (own := RX11) (by decide +kernel) rfl (fun C0 hr => hX11_riskOf_0 l C0 hr)
theorem dX11_slot_0 : decode cX11_slot 0 = .ok (.iconst 3, 1) := by decide +kernel
theorem dX11_slot_1 : decode cX11_slot 1 = .ok (.iload_n 1, 1) := by decide +kernel
theorem dX11_slot_2 : decode cX11_slot 2 = .ok (.imul, 1) := by decide +kernel
theorem dX11_slot_3 : decode cX11_slot 3 = .ok (.iload_n 2, 1) := by decide +kernel
theorem dX11_slot_4 : decode cX11_slot 4 = .ok (.iadd, 1) := by decide +kernel
theorem dX11_slot_5 : decode cX11_slot 5 = .ok (.ireturn, 1) := by decide +kernel
def lX11_slot : List (Nat × (Op ⊕ Nat)) := [(0, .inl (o_pushI (nI 3) 1)), (1, .inl (o_iload 1 2)), (2, .inl (o_imul 3)), (3, .inl (o_iload 2 4)), (4, .inl (o_iadd 5)), (5, .inr 0)]
theorem qX11_slot : yX11_slot.cls = RX11 ∧ yX11_slot.cls ≠ "java/lang/invoke/MethodHandle" ∧ yX11_slot.cls ≠ "java/lang/invoke/VarHandle" ∧ (parseMethodDescriptor yX11_slot.desc).map (fun d => d.parameters.length) = some 2 := by decide +kernel
set_option maxRecDepth 10000 in
theorem hX11_slot_0 (l : Launch) {p : Program} {e : Env} {s : State} {m : MethodId} {args : Array Value} {below : List Frame} {meth : Method} {c : Code} {D : va_G} {ad adV : Nat → Nat} {cA : Nat → ClassId} {K : Kt} (C0 : Cx p s m args meth c D ad adV cA cX11_slot 3 RX11) (hr : meth.sig.returnType = (some .int)) : ∀ q ∈ lX11_slot, Sd p l e (rmd 0) s m args below meth c (MQ below (QQ D ad cA K) args s 0 0 (AA ad)) D ad cA 3 q.1 (opOf K q.2) := List.forall_mem_cons.mpr ⟨s_iconst C0 dX11_slot_0 rfl, List.forall_mem_cons.mpr ⟨s_iload_n C0 dX11_slot_1 rfl, List.forall_mem_cons.mpr ⟨s_imul C0 dX11_slot_2, List.forall_mem_cons.mpr ⟨s_iload_n C0 dX11_slot_3 rfl, List.forall_mem_cons.mpr ⟨s_iadd C0 dX11_slot_4, List.forall_mem_cons.mpr ⟨s_iret C0 hr dX11_slot_5, fun _ h => absurd h List.not_mem_nil⟩⟩⟩⟩⟩⟩
def fX11_slot : Mf := mf 3 (fun K => tl K lX11_slot)
theorem kX11_slot (l : Launch) : Okm l yX11_slot cX11_slot 3 (some .int) 0 fX11_slot := Okm_tl (own := RX11) (by decide +kernel) rfl (fun C0 hr => hX11_slot_0 l C0 hr)
theorem dX11_who_0 : decode cX11_who 0 = .ok (.aload_n 0, 1) := by decide +kernel
theorem dX11_who_1 : decode cX11_who 1 = .ok (.getfield 17, 3) := by decide +kernel
theorem dX11_who_4 : decode cX11_who 4 = .ok (.bipush 126, 2) := by decide +kernel
theorem dX11_who_6 : decode cX11_who 6 = .ok (.aload_n 0, 1) := by decide +kernel
theorem dX11_who_7 : decode cX11_who 7 = .ok (.iload_n 1, 1) := by decide +kernel
theorem dX11_who_8 : decode cX11_who 8 = .ok (.iload_n 2, 1) := by decide +kernel
theorem dX11_who_9 : decode cX11_who 9 = .ok (.invokevirtual 195, 3) := by decide +kernel
theorem dX11_who_12 : decode cX11_who 12 = .ok (.iadd, 1) := by decide +kernel
theorem dX11_who_13 : decode cX11_who 13 = .ok (.iaload, 1) := by decide +kernel
theorem dX11_who_14 : decode cX11_who 14 = .ok (.ireturn, 1) := by decide +kernel
def lX11_who : List (Nat × (Op ⊕ Nat)) := [(0, .inl (o_aload 0 1)), (1, .inl (o_get 11 7 4)), (4, .inl (o_pushI (nI 126) 6)), (6, .inl (o_aload 0 7)), (7, .inl (o_iload 1 8)), (8, .inl (o_iload 2 9)), (9, .inl (o_callV fX11_slot 2 11 12)), (12, .inl (o_iadd 13)), (13, .inl (o_iald 14)), (14, .inr 0)]
theorem qX11_who : yX11_who.cls = RX11 ∧ yX11_who.cls ≠ "java/lang/invoke/MethodHandle" ∧ yX11_who.cls ≠ "java/lang/invoke/VarHandle" ∧ (parseMethodDescriptor yX11_who.desc).map (fun d => d.parameters.length) = some 2 := by decide +kernel
set_option maxRecDepth 10000 in
theorem hX11_who_0 (l : Launch) {p : Program} {e : Env} {s : State} {m : MethodId} {args : Array Value} {below : List Frame} {meth : Method} {c : Code} {D : va_G} {ad adV : Nat → Nat} {cA : Nat → ClassId} {K : Kt} (C0 : Cx p s m args meth c D ad adV cA cX11_who 3 RX11) (hr : meth.sig.returnType = (some .int)) : ∀ q ∈ lX11_who, Sd p l e (rmd 1) s m args below meth c (MQ below (QQ D ad cA K) args s 0 0 (AA ad)) D ad cA 3 q.1 (opOf K q.2) := List.forall_mem_cons.mpr ⟨s_aload_n C0 dX11_who_0 rfl, List.forall_mem_cons.mpr ⟨s_get (ci := 11) (k := 7) C0 dX11_who_1 inX11 rfl (by decide) tw6_18, List.forall_mem_cons.mpr ⟨s_bipush C0 dX11_who_4 (by decide +kernel), List.forall_mem_cons.mpr ⟨s_aload_n C0 dX11_who_6 rfl, List.forall_mem_cons.mpr ⟨s_iload_n C0 dX11_who_7 rfl, List.forall_mem_cons.mpr ⟨s_iload_n C0 dX11_who_8 rfl, List.forall_mem_cons.mpr ⟨s_callV (ci := 11) C0 (kX11_slot l) dX11_who_9 rfl qX11_slot tw6_226 tw6_228 twp_60 tw1_12 tw6_229 rfl (by decide) (by decide), List.forall_mem_cons.mpr ⟨s_iadd C0 dX11_who_12, List.forall_mem_cons.mpr ⟨s_iald C0 dX11_who_13, List.forall_mem_cons.mpr ⟨s_iret C0 hr dX11_who_14, fun _ h => absurd h List.not_mem_nil⟩⟩⟩⟩⟩⟩⟩⟩⟩⟩
def fX11_who : Mf := mf 3 (fun K => tl K lX11_who)
theorem kX11_who (l : Launch) : Okm l yX11_who cX11_who 3 (some .int) 1 fX11_who := Okm_tl (own := RX11) (by decide +kernel) rfl (fun C0 hr => hX11_who_0 l C0 hr)
theorem dX11_throwsAt_0 : decode cX11_throwsAt 0 = .ok (.aload_n 0, 1) := by decide +kernel
theorem dX11_throwsAt_1 : decode cX11_throwsAt 1 = .ok (.getfield 17, 3) := by decide +kernel
theorem dX11_throwsAt_4 : decode cX11_throwsAt 4 = .ok (.sipush 186, 3) := by decide +kernel
theorem dX11_throwsAt_7 : decode cX11_throwsAt 7 = .ok (.aload_n 0, 1) := by decide +kernel
theorem dX11_throwsAt_8 : decode cX11_throwsAt 8 = .ok (.iload_n 1, 1) := by decide +kernel
theorem dX11_throwsAt_9 : decode cX11_throwsAt 9 = .ok (.iload_n 2, 1) := by decide +kernel
theorem dX11_throwsAt_10 : decode cX11_throwsAt 10 = .ok (.invokevirtual 195, 3) := by decide +kernel
theorem dX11_throwsAt_13 : decode cX11_throwsAt 13 = .ok (.iadd, 1) := by decide +kernel
theorem dX11_throwsAt_14 : decode cX11_throwsAt 14 = .ok (.iaload, 1) := by decide +kernel
theorem dX11_throwsAt_15 : decode cX11_throwsAt 15 = .ok (.ireturn, 1) := by decide +kernel
def lX11_throwsAt : List (Nat × (Op ⊕ Nat)) := [(0, .inl (o_aload 0 1)), (1, .inl (o_get 11 7 4)), (4, .inl (o_pushI (nI 186) 7)), (7, .inl (o_aload 0 8)), (8, .inl (o_iload 1 9)), (9, .inl (o_iload 2 10)), (10, .inl (o_callV fX11_slot 2 11 13)), (13, .inl (o_iadd 14)), (14, .inl (o_iald 15)), (15, .inr 0)]
theorem qX11_throwsAt : yX11_throwsAt.cls = RX11 ∧ yX11_throwsAt.cls ≠ "java/lang/invoke/MethodHandle" ∧ yX11_throwsAt.cls ≠ "java/lang/invoke/VarHandle" ∧ (parseMethodDescriptor yX11_throwsAt.desc).map (fun d => d.parameters.length) = some 2 := by decide +kernel
set_option maxRecDepth 10000 in
theorem hX11_throwsAt_0 (l : Launch) {p : Program} {e : Env} {s : State} {m : MethodId} {args : Array Value} {below : List Frame} {meth : Method} {c : Code} {D : va_G} {ad adV : Nat → Nat} {cA : Nat → ClassId} {K : Kt} (C0 : Cx p s m args meth c D ad adV cA cX11_throwsAt 3 RX11) (hr : meth.sig.returnType = (some .int)) : ∀ q ∈ lX11_throwsAt, Sd p l e (rmd 1) s m args below meth c (MQ below (QQ D ad cA K) args s 0 0 (AA ad)) D ad cA 3 q.1 (opOf K q.2) := List.forall_mem_cons.mpr ⟨s_aload_n C0 dX11_throwsAt_0 rfl, List.forall_mem_cons.mpr ⟨s_get (ci := 11) (k := 7) C0 dX11_throwsAt_1 inX11 rfl (by decide) tw6_18, List.forall_mem_cons.mpr ⟨s_sipush C0 dX11_throwsAt_4 (by decide +kernel), List.forall_mem_cons.mpr ⟨s_aload_n C0 dX11_throwsAt_7 rfl, List.forall_mem_cons.mpr ⟨s_iload_n C0 dX11_throwsAt_8 rfl, List.forall_mem_cons.mpr ⟨s_iload_n C0 dX11_throwsAt_9 rfl, List.forall_mem_cons.mpr ⟨s_callV (ci := 11) C0 (kX11_slot l) dX11_throwsAt_10 rfl qX11_slot tw6_226 tw6_228 twp_60 tw1_12 tw6_229 rfl (by decide) (by decide), List.forall_mem_cons.mpr ⟨s_iadd C0 dX11_throwsAt_13, List.forall_mem_cons.mpr ⟨s_iald C0 dX11_throwsAt_14, List.forall_mem_cons.mpr ⟨s_iret C0 hr dX11_throwsAt_15, fun _ h => absurd h List.not_mem_nil⟩⟩⟩⟩⟩⟩⟩⟩⟩⟩
def fX11_throwsAt : Mf := mf 3 (fun K => tl K lX11_throwsAt)
theorem kX11_throwsAt (l : Launch) : Okm l yX11_throwsAt cX11_throwsAt 3 (some .int) 1 fX11_throwsAt := Okm_tl (own := RX11) (by decide +kernel) rfl (fun C0 hr => hX11_throwsAt_0 l C0 hr)
theorem dX11_leftOf_0 : decode cX11_leftOf 0 = .ok (.aload_n 0, 1) := by decide +kernel
theorem dX11_leftOf_1 : decode cX11_leftOf 1 = .ok (.getfield 17, 3) := by decide +kernel
theorem dX11_leftOf_4 : decode cX11_leftOf 4 = .ok (.bipush 86, 2) := by decide +kernel
theorem dX11_leftOf_6 : decode cX11_leftOf 6 = .ok (.iload_n 1, 1) := by decide +kernel
theorem dX11_leftOf_7 : decode cX11_leftOf 7 = .ok (.iadd, 1) := by decide +kernel
theorem dX11_leftOf_8 : decode cX11_leftOf 8 = .ok (.iaload, 1) := by decide +kernel
theorem dX11_leftOf_9 : decode cX11_leftOf 9 = .ok (.istore_n 2, 1) := by decide +kernel
theorem dX11_leftOf_10 : decode cX11_leftOf 10 = .ok (.iconst 0, 1) := by decide +kernel
theorem dX11_leftOf_11 : decode cX11_leftOf 11 = .ok (.istore_n 3, 1) := by decide +kernel
theorem dX11_leftOf_12 : decode cX11_leftOf 12 = .ok (.iload_n 3, 1) := by decide +kernel
theorem dX11_leftOf_13 : decode cX11_leftOf 13 = .ok (.aload_n 0, 1) := by decide +kernel
theorem dX11_leftOf_14 : decode cX11_leftOf 14 = .ok (.getfield 17, 3) := by decide +kernel
theorem dX11_leftOf_17 : decode cX11_leftOf 17 = .ok (.bipush 106, 2) := by decide +kernel
theorem dX11_leftOf_19 : decode cX11_leftOf 19 = .ok (.iload_n 1, 1) := by decide +kernel
theorem dX11_leftOf_20 : decode cX11_leftOf 20 = .ok (.iadd, 1) := by decide +kernel
theorem dX11_leftOf_21 : decode cX11_leftOf 21 = .ok (.iaload, 1) := by decide +kernel
theorem dX11_leftOf_22 : decode cX11_leftOf 22 = .ok (.if_icmp .ge 18, 3) := by decide +kernel
theorem dX11_leftOf_25 : decode cX11_leftOf 25 = .ok (.iload_n 2, 1) := by decide +kernel
theorem dX11_leftOf_26 : decode cX11_leftOf 26 = .ok (.aload_n 0, 1) := by decide +kernel
theorem dX11_leftOf_27 : decode cX11_leftOf 27 = .ok (.iload_n 1, 1) := by decide +kernel
theorem dX11_leftOf_28 : decode cX11_leftOf 28 = .ok (.iload_n 3, 1) := by decide +kernel
theorem dX11_leftOf_29 : decode cX11_leftOf 29 = .ok (.invokevirtual 198, 3) := by decide +kernel
theorem dX11_leftOf_32 : decode cX11_leftOf 32 = .ok (.isub, 1) := by decide +kernel
theorem dX11_leftOf_33 : decode cX11_leftOf 33 = .ok (.istore_n 2, 1) := by decide +kernel
theorem dX11_leftOf_34 : decode cX11_leftOf 34 = .ok (.iinc 3 1, 3) := by decide +kernel
theorem dX11_leftOf_37 : decode cX11_leftOf 37 = .ok (.goto (-25), 3) := by decide +kernel
theorem dX11_leftOf_40 : decode cX11_leftOf 40 = .ok (.iload_n 2, 1) := by decide +kernel
theorem dX11_leftOf_41 : decode cX11_leftOf 41 = .ok (.ireturn, 1) := by decide +kernel
def lX11_leftOf : List (Nat × (Op ⊕ Nat)) := [(0, .inl (o_aload 0 1)), (1, .inl (o_get 11 7 4)), (4, .inl (o_pushI (nI 86) 6)), (6, .inl (o_iload 1 7)), (7, .inl (o_iadd 8)), (8, .inl (o_iald 9)), (9, .inl (o_istore 2 10)), (10, .inl (o_pushI (nI 0) 11)), (11, .inl (o_istore 3 12)), (12, .inl (o_iload 3 13)), (13, .inl (o_aload 0 14)), (14, .inl (o_get 11 7 17)), (17, .inl (o_pushI (nI 106) 19)), (19, .inl (o_iload 1 20)), (20, .inl (o_iadd 21)), (21, .inl (o_iald 22)), (22, .inl (o_icmp_ge 40 25)), (25, .inl (o_iload 2 26)), (26, .inl (o_aload 0 27)), (27, .inl (o_iload 1 28)), (28, .inl (o_iload 3 29)), (29, .inl (o_callV fX11_throwsAt 2 11 32)), (32, .inl (o_isub 33)), (33, .inl (o_istore 2 34)), (34, .inl (o_iinc 3 (nI 1) 37)), (37, .inl (o_goto 12)), (40, .inl (o_iload 2 41)), (41, .inr 0)]
theorem qX11_leftOf : yX11_leftOf.cls = RX11 ∧ yX11_leftOf.cls ≠ "java/lang/invoke/MethodHandle" ∧ yX11_leftOf.cls ≠ "java/lang/invoke/VarHandle" ∧ (parseMethodDescriptor yX11_leftOf.desc).map (fun d => d.parameters.length) = some 1 := by decide +kernel
set_option maxRecDepth 10000 in
theorem hX11_leftOf_0 (l : Launch) {p : Program} {e : Env} {s : State} {m : MethodId} {args : Array Value} {below : List Frame} {meth : Method} {c : Code} {D : va_G} {ad adV : Nat → Nat} {cA : Nat → ClassId} {K : Kt} (C0 : Cx p s m args meth c D ad adV cA cX11_leftOf 4 RX11) (hr : meth.sig.returnType = (some .int)) : ∀ q ∈ lX11_leftOf, Sd p l e (rmd 2) s m args below meth c (MQ below (QQ D ad cA K) args s 0 0 (AA ad)) D ad cA 4 q.1 (opOf K q.2) := List.forall_mem_cons.mpr ⟨s_aload_n C0 dX11_leftOf_0 rfl, List.forall_mem_cons.mpr ⟨s_get (ci := 11) (k := 7) C0 dX11_leftOf_1 inX11 rfl (by decide) tw6_18, List.forall_mem_cons.mpr ⟨s_bipush C0 dX11_leftOf_4 (by decide +kernel), List.forall_mem_cons.mpr ⟨s_iload_n C0 dX11_leftOf_6 rfl, List.forall_mem_cons.mpr ⟨s_iadd C0 dX11_leftOf_7, List.forall_mem_cons.mpr ⟨s_iald C0 dX11_leftOf_8, List.forall_mem_cons.mpr ⟨s_istore_n C0 dX11_leftOf_9 rfl (by decide), List.forall_mem_cons.mpr ⟨s_iconst C0 dX11_leftOf_10 rfl, List.forall_mem_cons.mpr ⟨s_istore_n C0 dX11_leftOf_11 rfl (by decide), List.forall_mem_cons.mpr ⟨s_iload_n C0 dX11_leftOf_12 rfl, List.forall_mem_cons.mpr ⟨s_aload_n C0 dX11_leftOf_13 rfl, List.forall_mem_cons.mpr ⟨s_get (ci := 11) (k := 7) C0 dX11_leftOf_14 inX11 rfl (by decide) tw6_18, List.forall_mem_cons.mpr ⟨s_bipush C0 dX11_leftOf_17 (by decide +kernel), List.forall_mem_cons.mpr ⟨s_iload_n C0 dX11_leftOf_19 rfl, List.forall_mem_cons.mpr ⟨s_iadd C0 dX11_leftOf_20, List.forall_mem_cons.mpr ⟨s_iald C0 dX11_leftOf_21, List.forall_mem_cons.mpr ⟨s_icmp_ge C0 dX11_leftOf_22 rfl, List.forall_mem_cons.mpr ⟨s_iload_n C0 dX11_leftOf_25 rfl, List.forall_mem_cons.mpr ⟨s_aload_n C0 dX11_leftOf_26 rfl, List.forall_mem_cons.mpr ⟨s_iload_n C0 dX11_leftOf_27 rfl, List.forall_mem_cons.mpr ⟨s_iload_n C0 dX11_leftOf_28 rfl, List.forall_mem_cons.mpr ⟨s_callV (ci := 11) C0 (kX11_throwsAt l) dX11_leftOf_29 rfl qX11_throwsAt tw6_222 tw6_224 twp_59 tw1_12 tw6_225 rfl (by decide) (by decide), List.forall_mem_cons.mpr ⟨s_isub C0 dX11_leftOf_32, List.forall_mem_cons.mpr ⟨s_istore_n C0 dX11_leftOf_33 rfl (by decide), List.forall_mem_cons.mpr ⟨s_iinc C0 dX11_leftOf_34 rfl (by decide), List.forall_mem_cons.mpr ⟨s_goto C0 dX11_leftOf_37 rfl, List.forall_mem_cons.mpr ⟨s_iload_n C0 dX11_leftOf_40 rfl, List.forall_mem_cons.mpr ⟨s_iret C0 hr dX11_leftOf_41, fun _ h => absurd h List.not_mem_nil⟩⟩⟩⟩⟩⟩⟩⟩⟩⟩⟩⟩⟩⟩⟩⟩⟩⟩⟩⟩⟩⟩⟩⟩⟩⟩⟩⟩
def fX11_leftOf : Mf := mf 4 (fun K => tl K lX11_leftOf)
theorem kX11_leftOf (l : Launch) : Okm l yX11_leftOf cX11_leftOf 4 (some .int) 2 fX11_leftOf := Okm_tl (own := RX11) (by decide +kernel) rfl (fun C0 hr => hX11_leftOf_0 l C0 hr)
theorem dX11_valueOf_0 : decode cX11_valueOf 0 = .ok (.iconst 0, 1) := by decide +kernel
theorem dX11_valueOf_1 : decode cX11_valueOf 1 = .ok (.istore_n 2, 1) := by decide +kernel
theorem dX11_valueOf_2 : decode cX11_valueOf 2 = .ok (.iconst 0, 1) := by decide +kernel
theorem dX11_valueOf_3 : decode cX11_valueOf 3 = .ok (.istore_n 3, 1) := by decide +kernel
theorem dX11_valueOf_4 : decode cX11_valueOf 4 = .ok (.iload_n 3, 1) := by decide +kernel
theorem dX11_valueOf_5 : decode cX11_valueOf 5 = .ok (.aload_n 0, 1) := by decide +kernel
theorem dX11_valueOf_6 : decode cX11_valueOf 6 = .ok (.getfield 17, 3) := by decide +kernel
theorem dX11_valueOf_9 : decode cX11_valueOf 9 = .ok (.bipush 106, 2) := by decide +kernel
theorem dX11_valueOf_11 : decode cX11_valueOf 11 = .ok (.iload_n 1, 1) := by decide +kernel
theorem dX11_valueOf_12 : decode cX11_valueOf 12 = .ok (.iadd, 1) := by decide +kernel
theorem dX11_valueOf_13 : decode cX11_valueOf 13 = .ok (.iaload, 1) := by decide +kernel
theorem dX11_valueOf_14 : decode cX11_valueOf 14 = .ok (.if_icmp .ge 29, 3) := by decide +kernel
theorem dX11_valueOf_17 : decode cX11_valueOf 17 = .ok (.iload_n 2, 1) := by decide +kernel
theorem dX11_valueOf_18 : decode cX11_valueOf 18 = .ok (.aload_n 0, 1) := by decide +kernel
theorem dX11_valueOf_19 : decode cX11_valueOf 19 = .ok (.aload_n 0, 1) := by decide +kernel
theorem dX11_valueOf_20 : decode cX11_valueOf 20 = .ok (.iload_n 1, 1) := by decide +kernel
theorem dX11_valueOf_21 : decode cX11_valueOf 21 = .ok (.iload_n 3, 1) := by decide +kernel
theorem dX11_valueOf_22 : decode cX11_valueOf 22 = .ok (.invokevirtual 201, 3) := by decide +kernel
theorem dX11_valueOf_25 : decode cX11_valueOf 25 = .ok (.iload_n 1, 1) := by decide +kernel
theorem dX11_valueOf_26 : decode cX11_valueOf 26 = .ok (.aload_n 0, 1) := by decide +kernel
theorem dX11_valueOf_27 : decode cX11_valueOf 27 = .ok (.iload_n 1, 1) := by decide +kernel
theorem dX11_valueOf_28 : decode cX11_valueOf 28 = .ok (.iload_n 3, 1) := by decide +kernel
theorem dX11_valueOf_29 : decode cX11_valueOf 29 = .ok (.invokevirtual 198, 3) := by decide +kernel
theorem dX11_valueOf_32 : decode cX11_valueOf 32 = .ok (.invokevirtual 204, 3) := by decide +kernel
theorem dX11_valueOf_35 : decode cX11_valueOf 35 = .ok (.iadd, 1) := by decide +kernel
theorem dX11_valueOf_36 : decode cX11_valueOf 36 = .ok (.istore_n 2, 1) := by decide +kernel
theorem dX11_valueOf_37 : decode cX11_valueOf 37 = .ok (.iinc 3 1, 3) := by decide +kernel
theorem dX11_valueOf_40 : decode cX11_valueOf 40 = .ok (.goto (-36), 3) := by decide +kernel
theorem dX11_valueOf_43 : decode cX11_valueOf 43 = .ok (.iload_n 2, 1) := by decide +kernel
theorem dX11_valueOf_44 : decode cX11_valueOf 44 = .ok (.ireturn, 1) := by decide +kernel
def lX11_valueOf : List (Nat × (Op ⊕ Nat)) := [(0, .inl (o_pushI (nI 0) 1)), (1, .inl (o_istore 2 2)), (2, .inl (o_pushI (nI 0) 3)), (3, .inl (o_istore 3 4)), (4, .inl (o_iload 3 5)), (5, .inl (o_aload 0 6)), (6, .inl (o_get 11 7 9)), (9, .inl (o_pushI (nI 106) 11)), (11, .inl (o_iload 1 12)), (12, .inl (o_iadd 13)), (13, .inl (o_iald 14)), (14, .inl (o_icmp_ge 43 17)), (17, .inl (o_iload 2 18)), (18, .inl (o_aload 0 19)), (19, .inl (o_aload 0 20)), (20, .inl (o_iload 1 21)), (21, .inl (o_iload 3 22)), (22, .inl (o_callV fX11_who 2 11 25)), (25, .inl (o_iload 1 26)), (26, .inl (o_aload 0 27)), (27, .inl (o_iload 1 28)), (28, .inl (o_iload 3 29)), (29, .inl (o_callV fX11_throwsAt 2 11 32)), (32, .inl (o_callV fX11_worthOf 3 11 35)), (35, .inl (o_iadd 36)), (36, .inl (o_istore 2 37)), (37, .inl (o_iinc 3 (nI 1) 40)), (40, .inl (o_goto 4)), (43, .inl (o_iload 2 44)), (44, .inr 0)]
theorem qX11_valueOf : yX11_valueOf.cls = RX11 ∧ yX11_valueOf.cls ≠ "java/lang/invoke/MethodHandle" ∧ yX11_valueOf.cls ≠ "java/lang/invoke/VarHandle" ∧ (parseMethodDescriptor yX11_valueOf.desc).map (fun d => d.parameters.length) = some 1 := by decide +kernel
set_option maxRecDepth 10000 in
theorem hX11_valueOf_0 (l : Launch) {p : Program} {e : Env} {s : State} {m : MethodId} {args : Array Value} {below : List Frame} {meth : Method} {c : Code} {D : va_G} {ad adV : Nat → Nat} {cA : Nat → ClassId} {K : Kt} (C0 : Cx p s m args meth c D ad adV cA cX11_valueOf 4 RX11) (hr : meth.sig.returnType = (some .int)) : ∀ q ∈ lX11_valueOf, Sd p l e (rmd 2) s m args below meth c (MQ below (QQ D ad cA K) args s 0 0 (AA ad)) D ad cA 4 q.1 (opOf K q.2) := List.forall_mem_cons.mpr ⟨s_iconst C0 dX11_valueOf_0 rfl, List.forall_mem_cons.mpr ⟨s_istore_n C0 dX11_valueOf_1 rfl (by decide), List.forall_mem_cons.mpr ⟨s_iconst C0 dX11_valueOf_2 rfl, List.forall_mem_cons.mpr ⟨s_istore_n C0 dX11_valueOf_3 rfl (by decide), List.forall_mem_cons.mpr ⟨s_iload_n C0 dX11_valueOf_4 rfl, List.forall_mem_cons.mpr ⟨s_aload_n C0 dX11_valueOf_5 rfl, List.forall_mem_cons.mpr ⟨s_get (ci := 11) (k := 7) C0 dX11_valueOf_6 inX11 rfl (by decide) tw6_18, List.forall_mem_cons.mpr ⟨s_bipush C0 dX11_valueOf_9 (by decide +kernel), List.forall_mem_cons.mpr ⟨s_iload_n C0 dX11_valueOf_11 rfl, List.forall_mem_cons.mpr ⟨s_iadd C0 dX11_valueOf_12, List.forall_mem_cons.mpr ⟨s_iald C0 dX11_valueOf_13, List.forall_mem_cons.mpr ⟨s_icmp_ge C0 dX11_valueOf_14 rfl, List.forall_mem_cons.mpr ⟨s_iload_n C0 dX11_valueOf_17 rfl, List.forall_mem_cons.mpr ⟨s_aload_n C0 dX11_valueOf_18 rfl, List.forall_mem_cons.mpr ⟨s_aload_n C0 dX11_valueOf_19 rfl, List.forall_mem_cons.mpr ⟨s_iload_n C0 dX11_valueOf_20 rfl, List.forall_mem_cons.mpr ⟨s_iload_n C0 dX11_valueOf_21 rfl, List.forall_mem_cons.mpr ⟨s_callV (ci := 11) C0 (kX11_who l) dX11_valueOf_22 rfl qX11_who tw6_230 tw6_232 twp_61 tw1_12 tw6_233 rfl (by decide) (by decide), List.forall_mem_cons.mpr ⟨s_iload_n C0 dX11_valueOf_25 rfl, List.forall_mem_cons.mpr ⟨s_aload_n C0 dX11_valueOf_26 rfl, List.forall_mem_cons.mpr ⟨s_iload_n C0 dX11_valueOf_27 rfl, List.forall_mem_cons.mpr ⟨s_iload_n C0 dX11_valueOf_28 rfl, List.forall_mem_cons.mpr ⟨s_callV (ci := 11) C0 (kX11_throwsAt l) dX11_valueOf_29 rfl qX11_throwsAt tw6_222 tw6_224 twp_59 tw1_12 tw6_225 rfl (by decide) (by decide), List.forall_mem_cons.mpr ⟨s_callV (ci := 11) C0 (kX11_worthOf l) dX11_valueOf_32 rfl qX11_worthOf tw6_234 tw6_236 twp_62 tw1_12 tw6_237 rfl (by decide) (by decide), List.forall_mem_cons.mpr ⟨s_iadd C0 dX11_valueOf_35, List.forall_mem_cons.mpr ⟨s_istore_n C0 dX11_valueOf_36 rfl (by decide), List.forall_mem_cons.mpr ⟨s_iinc C0 dX11_valueOf_37 rfl (by decide), List.forall_mem_cons.mpr ⟨s_goto C0 dX11_valueOf_40 rfl, List.forall_mem_cons.mpr ⟨s_iload_n C0 dX11_valueOf_43 rfl, List.forall_mem_cons.mpr ⟨s_iret C0 hr dX11_valueOf_44, fun _ h => absurd h List.not_mem_nil⟩⟩⟩⟩⟩⟩⟩⟩⟩⟩⟩⟩⟩⟩⟩⟩⟩⟩⟩⟩⟩⟩⟩⟩⟩⟩⟩⟩⟩⟩
def fX11_valueOf : Mf := mf 4 (fun K => tl K lX11_valueOf)
theorem kX11_valueOf (l : Launch) : Okm l yX11_valueOf cX11_valueOf 4 (some .int) 2 fX11_valueOf := Okm_tl (own := RX11) (by decide +kernel) rfl (fun C0 hr => hX11_valueOf_0 l C0 hr)
theorem dX11_isIn_0 : decode cX11_isIn 0 = .ok (.iconst 0, 1) := by decide +kernel
theorem dX11_isIn_1 : decode cX11_isIn 1 = .ok (.istore_n 3, 1) := by decide +kernel
theorem dX11_isIn_2 : decode cX11_isIn 2 = .ok (.iconst 0, 1) := by decide +kernel
theorem dX11_isIn_3 : decode cX11_isIn 3 = .ok (.istore 4, 2) := by decide +kernel
theorem dX11_isIn_5 : decode cX11_isIn 5 = .ok (.iload 4, 2) := by decide +kernel
theorem dX11_isIn_7 : decode cX11_isIn 7 = .ok (.aload_n 0, 1) := by decide +kernel
theorem dX11_isIn_8 : decode cX11_isIn 8 = .ok (.getfield 17, 3) := by decide +kernel
theorem dX11_isIn_11 : decode cX11_isIn 11 = .ok (.bipush 106, 2) := by decide +kernel
theorem dX11_isIn_13 : decode cX11_isIn 13 = .ok (.iload_n 2, 1) := by decide +kernel
theorem dX11_isIn_14 : decode cX11_isIn 14 = .ok (.iadd, 1) := by decide +kernel
theorem dX11_isIn_15 : decode cX11_isIn 15 = .ok (.iaload, 1) := by decide +kernel
theorem dX11_isIn_16 : decode cX11_isIn 16 = .ok (.if_icmp .ge 30, 3) := by decide +kernel
theorem dX11_isIn_19 : decode cX11_isIn 19 = .ok (.iload_n 3, 1) := by decide +kernel
theorem dX11_isIn_20 : decode cX11_isIn 20 = .ok (.ifCond .ne 14, 3) := by decide +kernel
theorem dX11_isIn_23 : decode cX11_isIn 23 = .ok (.aload_n 0, 1) := by decide +kernel
theorem dX11_isIn_24 : decode cX11_isIn 24 = .ok (.iload_n 2, 1) := by decide +kernel
theorem dX11_isIn_25 : decode cX11_isIn 25 = .ok (.iload 4, 2) := by decide +kernel
theorem dX11_isIn_27 : decode cX11_isIn 27 = .ok (.invokevirtual 201, 3) := by decide +kernel
theorem dX11_isIn_30 : decode cX11_isIn 30 = .ok (.iload_n 1, 1) := by decide +kernel
theorem dX11_isIn_31 : decode cX11_isIn 31 = .ok (.if_icmp .ne 7, 3) := by decide +kernel
theorem dX11_isIn_34 : decode cX11_isIn 34 = .ok (.iconst 1, 1) := by decide +kernel
theorem dX11_isIn_35 : decode cX11_isIn 35 = .ok (.goto 4, 3) := by decide +kernel
theorem dX11_isIn_38 : decode cX11_isIn 38 = .ok (.iconst 0, 1) := by decide +kernel
theorem dX11_isIn_39 : decode cX11_isIn 39 = .ok (.istore_n 3, 1) := by decide +kernel
theorem dX11_isIn_40 : decode cX11_isIn 40 = .ok (.iinc 4 1, 3) := by decide +kernel
theorem dX11_isIn_43 : decode cX11_isIn 43 = .ok (.goto (-38), 3) := by decide +kernel
theorem dX11_isIn_46 : decode cX11_isIn 46 = .ok (.iload_n 3, 1) := by decide +kernel
theorem dX11_isIn_47 : decode cX11_isIn 47 = .ok (.ireturn, 1) := by decide +kernel
def lX11_isIn : List (Nat × (Op ⊕ Nat)) := [(0, .inl (o_pushI (nI 0) 1)), (1, .inl (o_istore 3 2)), (2, .inl (o_pushI (nI 0) 3)), (3, .inl (o_istore 4 5)), (5, .inl (o_iload 4 7)), (7, .inl (o_aload 0 8)), (8, .inl (o_get 11 7 11)), (11, .inl (o_pushI (nI 106) 13)), (13, .inl (o_iload 2 14)), (14, .inl (o_iadd 15)), (15, .inl (o_iald 16)), (16, .inl (o_icmp_ge 46 19)), (19, .inl (o_iload 3 20)), (20, .inl (o_if_ne 34 23)), (23, .inl (o_aload 0 24)), (24, .inl (o_iload 2 25)), (25, .inl (o_iload 4 27)), (27, .inl (o_callV fX11_who 2 11 30)), (30, .inl (o_iload 1 31)), (31, .inl (o_icmp_ne 38 34)), (34, .inl (o_pushI (nI 1) 35)), (35, .inl (o_goto 39)), (38, .inl (o_pushI (nI 0) 39)), (39, .inl (o_istore 3 40)), (40, .inl (o_iinc 4 (nI 1) 43)), (43, .inl (o_goto 5)), (46, .inl (o_iload 3 47)), (47, .inr 1)]
theorem qX11_isIn : yX11_isIn.cls = RX11 ∧ yX11_isIn.cls ≠ "java/lang/invoke/MethodHandle" ∧ yX11_isIn.cls ≠ "java/lang/invoke/VarHandle" ∧ (parseMethodDescriptor yX11_isIn.desc).map (fun d => d.parameters.length) = some 2 := by decide +kernel
set_option maxRecDepth 10000 in
theorem hX11_isIn_0 (l : Launch) {p : Program} {e : Env} {s : State} {m : MethodId} {args : Array Value} {below : List Frame} {meth : Method} {c : Code} {D : va_G} {ad adV : Nat → Nat} {cA : Nat → ClassId} {K : Kt} (C0 : Cx p s m args meth c D ad adV cA cX11_isIn 5 RX11) (hr : meth.sig.returnType = (some .boolean)) : ∀ q ∈ lX11_isIn, Sd p l e (rmd 2) s m args below meth c (MQ below (QQ D ad cA K) args s 0 0 (AA ad)) D ad cA 5 q.1 (opOf K q.2) := List.forall_mem_cons.mpr ⟨s_iconst C0 dX11_isIn_0 rfl, List.forall_mem_cons.mpr ⟨s_istore_n C0 dX11_isIn_1 rfl (by decide), List.forall_mem_cons.mpr ⟨s_iconst C0 dX11_isIn_2 rfl, List.forall_mem_cons.mpr ⟨s_istore C0 dX11_isIn_3 (by decide), List.forall_mem_cons.mpr ⟨s_iload C0 dX11_isIn_5, List.forall_mem_cons.mpr ⟨s_aload_n C0 dX11_isIn_7 rfl, List.forall_mem_cons.mpr ⟨s_get (ci := 11) (k := 7) C0 dX11_isIn_8 inX11 rfl (by decide) tw6_18, List.forall_mem_cons.mpr ⟨s_bipush C0 dX11_isIn_11 (by decide +kernel), List.forall_mem_cons.mpr ⟨s_iload_n C0 dX11_isIn_13 rfl, List.forall_mem_cons.mpr ⟨s_iadd C0 dX11_isIn_14, List.forall_mem_cons.mpr ⟨s_iald C0 dX11_isIn_15, List.forall_mem_cons.mpr ⟨s_icmp_ge C0 dX11_isIn_16 rfl, List.forall_mem_cons.mpr ⟨s_iload_n C0 dX11_isIn_19 rfl, List.forall_mem_cons.mpr ⟨s_if_ne C0 dX11_isIn_20 rfl, List.forall_mem_cons.mpr ⟨s_aload_n C0 dX11_isIn_23 rfl, List.forall_mem_cons.mpr ⟨s_iload_n C0 dX11_isIn_24 rfl, List.forall_mem_cons.mpr ⟨s_iload C0 dX11_isIn_25, List.forall_mem_cons.mpr ⟨s_callV (ci := 11) C0 (kX11_who l) dX11_isIn_27 rfl qX11_who tw6_230 tw6_232 twp_61 tw1_12 tw6_233 rfl (by decide) (by decide), List.forall_mem_cons.mpr ⟨s_iload_n C0 dX11_isIn_30 rfl, List.forall_mem_cons.mpr ⟨s_icmp_ne C0 dX11_isIn_31 rfl, List.forall_mem_cons.mpr ⟨s_iconst C0 dX11_isIn_34 rfl, List.forall_mem_cons.mpr ⟨s_goto C0 dX11_isIn_35 rfl, List.forall_mem_cons.mpr ⟨s_iconst C0 dX11_isIn_38 rfl, List.forall_mem_cons.mpr ⟨s_istore_n C0 dX11_isIn_39 rfl (by decide), List.forall_mem_cons.mpr ⟨s_iinc C0 dX11_isIn_40 rfl (by decide), List.forall_mem_cons.mpr ⟨s_goto C0 dX11_isIn_43 rfl, List.forall_mem_cons.mpr ⟨s_iload_n C0 dX11_isIn_46 rfl, List.forall_mem_cons.mpr ⟨s_zret C0 hr dX11_isIn_47, fun _ h => absurd h List.not_mem_nil⟩⟩⟩⟩⟩⟩⟩⟩⟩⟩⟩⟩⟩⟩⟩⟩⟩⟩⟩⟩⟩⟩⟩⟩⟩⟩⟩⟩
def fX11_isIn : Mf := mf 5 (fun K => tl K lX11_isIn)
theorem kX11_isIn (l : Launch) : Okm l yX11_isIn cX11_isIn 5 (some .boolean) 2 fX11_isIn := Okm_tl (own := RX11) (by decide +kernel) rfl (fun C0 hr => hX11_isIn_0 l C0 hr)
theorem dX11_sumOf_0 : decode cX11_sumOf 0 = .ok (.iconst 0, 1) := by decide +kernel
theorem dX11_sumOf_1 : decode cX11_sumOf 1 = .ok (.istore_n 3, 1) := by decide +kernel
theorem dX11_sumOf_2 : decode cX11_sumOf 2 = .ok (.iconst 0, 1) := by decide +kernel
theorem dX11_sumOf_3 : decode cX11_sumOf 3 = .ok (.istore 4, 2) := by decide +kernel
theorem dX11_sumOf_5 : decode cX11_sumOf 5 = .ok (.iload 4, 2) := by decide +kernel
theorem dX11_sumOf_7 : decode cX11_sumOf 7 = .ok (.aload_n 0, 1) := by decide +kernel
theorem dX11_sumOf_8 : decode cX11_sumOf 8 = .ok (.getfield 17, 3) := by decide +kernel
theorem dX11_sumOf_11 : decode cX11_sumOf 11 = .ok (.iconst 1, 1) := by decide +kernel
theorem dX11_sumOf_12 : decode cX11_sumOf 12 = .ok (.iaload, 1) := by decide +kernel
theorem dX11_sumOf_13 : decode cX11_sumOf 13 = .ok (.if_icmp .ge 104, 3) := by decide +kernel
theorem dX11_sumOf_16 : decode cX11_sumOf 16 = .ok (.iconst 0, 1) := by decide +kernel
theorem dX11_sumOf_17 : decode cX11_sumOf 17 = .ok (.istore 5, 2) := by decide +kernel
theorem dX11_sumOf_19 : decode cX11_sumOf 19 = .ok (.iload 5, 2) := by decide +kernel
theorem dX11_sumOf_21 : decode cX11_sumOf 21 = .ok (.aload_n 0, 1) := by decide +kernel
theorem dX11_sumOf_22 : decode cX11_sumOf 22 = .ok (.getfield 17, 3) := by decide +kernel
theorem dX11_sumOf_25 : decode cX11_sumOf 25 = .ok (.bipush 106, 2) := by decide +kernel
theorem dX11_sumOf_27 : decode cX11_sumOf 27 = .ok (.iload 4, 2) := by decide +kernel
theorem dX11_sumOf_29 : decode cX11_sumOf 29 = .ok (.iadd, 1) := by decide +kernel
theorem dX11_sumOf_30 : decode cX11_sumOf 30 = .ok (.iaload, 1) := by decide +kernel
theorem dX11_sumOf_31 : decode cX11_sumOf 31 = .ok (.if_icmp .ge 80, 3) := by decide +kernel
theorem dX11_sumOf_34 : decode cX11_sumOf 34 = .ok (.aload_n 0, 1) := by decide +kernel
theorem dX11_sumOf_35 : decode cX11_sumOf 35 = .ok (.iload 4, 2) := by decide +kernel
theorem dX11_sumOf_37 : decode cX11_sumOf 37 = .ok (.iload 5, 2) := by decide +kernel
theorem dX11_sumOf_39 : decode cX11_sumOf 39 = .ok (.invokevirtual 198, 3) := by decide +kernel
theorem dX11_sumOf_42 : decode cX11_sumOf 42 = .ok (.istore 6, 2) := by decide +kernel
theorem dX11_sumOf_44 : decode cX11_sumOf 44 = .ok (.iload_n 3, 1) := by decide +kernel
theorem dX11_sumOf_45 : decode cX11_sumOf 45 = .ok (.aload_n 0, 1) := by decide +kernel
theorem dX11_sumOf_46 : decode cX11_sumOf 46 = .ok (.iload 4, 2) := by decide +kernel
theorem dX11_sumOf_48 : decode cX11_sumOf 48 = .ok (.iload 5, 2) := by decide +kernel
theorem dX11_sumOf_50 : decode cX11_sumOf 50 = .ok (.invokevirtual 201, 3) := by decide +kernel
theorem dX11_sumOf_53 : decode cX11_sumOf 53 = .ok (.iload_n 1, 1) := by decide +kernel
theorem dX11_sumOf_54 : decode cX11_sumOf 54 = .ok (.if_icmp .eq 7, 3) := by decide +kernel
theorem dX11_sumOf_57 : decode cX11_sumOf 57 = .ok (.iconst 0, 1) := by decide +kernel
theorem dX11_sumOf_58 : decode cX11_sumOf 58 = .ok (.goto 45, 3) := by decide +kernel
theorem dX11_sumOf_61 : decode cX11_sumOf 61 = .ok (.iload_n 2, 1) := by decide +kernel
theorem dX11_sumOf_62 : decode cX11_sumOf 62 = .ok (.ifCond .ne 8, 3) := by decide +kernel
theorem dX11_sumOf_65 : decode cX11_sumOf 65 = .ok (.iload 6, 2) := by decide +kernel
theorem dX11_sumOf_67 : decode cX11_sumOf 67 = .ok (.goto 36, 3) := by decide +kernel
theorem dX11_sumOf_70 : decode cX11_sumOf 70 = .ok (.iload_n 2, 1) := by decide +kernel
theorem dX11_sumOf_71 : decode cX11_sumOf 71 = .ok (.iconst 1, 1) := by decide +kernel
theorem dX11_sumOf_72 : decode cX11_sumOf 72 = .ok (.if_icmp .ne 7, 3) := by decide +kernel
theorem dX11_sumOf_75 : decode cX11_sumOf 75 = .ok (.iconst 1, 1) := by decide +kernel
theorem dX11_sumOf_76 : decode cX11_sumOf 76 = .ok (.goto 27, 3) := by decide +kernel
theorem dX11_sumOf_79 : decode cX11_sumOf 79 = .ok (.iload_n 2, 1) := by decide +kernel
theorem dX11_sumOf_80 : decode cX11_sumOf 80 = .ok (.iconst 2, 1) := by decide +kernel
theorem dX11_sumOf_81 : decode cX11_sumOf 81 = .ok (.if_icmp .ne 15, 3) := by decide +kernel
theorem dX11_sumOf_84 : decode cX11_sumOf 84 = .ok (.aload_n 0, 1) := by decide +kernel
theorem dX11_sumOf_85 : decode cX11_sumOf 85 = .ok (.iload_n 1, 1) := by decide +kernel
theorem dX11_sumOf_86 : decode cX11_sumOf 86 = .ok (.iload 4, 2) := by decide +kernel
theorem dX11_sumOf_88 : decode cX11_sumOf 88 = .ok (.iload 6, 2) := by decide +kernel
theorem dX11_sumOf_90 : decode cX11_sumOf 90 = .ok (.invokevirtual 204, 3) := by decide +kernel
theorem dX11_sumOf_93 : decode cX11_sumOf 93 = .ok (.goto 10, 3) := by decide +kernel
theorem dX11_sumOf_96 : decode cX11_sumOf 96 = .ok (.aload_n 0, 1) := by decide +kernel
theorem dX11_sumOf_97 : decode cX11_sumOf 97 = .ok (.iload_n 1, 1) := by decide +kernel
theorem dX11_sumOf_98 : decode cX11_sumOf 98 = .ok (.iload 6, 2) := by decide +kernel
theorem dX11_sumOf_100 : decode cX11_sumOf 100 = .ok (.invokevirtual 208, 3) := by decide +kernel
theorem dX11_sumOf_103 : decode cX11_sumOf 103 = .ok (.iadd, 1) := by decide +kernel
theorem dX11_sumOf_104 : decode cX11_sumOf 104 = .ok (.istore_n 3, 1) := by decide +kernel
theorem dX11_sumOf_105 : decode cX11_sumOf 105 = .ok (.iinc 5 1, 3) := by decide +kernel
theorem dX11_sumOf_108 : decode cX11_sumOf 108 = .ok (.goto (-89), 3) := by decide +kernel
theorem dX11_sumOf_111 : decode cX11_sumOf 111 = .ok (.iinc 4 1, 3) := by decide +kernel
theorem dX11_sumOf_114 : decode cX11_sumOf 114 = .ok (.goto (-109), 3) := by decide +kernel
theorem dX11_sumOf_117 : decode cX11_sumOf 117 = .ok (.iload_n 3, 1) := by decide +kernel
theorem dX11_sumOf_118 : decode cX11_sumOf 118 = .ok (.ireturn, 1) := by decide +kernel
def lX11_sumOf_0 : List (Nat × (Op ⊕ Nat)) := [(0, .inl (o_pushI (nI 0) 1)), (1, .inl (o_istore 3 2)), (2, .inl (o_pushI (nI 0) 3)), (3, .inl (o_istore 4 5)), (5, .inl (o_iload 4 7)), (7, .inl (o_aload 0 8)), (8, .inl (o_get 11 7 11)), (11, .inl (o_pushI (nI 1) 12)), (12, .inl (o_iald 13)), (13, .inl (o_icmp_ge 117 16)), (16, .inl (o_pushI (nI 0) 17)), (17, .inl (o_istore 5 19)), (19, .inl (o_iload 5 21)), (21, .inl (o_aload 0 22)), (22, .inl (o_get 11 7 25)), (25, .inl (o_pushI (nI 106) 27)), (27, .inl (o_iload 4 29)), (29, .inl (o_iadd 30)), (30, .inl (o_iald 31)), (31, .inl (o_icmp_ge 111 34)), (34, .inl (o_aload 0 35)), (35, .inl (o_iload 4 37)), (37, .inl (o_iload 5 39)), (39, .inl (o_callV fX11_throwsAt 2 11 42)), (42, .inl (o_istore 6 44)), (44, .inl (o_iload 3 45)), (45, .inl (o_aload 0 46)), (46, .inl (o_iload 4 48)), (48, .inl (o_iload 5 50)), (50, .inl (o_callV fX11_who 2 11 53)), (53, .inl (o_iload 1 54)), (54, .inl (o_icmp_eq 61 57)), (57, .inl (o_pushI (nI 0) 58)), (58, .inl (o_goto 103)), (61, .inl (o_iload 2 62)), (62, .inl (o_if_ne 70 65)), (65, .inl (o_iload 6 67)), (67, .inl (o_goto 103)), (70, .inl (o_iload 2 71)), (71, .inl (o_pushI (nI 1) 72))]
def lX11_sumOf_1 : List (Nat × (Op ⊕ Nat)) := [(72, .inl (o_icmp_ne 79 75)), (75, .inl (o_pushI (nI 1) 76)), (76, .inl (o_goto 103)), (79, .inl (o_iload 2 80)), (80, .inl (o_pushI (nI 2) 81)), (81, .inl (o_icmp_ne 96 84)), (84, .inl (o_aload 0 85)), (85, .inl (o_iload 1 86)), (86, .inl (o_iload 4 88)), (88, .inl (o_iload 6 90)), (90, .inl (o_callV fX11_worthOf 3 11 93)), (93, .inl (o_goto 103)), (96, .inl (o_aload 0 97)), (97, .inl (o_iload 1 98)), (98, .inl (o_iload 6 100)), (100, .inl (o_callV fX11_riskOf 2 11 103)), (103, .inl (o_iadd 104)), (104, .inl (o_istore 3 105)), (105, .inl (o_iinc 5 (nI 1) 108)), (108, .inl (o_goto 19)), (111, .inl (o_iinc 4 (nI 1) 114)), (114, .inl (o_goto 5)), (117, .inl (o_iload 3 118)), (118, .inr 0)]
def lX11_sumOf : List (Nat × (Op ⊕ Nat)) := lX11_sumOf_0 ++ (lX11_sumOf_1)
theorem qX11_sumOf : yX11_sumOf.cls = RX11 ∧ yX11_sumOf.cls ≠ "java/lang/invoke/MethodHandle" ∧ yX11_sumOf.cls ≠ "java/lang/invoke/VarHandle" ∧ (parseMethodDescriptor yX11_sumOf.desc).map (fun d => d.parameters.length) = some 2 := by decide +kernel
set_option maxRecDepth 10000 in
theorem hX11_sumOf_0 (l : Launch) {p : Program} {e : Env} {s : State} {m : MethodId} {args : Array Value} {below : List Frame} {meth : Method} {c : Code} {D : va_G} {ad adV : Nat → Nat} {cA : Nat → ClassId} {K : Kt} (C0 : Cx p s m args meth c D ad adV cA cX11_sumOf 7 RX11) (hr : meth.sig.returnType = (some .int)) : ∀ q ∈ lX11_sumOf_0, Sd p l e (rmd 2) s m args below meth c (MQ below (QQ D ad cA K) args s 0 0 (AA ad)) D ad cA 7 q.1 (opOf K q.2) := List.forall_mem_cons.mpr ⟨s_iconst C0 dX11_sumOf_0 rfl, List.forall_mem_cons.mpr ⟨s_istore_n C0 dX11_sumOf_1 rfl (by decide), List.forall_mem_cons.mpr ⟨s_iconst C0 dX11_sumOf_2 rfl, List.forall_mem_cons.mpr ⟨s_istore C0 dX11_sumOf_3 (by decide), List.forall_mem_cons.mpr ⟨s_iload C0 dX11_sumOf_5, List.forall_mem_cons.mpr ⟨s_aload_n C0 dX11_sumOf_7 rfl, List.forall_mem_cons.mpr ⟨s_get (ci := 11) (k := 7) C0 dX11_sumOf_8 inX11 rfl (by decide) tw6_18, List.forall_mem_cons.mpr ⟨s_iconst C0 dX11_sumOf_11 rfl, List.forall_mem_cons.mpr ⟨s_iald C0 dX11_sumOf_12, List.forall_mem_cons.mpr ⟨s_icmp_ge C0 dX11_sumOf_13 rfl, List.forall_mem_cons.mpr ⟨s_iconst C0 dX11_sumOf_16 rfl, List.forall_mem_cons.mpr ⟨s_istore C0 dX11_sumOf_17 (by decide), List.forall_mem_cons.mpr ⟨s_iload C0 dX11_sumOf_19, List.forall_mem_cons.mpr ⟨s_aload_n C0 dX11_sumOf_21 rfl, List.forall_mem_cons.mpr ⟨s_get (ci := 11) (k := 7) C0 dX11_sumOf_22 inX11 rfl (by decide) tw6_18, List.forall_mem_cons.mpr ⟨s_bipush C0 dX11_sumOf_25 (by decide +kernel), List.forall_mem_cons.mpr ⟨s_iload C0 dX11_sumOf_27, List.forall_mem_cons.mpr ⟨s_iadd C0 dX11_sumOf_29, List.forall_mem_cons.mpr ⟨s_iald C0 dX11_sumOf_30, List.forall_mem_cons.mpr ⟨s_icmp_ge C0 dX11_sumOf_31 rfl, List.forall_mem_cons.mpr ⟨s_aload_n C0 dX11_sumOf_34 rfl, List.forall_mem_cons.mpr ⟨s_iload C0 dX11_sumOf_35, List.forall_mem_cons.mpr ⟨s_iload C0 dX11_sumOf_37, List.forall_mem_cons.mpr ⟨s_callV (ci := 11) C0 (kX11_throwsAt l) dX11_sumOf_39 rfl qX11_throwsAt tw6_222 tw6_224 twp_59 tw1_12 tw6_225 rfl (by decide) (by decide), List.forall_mem_cons.mpr ⟨s_istore C0 dX11_sumOf_42 (by decide), List.forall_mem_cons.mpr ⟨s_iload_n C0 dX11_sumOf_44 rfl, List.forall_mem_cons.mpr ⟨s_aload_n C0 dX11_sumOf_45 rfl, List.forall_mem_cons.mpr ⟨s_iload C0 dX11_sumOf_46, List.forall_mem_cons.mpr ⟨s_iload C0 dX11_sumOf_48, List.forall_mem_cons.mpr ⟨s_callV (ci := 11) C0 (kX11_who l) dX11_sumOf_50 rfl qX11_who tw6_230 tw6_232 twp_61 tw1_12 tw6_233 rfl (by decide) (by decide), List.forall_mem_cons.mpr ⟨s_iload_n C0 dX11_sumOf_53 rfl, List.forall_mem_cons.mpr ⟨s_icmp_eq C0 dX11_sumOf_54 rfl, List.forall_mem_cons.mpr ⟨s_iconst C0 dX11_sumOf_57 rfl, List.forall_mem_cons.mpr ⟨s_goto C0 dX11_sumOf_58 rfl, List.forall_mem_cons.mpr ⟨s_iload_n C0 dX11_sumOf_61 rfl, List.forall_mem_cons.mpr ⟨s_if_ne C0 dX11_sumOf_62 rfl, List.forall_mem_cons.mpr ⟨s_iload C0 dX11_sumOf_65, List.forall_mem_cons.mpr ⟨s_goto C0 dX11_sumOf_67 rfl, List.forall_mem_cons.mpr ⟨s_iload_n C0 dX11_sumOf_70 rfl, List.forall_mem_cons.mpr ⟨s_iconst C0 dX11_sumOf_71 rfl, fun _ h => absurd h List.not_mem_nil⟩⟩⟩⟩⟩⟩⟩⟩⟩⟩⟩⟩⟩⟩⟩⟩⟩⟩⟩⟩⟩⟩⟩⟩⟩⟩⟩⟩⟩⟩⟩⟩⟩⟩⟩⟩⟩⟩⟩⟩
set_option maxRecDepth 10000 in
theorem hX11_sumOf_1 (l : Launch) {p : Program} {e : Env} {s : State} {m : MethodId} {args : Array Value} {below : List Frame} {meth : Method} {c : Code} {D : va_G} {ad adV : Nat → Nat} {cA : Nat → ClassId} {K : Kt} (C0 : Cx p s m args meth c D ad adV cA cX11_sumOf 7 RX11) (hr : meth.sig.returnType = (some .int)) : ∀ q ∈ lX11_sumOf_1, Sd p l e (rmd 2) s m args below meth c (MQ below (QQ D ad cA K) args s 0 0 (AA ad)) D ad cA 7 q.1 (opOf K q.2) := List.forall_mem_cons.mpr ⟨s_icmp_ne C0 dX11_sumOf_72 rfl, List.forall_mem_cons.mpr ⟨s_iconst C0 dX11_sumOf_75 rfl, List.forall_mem_cons.mpr ⟨s_goto C0 dX11_sumOf_76 rfl, List.forall_mem_cons.mpr ⟨s_iload_n C0 dX11_sumOf_79 rfl, List.forall_mem_cons.mpr ⟨s_iconst C0 dX11_sumOf_80 rfl, List.forall_mem_cons.mpr ⟨s_icmp_ne C0 dX11_sumOf_81 rfl, List.forall_mem_cons.mpr ⟨s_aload_n C0 dX11_sumOf_84 rfl, List.forall_mem_cons.mpr ⟨s_iload_n C0 dX11_sumOf_85 rfl, List.forall_mem_cons.mpr ⟨s_iload C0 dX11_sumOf_86, List.forall_mem_cons.mpr ⟨s_iload C0 dX11_sumOf_88, List.forall_mem_cons.mpr ⟨s_callV (ci := 11) C0 (kX11_worthOf l) dX11_sumOf_90 rfl qX11_worthOf tw6_234 tw6_236 twp_62 tw1_12 tw6_237 rfl (by decide) (by decide), List.forall_mem_cons.mpr ⟨s_goto C0 dX11_sumOf_93 rfl, List.forall_mem_cons.mpr ⟨s_aload_n C0 dX11_sumOf_96 rfl, List.forall_mem_cons.mpr ⟨s_iload_n C0 dX11_sumOf_97 rfl, List.forall_mem_cons.mpr ⟨s_iload C0 dX11_sumOf_98, List.forall_mem_cons.mpr ⟨s_callV (ci := 11) C0 (kX11_riskOf l) dX11_sumOf_100 rfl qX11_riskOf tw7_6 tw7_8 twp_65 tw1_12 tw7_9 rfl (by decide) (by decide), List.forall_mem_cons.mpr ⟨s_iadd C0 dX11_sumOf_103, List.forall_mem_cons.mpr ⟨s_istore_n C0 dX11_sumOf_104 rfl (by decide), List.forall_mem_cons.mpr ⟨s_iinc C0 dX11_sumOf_105 rfl (by decide), List.forall_mem_cons.mpr ⟨s_goto C0 dX11_sumOf_108 rfl, List.forall_mem_cons.mpr ⟨s_iinc C0 dX11_sumOf_111 rfl (by decide), List.forall_mem_cons.mpr ⟨s_goto C0 dX11_sumOf_114 rfl, List.forall_mem_cons.mpr ⟨s_iload_n C0 dX11_sumOf_117 rfl, List.forall_mem_cons.mpr ⟨s_iret C0 hr dX11_sumOf_118, fun _ h => absurd h List.not_mem_nil⟩⟩⟩⟩⟩⟩⟩⟩⟩⟩⟩⟩⟩⟩⟩⟩⟩⟩⟩⟩⟩⟩⟩⟩
def fX11_sumOf : Mf := mf 7 (fun K => tl K lX11_sumOf)
theorem kX11_sumOf (l : Launch) : Okm l yX11_sumOf cX11_sumOf 7 (some .int) 2 fX11_sumOf := Okm_tl (own := RX11) (by decide +kernel) rfl (fun C0 hr => List.forall_mem_append.mpr ⟨hX11_sumOf_0 l C0 hr, hX11_sumOf_1 l C0 hr⟩)
theorem dX11_arm_0 : decode cX11_arm 0 = .ok (.aload_n 0, 1) := by decide +kernel
theorem dX11_arm_1 : decode cX11_arm 1 = .ok (.aload_n 0, 1) := by decide +kernel
theorem dX11_arm_2 : decode cX11_arm 2 = .ok (.iload_n 1, 1) := by decide +kernel
theorem dX11_arm_3 : decode cX11_arm 3 = .ok (.invokevirtual 211, 3) := by decide +kernel
theorem dX11_arm_6 : decode cX11_arm 6 = .ok (.ifCond .eq 17, 3) := by decide +kernel
theorem dX11_arm_9 : decode cX11_arm 9 = .ok (.iload_n 2, 1) := by decide +kernel
theorem dX11_arm_10 : decode cX11_arm 10 = .ok (.iconst 0, 1) := by decide +kernel
theorem dX11_arm_11 : decode cX11_arm 11 = .ok (.bipush 7, 2) := by decide +kernel
theorem dX11_arm_13 : decode cX11_arm 13 = .ok (.invokestatic 76, 3) := by decide +kernel
theorem dX11_arm_16 : decode cX11_arm 16 = .ok (.ifCond .eq 7, 3) := by decide +kernel
theorem dX11_arm_19 : decode cX11_arm 19 = .ok (.iconst 1, 1) := by decide +kernel
theorem dX11_arm_20 : decode cX11_arm 20 = .ok (.goto 4, 3) := by decide +kernel
theorem dX11_arm_23 : decode cX11_arm 23 = .ok (.iconst 0, 1) := by decide +kernel
theorem dX11_arm_24 : decode cX11_arm 24 = .ok (.invokestatic 182, 3) := by decide +kernel
theorem dX11_arm_27 : decode cX11_arm 27 = .ok (.invokevirtual 159, 3) := by decide +kernel
theorem dX11_arm_30 : decode cX11_arm 30 = .ok (.ifCond .eq 5, 3) := by decide +kernel
theorem dX11_arm_33 : decode cX11_arm 33 = .ok (.iconst (-1), 1) := by decide +kernel
theorem dX11_arm_34 : decode cX11_arm 34 = .ok (.ireturn, 1) := by decide +kernel
theorem dX11_arm_35 : decode cX11_arm 35 = .ok (.iload_n 2, 1) := by decide +kernel
theorem dX11_arm_36 : decode cX11_arm 36 = .ok (.iconst 5, 1) := by decide +kernel
theorem dX11_arm_37 : decode cX11_arm 37 = .ok (.if_icmp .ge 20, 3) := by decide +kernel
theorem dX11_arm_40 : decode cX11_arm 40 = .ok (.aload_n 0, 1) := by decide +kernel
theorem dX11_arm_41 : decode cX11_arm 41 = .ok (.getfield 17, 3) := by decide +kernel
theorem dX11_arm_44 : decode cX11_arm 44 = .ok (.bipush 6, 2) := by decide +kernel
theorem dX11_arm_46 : decode cX11_arm 46 = .ok (.bipush 8, 2) := by decide +kernel
theorem dX11_arm_48 : decode cX11_arm 48 = .ok (.iload_n 2, 1) := by decide +kernel
theorem dX11_arm_49 : decode cX11_arm 49 = .ok (.imul, 1) := by decide +kernel
theorem dX11_arm_50 : decode cX11_arm 50 = .ok (.iadd, 1) := by decide +kernel
theorem dX11_arm_51 : decode cX11_arm 51 = .ok (.iload_n 1, 1) := by decide +kernel
theorem dX11_arm_52 : decode cX11_arm 52 = .ok (.iadd, 1) := by decide +kernel
theorem dX11_arm_53 : decode cX11_arm 53 = .ok (.iaload, 1) := by decide +kernel
theorem dX11_arm_54 : decode cX11_arm 54 = .ok (.goto 11, 3) := by decide +kernel
theorem dX11_arm_57 : decode cX11_arm 57 = .ok (.aload_n 0, 1) := by decide +kernel
theorem dX11_arm_58 : decode cX11_arm 58 = .ok (.iload_n 1, 1) := by decide +kernel
theorem dX11_arm_59 : decode cX11_arm 59 = .ok (.iload_n 2, 1) := by decide +kernel
theorem dX11_arm_60 : decode cX11_arm 60 = .ok (.iconst 5, 1) := by decide +kernel
theorem dX11_arm_61 : decode cX11_arm 61 = .ok (.isub, 1) := by decide +kernel
theorem dX11_arm_62 : decode cX11_arm 62 = .ok (.invokevirtual 214, 3) := by decide +kernel
theorem dX11_arm_65 : decode cX11_arm 65 = .ok (.ireturn, 1) := by decide +kernel
def lX11_arm : List (Nat × (Op ⊕ Nat)) := [(0, .inl (o_aload 0 1)), (1, .inl (o_aload 0 2)), (2, .inl (o_iload 1 3)), (3, .inl (o_callV fX11_isArm 1 11 6)), (6, .inl (o_if_eq 23 9)), (9, .inl (o_iload 2 10)), (10, .inl (o_pushI (nI 0) 11)), (11, .inl (o_pushI (nI 7) 13)), (13, .inl (o_callS fX11_in 3 16)), (16, .inl (o_if_eq 23 19)), (19, .inl (o_pushI (nI 1) 20)), (20, .inl (o_goto 24)), (23, .inl (o_pushI (nI 0) 24)), (24, .inl (o_callS fX11_unless 1 27)), (27, .inl (o_callV fX11_isRefused 1 11 30)), (30, .inl (o_if_eq 35 33)), (33, .inl (o_pushI ((-1)) 34)), (34, .inr 0), (35, .inl (o_iload 2 36)), (36, .inl (o_pushI (nI 5) 37)), (37, .inl (o_icmp_ge 57 40)), (40, .inl (o_aload 0 41)), (41, .inl (o_get 11 7 44)), (44, .inl (o_pushI (nI 6) 46)), (46, .inl (o_pushI (nI 8) 48)), (48, .inl (o_iload 2 49)), (49, .inl (o_imul 50)), (50, .inl (o_iadd 51)), (51, .inl (o_iload 1 52)), (52, .inl (o_iadd 53)), (53, .inl (o_iald 54)), (54, .inl (o_goto 65)), (57, .inl (o_aload 0 58)), (58, .inl (o_iload 1 59)), (59, .inl (o_iload 2 60)), (60, .inl (o_pushI (nI 5) 61)), (61, .inl (o_isub 62)), (62, .inl (o_callV fX11_sumOf 2 11 65)), (65, .inr 0)]
theorem qX11_arm : yX11_arm.cls = RX11 ∧ yX11_arm.cls ≠ "java/lang/invoke/MethodHandle" ∧ yX11_arm.cls ≠ "java/lang/invoke/VarHandle" ∧ (parseMethodDescriptor yX11_arm.desc).map (fun d => d.parameters.length) = some 2 := by decide +kernel
set_option maxRecDepth 10000 in
theorem hX11_arm_0 (l : Launch) {p : Program} {e : Env} {s : State} {m : MethodId} {args : Array Value} {below : List Frame} {meth : Method} {c : Code} {D : va_G} {ad adV : Nat → Nat} {cA : Nat → ClassId} {K : Kt} (C0 : Cx p s m args meth c D ad adV cA cX11_arm 3 RX11) (hr : meth.sig.returnType = (some .int)) : ∀ q ∈ lX11_arm, Sd p l e (rmd 3) s m args below meth c (MQ below (QQ D ad cA K) args s 0 0 (AA ad)) D ad cA 3 q.1 (opOf K q.2) := List.forall_mem_cons.mpr ⟨s_aload_n C0 dX11_arm_0 rfl, List.forall_mem_cons.mpr ⟨s_aload_n C0 dX11_arm_1 rfl, List.forall_mem_cons.mpr ⟨s_iload_n C0 dX11_arm_2 rfl, List.forall_mem_cons.mpr ⟨s_callV (ci := 11) C0 (kX11_isArm l) dX11_arm_3 rfl qX11_isArm tw6_214 tw6_216 twp_57 tw1_12 tw6_217 rfl (by decide) (by decide), List.forall_mem_cons.mpr ⟨s_if_eq C0 dX11_arm_6 rfl, List.forall_mem_cons.mpr ⟨s_iload_n C0 dX11_arm_9 rfl, List.forall_mem_cons.mpr ⟨s_iconst C0 dX11_arm_10 rfl, List.forall_mem_cons.mpr ⟨s_bipush C0 dX11_arm_11 (by decide +kernel), List.forall_mem_cons.mpr ⟨s_callS C0 (kX11_in l) dX11_arm_13 qX11_in tw6_112 tw6_113 tw1_12 tw6_114 rfl (by decide) (by decide), List.forall_mem_cons.mpr ⟨s_if_eq C0 dX11_arm_16 rfl, List.forall_mem_cons.mpr ⟨s_iconst C0 dX11_arm_19 rfl, List.forall_mem_cons.mpr ⟨s_goto C0 dX11_arm_20 rfl, List.forall_mem_cons.mpr ⟨s_iconst C0 dX11_arm_23 rfl, List.forall_mem_cons.mpr ⟨s_callS C0 (kX11_unless l) dX11_arm_24 qX11_unless tw6_203 tw6_204 tw1_12 tw6_205 rfl (by decide) (by decide), List.forall_mem_cons.mpr ⟨s_callV (ci := 11) C0 (kX11_isRefused l) dX11_arm_27 rfl qX11_isRefused tw6_118 tw6_120 twp_41 tw1_12 tw6_121 rfl (by decide) (by decide), List.forall_mem_cons.mpr ⟨s_if_eq C0 dX11_arm_30 rfl, List.forall_mem_cons.mpr ⟨s_iconst C0 dX11_arm_33 rfl, List.forall_mem_cons.mpr ⟨s_iret C0 hr dX11_arm_34, List.forall_mem_cons.mpr ⟨s_iload_n C0 dX11_arm_35 rfl, List.forall_mem_cons.mpr ⟨s_iconst C0 dX11_arm_36 rfl, List.forall_mem_cons.mpr ⟨s_icmp_ge C0 dX11_arm_37 rfl, List.forall_mem_cons.mpr ⟨s_aload_n C0 dX11_arm_40 rfl, List.forall_mem_cons.mpr ⟨s_get (ci := 11) (k := 7) C0 dX11_arm_41 inX11 rfl (by decide) tw6_18, List.forall_mem_cons.mpr ⟨s_bipush C0 dX11_arm_44 (by decide +kernel), List.forall_mem_cons.mpr ⟨s_bipush C0 dX11_arm_46 (by decide +kernel), List.forall_mem_cons.mpr ⟨s_iload_n C0 dX11_arm_48 rfl, List.forall_mem_cons.mpr ⟨s_imul C0 dX11_arm_49, List.forall_mem_cons.mpr ⟨s_iadd C0 dX11_arm_50, List.forall_mem_cons.mpr ⟨s_iload_n C0 dX11_arm_51 rfl, List.forall_mem_cons.mpr ⟨s_iadd C0 dX11_arm_52, List.forall_mem_cons.mpr ⟨s_iald C0 dX11_arm_53, List.forall_mem_cons.mpr ⟨s_goto C0 dX11_arm_54 rfl, List.forall_mem_cons.mpr ⟨s_aload_n C0 dX11_arm_57 rfl, List.forall_mem_cons.mpr ⟨s_iload_n C0 dX11_arm_58 rfl, List.forall_mem_cons.mpr ⟨s_iload_n C0 dX11_arm_59 rfl, List.forall_mem_cons.mpr ⟨s_iconst C0 dX11_arm_60 rfl, List.forall_mem_cons.mpr ⟨s_isub C0 dX11_arm_61, List.forall_mem_cons.mpr ⟨s_callV (ci := 11) C0 (kX11_sumOf l) dX11_arm_62 rfl qX11_sumOf tw6_218 tw6_220 twp_58 tw1_12 tw6_221 rfl (by decide) (by decide), List.forall_mem_cons.mpr ⟨s_iret C0 hr dX11_arm_65, fun _ h => absurd h List.not_mem_nil⟩⟩⟩⟩⟩⟩⟩⟩⟩⟩⟩⟩⟩⟩⟩⟩⟩⟩⟩⟩⟩⟩⟩⟩⟩⟩⟩⟩⟩⟩⟩⟩⟩⟩⟩⟩⟩⟩⟩
def fX11_arm : Mf := mf 3 (fun K => tl K lX11_arm)
theorem kX11_arm (l : Launch) : Okm l yX11_arm cX11_arm 3 (some .int) 3 fX11_arm := Okm_tl (own := RX11) (by decide +kernel) rfl (fun C0 hr => hX11_arm_0 l C0 hr)
theorem dX11_game_0 : decode cX11_game 0 = .ok (.aload_n 0, 1) := by decide +kernel
theorem dX11_game_1 : decode cX11_game 1 = .ok (.aload_n 0, 1) := by decide +kernel
theorem dX11_game_2 : decode cX11_game 2 = .ok (.iload_n 1, 1) := by decide +kernel
theorem dX11_game_3 : decode cX11_game 3 = .ok (.invokevirtual 217, 3) := by decide +kernel
theorem dX11_game_6 : decode cX11_game 6 = .ok (.ifCond .eq 16, 3) := by decide +kernel
theorem dX11_game_9 : decode cX11_game 9 = .ok (.iload_n 2, 1) := by decide +kernel
theorem dX11_game_10 : decode cX11_game 10 = .ok (.iconst 0, 1) := by decide +kernel
theorem dX11_game_11 : decode cX11_game 11 = .ok (.iconst 5, 1) := by decide +kernel
theorem dX11_game_12 : decode cX11_game 12 = .ok (.invokestatic 76, 3) := by decide +kernel
theorem dX11_game_15 : decode cX11_game 15 = .ok (.ifCond .eq 7, 3) := by decide +kernel
theorem dX11_game_18 : decode cX11_game 18 = .ok (.iconst 1, 1) := by decide +kernel
theorem dX11_game_19 : decode cX11_game 19 = .ok (.goto 4, 3) := by decide +kernel
theorem dX11_game_22 : decode cX11_game 22 = .ok (.iconst 0, 1) := by decide +kernel
theorem dX11_game_23 : decode cX11_game 23 = .ok (.invokestatic 182, 3) := by decide +kernel
theorem dX11_game_26 : decode cX11_game 26 = .ok (.invokevirtual 159, 3) := by decide +kernel
theorem dX11_game_29 : decode cX11_game 29 = .ok (.ifCond .eq 5, 3) := by decide +kernel
theorem dX11_game_32 : decode cX11_game 32 = .ok (.iconst (-1), 1) := by decide +kernel
theorem dX11_game_33 : decode cX11_game 33 = .ok (.ireturn, 1) := by decide +kernel
theorem dX11_game_34 : decode cX11_game 34 = .ok (.iload_n 2, 1) := by decide +kernel
theorem dX11_game_35 : decode cX11_game 35 = .ok (.tableswitch 79 0 4 #[33, 43, 53, 63, 73], 33) := by decide +kernel
theorem dX11_game_68 : decode cX11_game 68 = .ok (.aload_n 0, 1) := by decide +kernel
theorem dX11_game_69 : decode cX11_game 69 = .ok (.getfield 17, 3) := by decide +kernel
theorem dX11_game_72 : decode cX11_game 72 = .ok (.bipush 46, 2) := by decide +kernel
theorem dX11_game_74 : decode cX11_game 74 = .ok (.iload_n 1, 1) := by decide +kernel
theorem dX11_game_75 : decode cX11_game 75 = .ok (.iadd, 1) := by decide +kernel
theorem dX11_game_76 : decode cX11_game 76 = .ok (.iaload, 1) := by decide +kernel
theorem dX11_game_77 : decode cX11_game 77 = .ok (.ireturn, 1) := by decide +kernel
theorem dX11_game_78 : decode cX11_game 78 = .ok (.aload_n 0, 1) := by decide +kernel
theorem dX11_game_79 : decode cX11_game 79 = .ok (.getfield 17, 3) := by decide +kernel
theorem dX11_game_82 : decode cX11_game 82 = .ok (.bipush 66, 2) := by decide +kernel
theorem dX11_game_84 : decode cX11_game 84 = .ok (.iload_n 1, 1) := by decide +kernel
theorem dX11_game_85 : decode cX11_game 85 = .ok (.iadd, 1) := by decide +kernel
theorem dX11_game_86 : decode cX11_game 86 = .ok (.iaload, 1) := by decide +kernel
theorem dX11_game_87 : decode cX11_game 87 = .ok (.ireturn, 1) := by decide +kernel
theorem dX11_game_88 : decode cX11_game 88 = .ok (.aload_n 0, 1) := by decide +kernel
theorem dX11_game_89 : decode cX11_game 89 = .ok (.getfield 17, 3) := by decide +kernel
theorem dX11_game_92 : decode cX11_game 92 = .ok (.bipush 86, 2) := by decide +kernel
theorem dX11_game_94 : decode cX11_game 94 = .ok (.iload_n 1, 1) := by decide +kernel
theorem dX11_game_95 : decode cX11_game 95 = .ok (.iadd, 1) := by decide +kernel
theorem dX11_game_96 : decode cX11_game 96 = .ok (.iaload, 1) := by decide +kernel
theorem dX11_game_97 : decode cX11_game 97 = .ok (.ireturn, 1) := by decide +kernel
theorem dX11_game_98 : decode cX11_game 98 = .ok (.aload_n 0, 1) := by decide +kernel
theorem dX11_game_99 : decode cX11_game 99 = .ok (.getfield 17, 3) := by decide +kernel
theorem dX11_game_102 : decode cX11_game 102 = .ok (.bipush 106, 2) := by decide +kernel
theorem dX11_game_104 : decode cX11_game 104 = .ok (.iload_n 1, 1) := by decide +kernel
theorem dX11_game_105 : decode cX11_game 105 = .ok (.iadd, 1) := by decide +kernel
theorem dX11_game_106 : decode cX11_game 106 = .ok (.iaload, 1) := by decide +kernel
theorem dX11_game_107 : decode cX11_game 107 = .ok (.ireturn, 1) := by decide +kernel
theorem dX11_game_108 : decode cX11_game 108 = .ok (.aload_n 0, 1) := by decide +kernel
theorem dX11_game_109 : decode cX11_game 109 = .ok (.iload_n 1, 1) := by decide +kernel
theorem dX11_game_110 : decode cX11_game 110 = .ok (.invokevirtual 220, 3) := by decide +kernel
theorem dX11_game_113 : decode cX11_game 113 = .ok (.ireturn, 1) := by decide +kernel
theorem dX11_game_114 : decode cX11_game 114 = .ok (.aload_n 0, 1) := by decide +kernel
theorem dX11_game_115 : decode cX11_game 115 = .ok (.iload_n 1, 1) := by decide +kernel
theorem dX11_game_116 : decode cX11_game 116 = .ok (.invokevirtual 223, 3) := by decide +kernel
theorem dX11_game_119 : decode cX11_game 119 = .ok (.ireturn, 1) := by decide +kernel
def lX11_game_0 : List (Nat × (Op ⊕ Nat)) := [(0, .inl (o_aload 0 1)), (1, .inl (o_aload 0 2)), (2, .inl (o_iload 1 3)), (3, .inl (o_callV fX11_isGame 1 11 6)), (6, .inl (o_if_eq 22 9)), (9, .inl (o_iload 2 10)), (10, .inl (o_pushI (nI 0) 11)), (11, .inl (o_pushI (nI 5) 12)), (12, .inl (o_callS fX11_in 3 15)), (15, .inl (o_if_eq 22 18)), (18, .inl (o_pushI (nI 1) 19)), (19, .inl (o_goto 23)), (22, .inl (o_pushI (nI 0) 23)), (23, .inl (o_callS fX11_unless 1 26)), (26, .inl (o_callV fX11_isRefused 1 11 29)), (29, .inl (o_if_eq 34 32)), (32, .inl (o_pushI ((-1)) 33)), (33, .inr 0), (34, .inl (o_iload 2 35)), (35, .inl (o_table 0 4 114 [68, 78, 88, 98, 108])), (68, .inl (o_aload 0 69)), (69, .inl (o_get 11 7 72)), (72, .inl (o_pushI (nI 46) 74)), (74, .inl (o_iload 1 75)), (75, .inl (o_iadd 76)), (76, .inl (o_iald 77)), (77, .inr 0), (78, .inl (o_aload 0 79)), (79, .inl (o_get 11 7 82)), (82, .inl (o_pushI (nI 66) 84)), (84, .inl (o_iload 1 85)), (85, .inl (o_iadd 86)), (86, .inl (o_iald 87)), (87, .inr 0), (88, .inl (o_aload 0 89)), (89, .inl (o_get 11 7 92)), (92, .inl (o_pushI (nI 86) 94)), (94, .inl (o_iload 1 95)), (95, .inl (o_iadd 96)), (96, .inl (o_iald 97))]
def lX11_game_1 : List (Nat × (Op ⊕ Nat)) := [(97, .inr 0), (98, .inl (o_aload 0 99)), (99, .inl (o_get 11 7 102)), (102, .inl (o_pushI (nI 106) 104)), (104, .inl (o_iload 1 105)), (105, .inl (o_iadd 106)), (106, .inl (o_iald 107)), (107, .inr 0), (108, .inl (o_aload 0 109)), (109, .inl (o_iload 1 110)), (110, .inl (o_callV fX11_leftOf 1 11 113)), (113, .inr 0), (114, .inl (o_aload 0 115)), (115, .inl (o_iload 1 116)), (116, .inl (o_callV fX11_valueOf 1 11 119)), (119, .inr 0)]
def lX11_game : List (Nat × (Op ⊕ Nat)) := lX11_game_0 ++ (lX11_game_1)
theorem qX11_game : yX11_game.cls = RX11 ∧ yX11_game.cls ≠ "java/lang/invoke/MethodHandle" ∧ yX11_game.cls ≠ "java/lang/invoke/VarHandle" ∧ (parseMethodDescriptor yX11_game.desc).map (fun d => d.parameters.length) = some 2 := by decide +kernel
set_option maxRecDepth 10000 in
theorem hX11_game_0 (l : Launch) {p : Program} {e : Env} {s : State} {m : MethodId} {args : Array Value} {below : List Frame} {meth : Method} {c : Code} {D : va_G} {ad adV : Nat → Nat} {cA : Nat → ClassId} {K : Kt} (C0 : Cx p s m args meth c D ad adV cA cX11_game 3 RX11) (hr : meth.sig.returnType = (some .int)) : ∀ q ∈ lX11_game_0, Sd p l e (rmd 3) s m args below meth c (MQ below (QQ D ad cA K) args s 0 0 (AA ad)) D ad cA 3 q.1 (opOf K q.2) := List.forall_mem_cons.mpr ⟨s_aload_n C0 dX11_game_0 rfl, List.forall_mem_cons.mpr ⟨s_aload_n C0 dX11_game_1 rfl, List.forall_mem_cons.mpr ⟨s_iload_n C0 dX11_game_2 rfl, List.forall_mem_cons.mpr ⟨s_callV (ci := 11) C0 (kX11_isGame l) dX11_game_3 rfl qX11_isGame tw7_14 tw7_16 twp_66 tw1_12 tw7_17 rfl (by decide) (by decide), List.forall_mem_cons.mpr ⟨s_if_eq C0 dX11_game_6 rfl, List.forall_mem_cons.mpr ⟨s_iload_n C0 dX11_game_9 rfl, List.forall_mem_cons.mpr ⟨s_iconst C0 dX11_game_10 rfl, List.forall_mem_cons.mpr ⟨s_iconst C0 dX11_game_11 rfl, List.forall_mem_cons.mpr ⟨s_callS C0 (kX11_in l) dX11_game_12 qX11_in tw6_112 tw6_113 tw1_12 tw6_114 rfl (by decide) (by decide), List.forall_mem_cons.mpr ⟨s_if_eq C0 dX11_game_15 rfl, List.forall_mem_cons.mpr ⟨s_iconst C0 dX11_game_18 rfl, List.forall_mem_cons.mpr ⟨s_goto C0 dX11_game_19 rfl, List.forall_mem_cons.mpr ⟨s_iconst C0 dX11_game_22 rfl, List.forall_mem_cons.mpr ⟨s_callS C0 (kX11_unless l) dX11_game_23 qX11_unless tw6_203 tw6_204 tw1_12 tw6_205 rfl (by decide) (by decide), List.forall_mem_cons.mpr ⟨s_callV (ci := 11) C0 (kX11_isRefused l) dX11_game_26 rfl qX11_isRefused tw6_118 tw6_120 twp_41 tw1_12 tw6_121 rfl (by decide) (by decide), List.forall_mem_cons.mpr ⟨s_if_eq C0 dX11_game_29 rfl, List.forall_mem_cons.mpr ⟨s_iconst C0 dX11_game_32 rfl, List.forall_mem_cons.mpr ⟨s_iret C0 hr dX11_game_33, List.forall_mem_cons.mpr ⟨s_iload_n C0 dX11_game_34 rfl, List.forall_mem_cons.mpr ⟨s_table C0 dX11_game_35 rfl rfl rfl, List.forall_mem_cons.mpr ⟨s_aload_n C0 dX11_game_68 rfl, List.forall_mem_cons.mpr ⟨s_get (ci := 11) (k := 7) C0 dX11_game_69 inX11 rfl (by decide) tw6_18, List.forall_mem_cons.mpr ⟨s_bipush C0 dX11_game_72 (by decide +kernel), List.forall_mem_cons.mpr ⟨s_iload_n C0 dX11_game_74 rfl, List.forall_mem_cons.mpr ⟨s_iadd C0 dX11_game_75, List.forall_mem_cons.mpr ⟨s_iald C0 dX11_game_76, List.forall_mem_cons.mpr ⟨s_iret C0 hr dX11_game_77, List.forall_mem_cons.mpr ⟨s_aload_n C0 dX11_game_78 rfl, List.forall_mem_cons.mpr ⟨s_get (ci := 11) (k := 7) C0 dX11_game_79 inX11 rfl (by decide) tw6_18, List.forall_mem_cons.mpr ⟨s_bipush C0 dX11_game_82 (by decide +kernel), List.forall_mem_cons.mpr ⟨s_iload_n C0 dX11_game_84 rfl, List.forall_mem_cons.mpr ⟨s_iadd C0 dX11_game_85, List.forall_mem_cons.mpr ⟨s_iald C0 dX11_game_86, List.forall_mem_cons.mpr ⟨s_iret C0 hr dX11_game_87, List.forall_mem_cons.mpr ⟨s_aload_n C0 dX11_game_88 rfl, List.forall_mem_cons.mpr ⟨s_get (ci := 11) (k := 7) C0 dX11_game_89 inX11 rfl (by decide) tw6_18, List.forall_mem_cons.mpr ⟨s_bipush C0 dX11_game_92 (by decide +kernel), List.forall_mem_cons.mpr ⟨s_iload_n C0 dX11_game_94 rfl, List.forall_mem_cons.mpr ⟨s_iadd C0 dX11_game_95, List.forall_mem_cons.mpr ⟨s_iald C0 dX11_game_96, fun _ h => absurd h List.not_mem_nil⟩⟩⟩⟩⟩⟩⟩⟩⟩⟩⟩⟩⟩⟩⟩⟩⟩⟩⟩⟩⟩⟩⟩⟩⟩⟩⟩⟩⟩⟩⟩⟩⟩⟩⟩⟩⟩⟩⟩⟩
set_option maxRecDepth 10000 in
theorem hX11_game_1 (l : Launch) {p : Program} {e : Env} {s : State} {m : MethodId} {args : Array Value} {below : List Frame} {meth : Method} {c : Code} {D : va_G} {ad adV : Nat → Nat} {cA : Nat → ClassId} {K : Kt} (C0 : Cx p s m args meth c D ad adV cA cX11_game 3 RX11) (hr : meth.sig.returnType = (some .int)) : ∀ q ∈ lX11_game_1, Sd p l e (rmd 3) s m args below meth c (MQ below (QQ D ad cA K) args s 0 0 (AA ad)) D ad cA 3 q.1 (opOf K q.2) := List.forall_mem_cons.mpr ⟨s_iret C0 hr dX11_game_97, List.forall_mem_cons.mpr ⟨s_aload_n C0 dX11_game_98 rfl, List.forall_mem_cons.mpr ⟨s_get (ci := 11) (k := 7) C0 dX11_game_99 inX11 rfl (by decide) tw6_18, List.forall_mem_cons.mpr ⟨s_bipush C0 dX11_game_102 (by decide +kernel), List.forall_mem_cons.mpr ⟨s_iload_n C0 dX11_game_104 rfl, List.forall_mem_cons.mpr ⟨s_iadd C0 dX11_game_105, List.forall_mem_cons.mpr ⟨s_iald C0 dX11_game_106, List.forall_mem_cons.mpr ⟨s_iret C0 hr dX11_game_107, List.forall_mem_cons.mpr ⟨s_aload_n C0 dX11_game_108 rfl, List.forall_mem_cons.mpr ⟨s_iload_n C0 dX11_game_109 rfl, List.forall_mem_cons.mpr ⟨s_callV (ci := 11) C0 (kX11_leftOf l) dX11_game_110 rfl qX11_leftOf tw7_18 tw7_20 twp_67 tw1_12 tw7_21 rfl (by decide) (by decide), List.forall_mem_cons.mpr ⟨s_iret C0 hr dX11_game_113, List.forall_mem_cons.mpr ⟨s_aload_n C0 dX11_game_114 rfl, List.forall_mem_cons.mpr ⟨s_iload_n C0 dX11_game_115 rfl, List.forall_mem_cons.mpr ⟨s_callV (ci := 11) C0 (kX11_valueOf l) dX11_game_116 rfl qX11_valueOf tw7_22 tw7_24 twp_68 tw1_12 tw7_25 rfl (by decide) (by decide), List.forall_mem_cons.mpr ⟨s_iret C0 hr dX11_game_119, fun _ h => absurd h List.not_mem_nil⟩⟩⟩⟩⟩⟩⟩⟩⟩⟩⟩⟩⟩⟩⟩⟩
def fX11_game : Mf := mf 3 (fun K => tl K lX11_game)
theorem kX11_game (l : Launch) : Okm l yX11_game cX11_game 3 (some .int) 3 fX11_game := Okm_tl (own := RX11) (by decide +kernel) rfl (fun C0 hr => List.forall_mem_append.mpr ⟨hX11_game_0 l C0 hr, hX11_game_1 l C0 hr⟩)
theorem dX11_restOf_0 : decode cX11_restOf 0 = .ok (.iconst 0, 1) := by decide +kernel
theorem dX11_restOf_1 : decode cX11_restOf 1 = .ok (.istore_n 2, 1) := by decide +kernel
theorem dX11_restOf_2 : decode cX11_restOf 2 = .ok (.iconst 0, 1) := by decide +kernel
theorem dX11_restOf_3 : decode cX11_restOf 3 = .ok (.istore_n 3, 1) := by decide +kernel
theorem dX11_restOf_4 : decode cX11_restOf 4 = .ok (.iload_n 3, 1) := by decide +kernel
theorem dX11_restOf_5 : decode cX11_restOf 5 = .ok (.aload_n 0, 1) := by decide +kernel
theorem dX11_restOf_6 : decode cX11_restOf 6 = .ok (.getfield 17, 3) := by decide +kernel
theorem dX11_restOf_9 : decode cX11_restOf 9 = .ok (.iconst 2, 1) := by decide +kernel
theorem dX11_restOf_10 : decode cX11_restOf 10 = .ok (.iaload, 1) := by decide +kernel
theorem dX11_restOf_11 : decode cX11_restOf 11 = .ok (.if_icmp .ge 38, 3) := by decide +kernel
theorem dX11_restOf_14 : decode cX11_restOf 14 = .ok (.aload_n 0, 1) := by decide +kernel
theorem dX11_restOf_15 : decode cX11_restOf 15 = .ok (.getfield 17, 3) := by decide +kernel
theorem dX11_restOf_18 : decode cX11_restOf 18 = .ok (.sipush 246, 3) := by decide +kernel
theorem dX11_restOf_21 : decode cX11_restOf 21 = .ok (.iload_n 3, 1) := by decide +kernel
theorem dX11_restOf_22 : decode cX11_restOf 22 = .ok (.iadd, 1) := by decide +kernel
theorem dX11_restOf_23 : decode cX11_restOf 23 = .ok (.iaload, 1) := by decide +kernel
theorem dX11_restOf_24 : decode cX11_restOf 24 = .ok (.iload_n 1, 1) := by decide +kernel
theorem dX11_restOf_25 : decode cX11_restOf 25 = .ok (.if_icmp .gt 16, 3) := by decide +kernel
theorem dX11_restOf_28 : decode cX11_restOf 28 = .ok (.aload_n 0, 1) := by decide +kernel
theorem dX11_restOf_29 : decode cX11_restOf 29 = .ok (.getfield 17, 3) := by decide +kernel
theorem dX11_restOf_32 : decode cX11_restOf 32 = .ok (.sipush 251, 3) := by decide +kernel
theorem dX11_restOf_35 : decode cX11_restOf 35 = .ok (.iload_n 3, 1) := by decide +kernel
theorem dX11_restOf_36 : decode cX11_restOf 36 = .ok (.iadd, 1) := by decide +kernel
theorem dX11_restOf_37 : decode cX11_restOf 37 = .ok (.iaload, 1) := by decide +kernel
theorem dX11_restOf_38 : decode cX11_restOf 38 = .ok (.goto 4, 3) := by decide +kernel
theorem dX11_restOf_41 : decode cX11_restOf 41 = .ok (.iload_n 2, 1) := by decide +kernel
theorem dX11_restOf_42 : decode cX11_restOf 42 = .ok (.istore_n 2, 1) := by decide +kernel
theorem dX11_restOf_43 : decode cX11_restOf 43 = .ok (.iinc 3 1, 3) := by decide +kernel
theorem dX11_restOf_46 : decode cX11_restOf 46 = .ok (.goto (-42), 3) := by decide +kernel
theorem dX11_restOf_49 : decode cX11_restOf 49 = .ok (.iload_n 2, 1) := by decide +kernel
theorem dX11_restOf_50 : decode cX11_restOf 50 = .ok (.ireturn, 1) := by decide +kernel
def lX11_restOf : List (Nat × (Op ⊕ Nat)) := [(0, .inl (o_pushI (nI 0) 1)), (1, .inl (o_istore 2 2)), (2, .inl (o_pushI (nI 0) 3)), (3, .inl (o_istore 3 4)), (4, .inl (o_iload 3 5)), (5, .inl (o_aload 0 6)), (6, .inl (o_get 11 7 9)), (9, .inl (o_pushI (nI 2) 10)), (10, .inl (o_iald 11)), (11, .inl (o_icmp_ge 49 14)), (14, .inl (o_aload 0 15)), (15, .inl (o_get 11 7 18)), (18, .inl (o_pushI (nI 246) 21)), (21, .inl (o_iload 3 22)), (22, .inl (o_iadd 23)), (23, .inl (o_iald 24)), (24, .inl (o_iload 1 25)), (25, .inl (o_icmp_gt 41 28)), (28, .inl (o_aload 0 29)), (29, .inl (o_get 11 7 32)), (32, .inl (o_pushI (nI 251) 35)), (35, .inl (o_iload 3 36)), (36, .inl (o_iadd 37)), (37, .inl (o_iald 38)), (38, .inl (o_goto 42)), (41, .inl (o_iload 2 42)), (42, .inl (o_istore 2 43)), (43, .inl (o_iinc 3 (nI 1) 46)), (46, .inl (o_goto 4)), (49, .inl (o_iload 2 50)), (50, .inr 0)]
theorem qX11_restOf : yX11_restOf.cls = RX11 ∧ yX11_restOf.cls ≠ "java/lang/invoke/MethodHandle" ∧ yX11_restOf.cls ≠ "java/lang/invoke/VarHandle" ∧ (parseMethodDescriptor yX11_restOf.desc).map (fun d => d.parameters.length) = some 1 := by decide +kernel
set_option maxRecDepth 10000 in
theorem hX11_restOf_0 (l : Launch) {p : Program} {e : Env} {s : State} {m : MethodId} {args : Array Value} {below : List Frame} {meth : Method} {c : Code} {D : va_G} {ad adV : Nat → Nat} {cA : Nat → ClassId} {K : Kt} (C0 : Cx p s m args meth c D ad adV cA cX11_restOf 4 RX11) (hr : meth.sig.returnType = (some .int)) : ∀ q ∈ lX11_restOf, Sd p l e (rmd 0) s m args below meth c (MQ below (QQ D ad cA K) args s 0 0 (AA ad)) D ad cA 4 q.1 (opOf K q.2) := List.forall_mem_cons.mpr ⟨s_iconst C0 dX11_restOf_0 rfl, List.forall_mem_cons.mpr ⟨s_istore_n C0 dX11_restOf_1 rfl (by decide), List.forall_mem_cons.mpr ⟨s_iconst C0 dX11_restOf_2 rfl, List.forall_mem_cons.mpr ⟨s_istore_n C0 dX11_restOf_3 rfl (by decide), List.forall_mem_cons.mpr ⟨s_iload_n C0 dX11_restOf_4 rfl, List.forall_mem_cons.mpr ⟨s_aload_n C0 dX11_restOf_5 rfl, List.forall_mem_cons.mpr ⟨s_get (ci := 11) (k := 7) C0 dX11_restOf_6 inX11 rfl (by decide) tw6_18, List.forall_mem_cons.mpr ⟨s_iconst C0 dX11_restOf_9 rfl, List.forall_mem_cons.mpr ⟨s_iald C0 dX11_restOf_10, List.forall_mem_cons.mpr ⟨s_icmp_ge C0 dX11_restOf_11 rfl, List.forall_mem_cons.mpr ⟨s_aload_n C0 dX11_restOf_14 rfl, List.forall_mem_cons.mpr ⟨s_get (ci := 11) (k := 7) C0 dX11_restOf_15 inX11 rfl (by decide) tw6_18, List.forall_mem_cons.mpr ⟨s_sipush C0 dX11_restOf_18 (by decide +kernel), List.forall_mem_cons.mpr ⟨s_iload_n C0 dX11_restOf_21 rfl, List.forall_mem_cons.mpr ⟨s_iadd C0 dX11_restOf_22, List.forall_mem_cons.mpr ⟨s_iald C0 dX11_restOf_23, List.forall_mem_cons.mpr ⟨s_iload_n C0 dX11_restOf_24 rfl, List.forall_mem_cons.mpr ⟨s_icmp_gt C0 dX11_restOf_25 rfl, List.forall_mem_cons.mpr ⟨s_aload_n C0 dX11_restOf_28 rfl, List.forall_mem_cons.mpr ⟨s_get (ci := 11) (k := 7) C0 dX11_restOf_29 inX11 rfl (by decide) tw6_18, List.forall_mem_cons.mpr ⟨s_sipush C0 dX11_restOf_32 (by decide +kernel), List.forall_mem_cons.mpr ⟨s_iload_n C0 dX11_restOf_35 rfl, List.forall_mem_cons.mpr ⟨s_iadd C0 dX11_restOf_36, List.forall_mem_cons.mpr ⟨s_iald C0 dX11_restOf_37, List.forall_mem_cons.mpr ⟨s_goto C0 dX11_restOf_38 rfl, List.forall_mem_cons.mpr ⟨s_iload_n C0 dX11_restOf_41 rfl, List.forall_mem_cons.mpr ⟨s_istore_n C0 dX11_restOf_42 rfl (by decide), List.forall_mem_cons.mpr ⟨s_iinc C0 dX11_restOf_43 rfl (by decide), List.forall_mem_cons.mpr ⟨s_goto C0 dX11_restOf_46 rfl, List.forall_mem_cons.mpr ⟨s_iload_n C0 dX11_restOf_49 rfl, List.forall_mem_cons.mpr ⟨s_iret C0 hr dX11_restOf_50, fun _ h => absurd h List.not_mem_nil⟩⟩⟩⟩⟩⟩⟩⟩⟩⟩⟩⟩⟩⟩⟩⟩⟩⟩⟩⟩⟩⟩⟩⟩⟩⟩⟩⟩⟩⟩⟩
def fX11_restOf : Mf := mf 4 (fun K => tl K lX11_restOf)
theorem kX11_restOf (l : Launch) : Okm l yX11_restOf cX11_restOf 4 (some .int) 0 fX11_restOf := Okm_tl (own := RX11) (by decide +kernel) rfl (fun C0 hr => hX11_restOf_0 l C0 hr)
theorem dX11_rest_0 : decode cX11_rest 0 = .ok (.aload_n 0, 1) := by decide +kernel
theorem dX11_rest_1 : decode cX11_rest 1 = .ok (.aload_n 0, 1) := by decide +kernel
theorem dX11_rest_2 : decode cX11_rest 2 = .ok (.getfield 171, 3) := by decide +kernel
theorem dX11_rest_5 : decode cX11_rest 5 = .ok (.iload_n 1, 1) := by decide +kernel
theorem dX11_rest_6 : decode cX11_rest 6 = .ok (.iconst 0, 1) := by decide +kernel
theorem dX11_rest_7 : decode cX11_rest 7 = .ok (.sipush 200, 3) := by decide +kernel
theorem dX11_rest_10 : decode cX11_rest 10 = .ok (.invokestatic 76, 3) := by decide +kernel
theorem dX11_rest_13 : decode cX11_rest 13 = .ok (.invokestatic 155, 3) := by decide +kernel
theorem dX11_rest_16 : decode cX11_rest 16 = .ok (.invokevirtual 159, 3) := by decide +kernel
theorem dX11_rest_19 : decode cX11_rest 19 = .ok (.ifCond .eq 7, 3) := by decide +kernel
theorem dX11_rest_22 : decode cX11_rest 22 = .ok (.iconst (-1), 1) := by decide +kernel
theorem dX11_rest_23 : decode cX11_rest 23 = .ok (.goto 8, 3) := by decide +kernel
theorem dX11_rest_26 : decode cX11_rest 26 = .ok (.aload_n 0, 1) := by decide +kernel
theorem dX11_rest_27 : decode cX11_rest 27 = .ok (.iload_n 1, 1) := by decide +kernel
theorem dX11_rest_28 : decode cX11_rest 28 = .ok (.invokevirtual 226, 3) := by decide +kernel
theorem dX11_rest_31 : decode cX11_rest 31 = .ok (.ireturn, 1) := by decide +kernel
def lX11_rest : List (Nat × (Op ⊕ Nat)) := [(0, .inl (o_aload 0 1)), (1, .inl (o_aload 0 2)), (2, .inl (o_get 11 6 5)), (5, .inl (o_iload 1 6)), (6, .inl (o_pushI (nI 0) 7)), (7, .inl (o_pushI (nI 200) 10)), (10, .inl (o_callS fX11_in 3 13)), (13, .inl (o_callS fX11_unless_ 2 16)), (16, .inl (o_callV fX11_isRefused 1 11 19)), (19, .inl (o_if_eq 26 22)), (22, .inl (o_pushI ((-1)) 23)), (23, .inl (o_goto 31)), (26, .inl (o_aload 0 27)), (27, .inl (o_iload 1 28)), (28, .inl (o_callV fX11_restOf 1 11 31)), (31, .inr 0)]
theorem qX11_rest : yX11_rest.cls = RX11 ∧ yX11_rest.cls ≠ "java/lang/invoke/MethodHandle" ∧ yX11_rest.cls ≠ "java/lang/invoke/VarHandle" ∧ (parseMethodDescriptor yX11_rest.desc).map (fun d => d.parameters.length) = some 1 := by decide +kernel
set_option maxRecDepth 10000 in
theorem hX11_rest_0 (l : Launch) {p : Program} {e : Env} {s : State} {m : MethodId} {args : Array Value} {below : List Frame} {meth : Method} {c : Code} {D : va_G} {ad adV : Nat → Nat} {cA : Nat → ClassId} {K : Kt} (C0 : Cx p s m args meth c D ad adV cA cX11_rest 2 RX11) (hr : meth.sig.returnType = (some .int)) : ∀ q ∈ lX11_rest, Sd p l e (rmd 1) s m args below meth c (MQ below (QQ D ad cA K) args s 0 0 (AA ad)) D ad cA 2 q.1 (opOf K q.2) := List.forall_mem_cons.mpr ⟨s_aload_n C0 dX11_rest_0 rfl, List.forall_mem_cons.mpr ⟨s_aload_n C0 dX11_rest_1 rfl, List.forall_mem_cons.mpr ⟨s_get (ci := 11) (k := 6) C0 dX11_rest_2 inX11 rfl (by decide) tw6_17, List.forall_mem_cons.mpr ⟨s_iload_n C0 dX11_rest_5 rfl, List.forall_mem_cons.mpr ⟨s_iconst C0 dX11_rest_6 rfl, List.forall_mem_cons.mpr ⟨s_sipush C0 dX11_rest_7 (by decide +kernel), List.forall_mem_cons.mpr ⟨s_callS C0 (kX11_in l) dX11_rest_10 qX11_in tw6_112 tw6_113 tw1_12 tw6_114 rfl (by decide) (by decide), List.forall_mem_cons.mpr ⟨s_callS C0 (kX11_unless_ l) dX11_rest_13 qX11_unless_ tw6_115 tw6_116 tw1_12 tw6_117 rfl (by decide) (by decide), List.forall_mem_cons.mpr ⟨s_callV (ci := 11) C0 (kX11_isRefused l) dX11_rest_16 rfl qX11_isRefused tw6_118 tw6_120 twp_41 tw1_12 tw6_121 rfl (by decide) (by decide), List.forall_mem_cons.mpr ⟨s_if_eq C0 dX11_rest_19 rfl, List.forall_mem_cons.mpr ⟨s_iconst C0 dX11_rest_22 rfl, List.forall_mem_cons.mpr ⟨s_goto C0 dX11_rest_23 rfl, List.forall_mem_cons.mpr ⟨s_aload_n C0 dX11_rest_26 rfl, List.forall_mem_cons.mpr ⟨s_iload_n C0 dX11_rest_27 rfl, List.forall_mem_cons.mpr ⟨s_callV (ci := 11) C0 (kX11_restOf l) dX11_rest_28 rfl qX11_restOf tw7_30 tw7_32 twp_69 tw1_12 tw7_33 rfl (by decide) (by decide), List.forall_mem_cons.mpr ⟨s_iret C0 hr dX11_rest_31, fun _ h => absurd h List.not_mem_nil⟩⟩⟩⟩⟩⟩⟩⟩⟩⟩⟩⟩⟩⟩⟩⟩
def fX11_rest : Mf := mf 2 (fun K => tl K lX11_rest)
theorem kX11_rest (l : Launch) : Okm l yX11_rest cX11_rest 2 (some .int) 1 fX11_rest := Okm_tl (own := RX11) (by decide +kernel) rfl (fun C0 hr => hX11_rest_0 l C0 hr)
theorem dX11_laysDays_0 : decode cX11_laysDays 0 = .ok (.iconst 0, 1) := by decide +kernel
theorem dX11_laysDays_1 : decode cX11_laysDays 1 = .ok (.istore 4, 2) := by decide +kernel
theorem dX11_laysDays_3 : decode cX11_laysDays 3 = .ok (.iload 4, 2) := by decide +kernel
theorem dX11_laysDays_5 : decode cX11_laysDays 5 = .ok (.bipush 60, 2) := by decide +kernel
theorem dX11_laysDays_7 : decode cX11_laysDays 7 = .ok (.if_icmp .ge 17, 3) := by decide +kernel
theorem dX11_laysDays_10 : decode cX11_laysDays 10 = .ok (.aload_n 0, 1) := by decide +kernel
theorem dX11_laysDays_11 : decode cX11_laysDays 11 = .ok (.getfield 29, 3) := by decide +kernel
theorem dX11_laysDays_14 : decode cX11_laysDays 14 = .ok (.iload 4, 2) := by decide +kernel
theorem dX11_laysDays_16 : decode cX11_laysDays 16 = .ok (.iconst 0, 1) := by decide +kernel
theorem dX11_laysDays_17 : decode cX11_laysDays 17 = .ok (.iastore, 1) := by decide +kernel
theorem dX11_laysDays_18 : decode cX11_laysDays 18 = .ok (.iinc 4 1, 3) := by decide +kernel
theorem dX11_laysDays_21 : decode cX11_laysDays 21 = .ok (.goto (-18), 3) := by decide +kernel
theorem dX11_laysDays_24 : decode cX11_laysDays 24 = .ok (.iconst 0, 1) := by decide +kernel
theorem dX11_laysDays_25 : decode cX11_laysDays 25 = .ok (.istore 4, 2) := by decide +kernel
theorem dX11_laysDays_27 : decode cX11_laysDays 27 = .ok (.iload 4, 2) := by decide +kernel
theorem dX11_laysDays_29 : decode cX11_laysDays 29 = .ok (.aload_n 0, 1) := by decide +kernel
theorem dX11_laysDays_30 : decode cX11_laysDays 30 = .ok (.getfield 17, 3) := by decide +kernel
theorem dX11_laysDays_33 : decode cX11_laysDays 33 = .ok (.iconst 1, 1) := by decide +kernel
theorem dX11_laysDays_34 : decode cX11_laysDays 34 = .ok (.iaload, 1) := by decide +kernel
theorem dX11_laysDays_35 : decode cX11_laysDays 35 = .ok (.if_icmp .ge 89, 3) := by decide +kernel
theorem dX11_laysDays_38 : decode cX11_laysDays 38 = .ok (.iconst 0, 1) := by decide +kernel
theorem dX11_laysDays_39 : decode cX11_laysDays 39 = .ok (.istore 5, 2) := by decide +kernel
theorem dX11_laysDays_41 : decode cX11_laysDays 41 = .ok (.iload 5, 2) := by decide +kernel
theorem dX11_laysDays_43 : decode cX11_laysDays 43 = .ok (.aload_n 0, 1) := by decide +kernel
theorem dX11_laysDays_44 : decode cX11_laysDays 44 = .ok (.getfield 17, 3) := by decide +kernel
theorem dX11_laysDays_47 : decode cX11_laysDays 47 = .ok (.bipush 106, 2) := by decide +kernel
theorem dX11_laysDays_49 : decode cX11_laysDays 49 = .ok (.iload 4, 2) := by decide +kernel
theorem dX11_laysDays_51 : decode cX11_laysDays 51 = .ok (.iadd, 1) := by decide +kernel
theorem dX11_laysDays_52 : decode cX11_laysDays 52 = .ok (.iaload, 1) := by decide +kernel
theorem dX11_laysDays_53 : decode cX11_laysDays 53 = .ok (.if_icmp .ge 65, 3) := by decide +kernel
theorem dX11_laysDays_56 : decode cX11_laysDays 56 = .ok (.iload 4, 2) := by decide +kernel
theorem dX11_laysDays_58 : decode cX11_laysDays 58 = .ok (.iload_n 2, 1) := by decide +kernel
theorem dX11_laysDays_59 : decode cX11_laysDays 59 = .ok (.iload_n 2, 1) := by decide +kernel
theorem dX11_laysDays_60 : decode cX11_laysDays 60 = .ok (.iload_n 3, 1) := by decide +kernel
theorem dX11_laysDays_61 : decode cX11_laysDays 61 = .ok (.iadd, 1) := by decide +kernel
theorem dX11_laysDays_62 : decode cX11_laysDays 62 = .ok (.iconst 1, 1) := by decide +kernel
theorem dX11_laysDays_63 : decode cX11_laysDays 63 = .ok (.isub, 1) := by decide +kernel
theorem dX11_laysDays_64 : decode cX11_laysDays 64 = .ok (.invokestatic 76, 3) := by decide +kernel
theorem dX11_laysDays_67 : decode cX11_laysDays 67 = .ok (.ifCond .ne 51, 3) := by decide +kernel
theorem dX11_laysDays_70 : decode cX11_laysDays 70 = .ok (.aload_n 0, 1) := by decide +kernel
theorem dX11_laysDays_71 : decode cX11_laysDays 71 = .ok (.getfield 29, 3) := by decide +kernel
theorem dX11_laysDays_74 : decode cX11_laysDays 74 = .ok (.aload_n 0, 1) := by decide +kernel
theorem dX11_laysDays_75 : decode cX11_laysDays 75 = .ok (.getfield 17, 3) := by decide +kernel
theorem dX11_laysDays_78 : decode cX11_laysDays 78 = .ok (.bipush 46, 2) := by decide +kernel
theorem dX11_laysDays_80 : decode cX11_laysDays 80 = .ok (.iload 4, 2) := by decide +kernel
theorem dX11_laysDays_82 : decode cX11_laysDays 82 = .ok (.iadd, 1) := by decide +kernel
theorem dX11_laysDays_83 : decode cX11_laysDays 83 = .ok (.iaload, 1) := by decide +kernel
theorem dX11_laysDays_84 : decode cX11_laysDays 84 = .ok (.dup2, 1) := by decide +kernel
theorem dX11_laysDays_85 : decode cX11_laysDays 85 = .ok (.iaload, 1) := by decide +kernel
theorem dX11_laysDays_86 : decode cX11_laysDays 86 = .ok (.aload_n 0, 1) := by decide +kernel
theorem dX11_laysDays_87 : decode cX11_laysDays 87 = .ok (.iload 4, 2) := by decide +kernel
theorem dX11_laysDays_89 : decode cX11_laysDays 89 = .ok (.iload 5, 2) := by decide +kernel
theorem dX11_laysDays_91 : decode cX11_laysDays 91 = .ok (.invokevirtual 201, 3) := by decide +kernel
theorem dX11_laysDays_94 : decode cX11_laysDays 94 = .ok (.iload_n 1, 1) := by decide +kernel
theorem dX11_laysDays_95 : decode cX11_laysDays 95 = .ok (.if_icmp .ne 14, 3) := by decide +kernel
theorem dX11_laysDays_98 : decode cX11_laysDays 98 = .ok (.aload_n 0, 1) := by decide +kernel
theorem dX11_laysDays_99 : decode cX11_laysDays 99 = .ok (.iload 4, 2) := by decide +kernel
theorem dX11_laysDays_101 : decode cX11_laysDays 101 = .ok (.iload 5, 2) := by decide +kernel
theorem dX11_laysDays_103 : decode cX11_laysDays 103 = .ok (.invokevirtual 198, 3) := by decide +kernel
theorem dX11_laysDays_106 : decode cX11_laysDays 106 = .ok (.goto 4, 3) := by decide +kernel
theorem dX11_laysDays_109 : decode cX11_laysDays 109 = .ok (.iconst 0, 1) := by decide +kernel
theorem dX11_laysDays_110 : decode cX11_laysDays 110 = .ok (.iadd, 1) := by decide +kernel
theorem dX11_laysDays_111 : decode cX11_laysDays 111 = .ok (.iastore, 1) := by decide +kernel
theorem dX11_laysDays_112 : decode cX11_laysDays 112 = .ok (.iinc 5 1, 3) := by decide +kernel
theorem dX11_laysDays_115 : decode cX11_laysDays 115 = .ok (.goto (-74), 3) := by decide +kernel
theorem dX11_laysDays_118 : decode cX11_laysDays 118 = .ok (.iinc 4 1, 3) := by decide +kernel
theorem dX11_laysDays_121 : decode cX11_laysDays 121 = .ok (.goto (-94), 3) := by decide +kernel
theorem dX11_laysDays_124 : decode cX11_laysDays 124 = .ok (.return_, 1) := by decide +kernel
def lX11_laysDays_0 : List (Nat × (Op ⊕ Nat)) := [(0, .inl (o_pushI (nI 0) 1)), (1, .inl (o_istore 4 3)), (3, .inl (o_iload 4 5)), (5, .inl (o_pushI (nI 60) 7)), (7, .inl (o_icmp_ge 24 10)), (10, .inl (o_aload 0 11)), (11, .inl (o_get 11 19 14)), (14, .inl (o_iload 4 16)), (16, .inl (o_pushI (nI 0) 17)), (17, .inl (o_iast 18)), (18, .inl (o_iinc 4 (nI 1) 21)), (21, .inl (o_goto 3)), (24, .inl (o_pushI (nI 0) 25)), (25, .inl (o_istore 4 27)), (27, .inl (o_iload 4 29)), (29, .inl (o_aload 0 30)), (30, .inl (o_get 11 7 33)), (33, .inl (o_pushI (nI 1) 34)), (34, .inl (o_iald 35)), (35, .inl (o_icmp_ge 124 38)), (38, .inl (o_pushI (nI 0) 39)), (39, .inl (o_istore 5 41)), (41, .inl (o_iload 5 43)), (43, .inl (o_aload 0 44)), (44, .inl (o_get 11 7 47)), (47, .inl (o_pushI (nI 106) 49)), (49, .inl (o_iload 4 51)), (51, .inl (o_iadd 52)), (52, .inl (o_iald 53)), (53, .inl (o_icmp_ge 118 56)), (56, .inl (o_iload 4 58)), (58, .inl (o_iload 2 59)), (59, .inl (o_iload 2 60)), (60, .inl (o_iload 3 61)), (61, .inl (o_iadd 62)), (62, .inl (o_pushI (nI 1) 63)), (63, .inl (o_isub 64)), (64, .inl (o_callS fX11_in 3 67)), (67, .inl (o_if_ne 118 70)), (70, .inl (o_aload 0 71))]
def lX11_laysDays_1 : List (Nat × (Op ⊕ Nat)) := [(71, .inl (o_get 11 19 74)), (74, .inl (o_aload 0 75)), (75, .inl (o_get 11 7 78)), (78, .inl (o_pushI (nI 46) 80)), (80, .inl (o_iload 4 82)), (82, .inl (o_iadd 83)), (83, .inl (o_iald 84)), (84, .inl (o_dup2 85)), (85, .inl (o_iald 86)), (86, .inl (o_aload 0 87)), (87, .inl (o_iload 4 89)), (89, .inl (o_iload 5 91)), (91, .inl (o_callV fX11_who 2 11 94)), (94, .inl (o_iload 1 95)), (95, .inl (o_icmp_ne 109 98)), (98, .inl (o_aload 0 99)), (99, .inl (o_iload 4 101)), (101, .inl (o_iload 5 103)), (103, .inl (o_callV fX11_throwsAt 2 11 106)), (106, .inl (o_goto 110)), (109, .inl (o_pushI (nI 0) 110)), (110, .inl (o_iadd 111)), (111, .inl (o_iast 112)), (112, .inl (o_iinc 5 (nI 1) 115)), (115, .inl (o_goto 41)), (118, .inl (o_iinc 4 (nI 1) 121)), (121, .inl (o_goto 27)), (124, .inr 3)]
def lX11_laysDays : List (Nat × (Op ⊕ Nat)) := lX11_laysDays_0 ++ (lX11_laysDays_1)
theorem qX11_laysDays : yX11_laysDays.cls = RX11 ∧ yX11_laysDays.cls ≠ "java/lang/invoke/MethodHandle" ∧ yX11_laysDays.cls ≠ "java/lang/invoke/VarHandle" ∧ (parseMethodDescriptor yX11_laysDays.desc).map (fun d => d.parameters.length) = some 3 := by decide +kernel
set_option maxRecDepth 10000 in
theorem hX11_laysDays_0 (l : Launch) {p : Program} {e : Env} {s : State} {m : MethodId} {args : Array Value} {below : List Frame} {meth : Method} {c : Code} {D : va_G} {ad adV : Nat → Nat} {cA : Nat → ClassId} {K : Kt} (C0 : Cx p s m args meth c D ad adV cA cX11_laysDays 6 RX11) (hr : meth.sig.returnType = none) : ∀ q ∈ lX11_laysDays_0, Sd p l e (rmd 2) s m args below meth c (MQ below (QQ D ad cA K) args s 0 0 (AA ad)) D ad cA 6 q.1 (opOf K q.2) := List.forall_mem_cons.mpr ⟨s_iconst C0 dX11_laysDays_0 rfl, List.forall_mem_cons.mpr ⟨s_istore C0 dX11_laysDays_1 (by decide), List.forall_mem_cons.mpr ⟨s_iload C0 dX11_laysDays_3, List.forall_mem_cons.mpr ⟨s_bipush C0 dX11_laysDays_5 (by decide +kernel), List.forall_mem_cons.mpr ⟨s_icmp_ge C0 dX11_laysDays_7 rfl, List.forall_mem_cons.mpr ⟨s_aload_n C0 dX11_laysDays_10 rfl, List.forall_mem_cons.mpr ⟨s_get (ci := 11) (k := 19) C0 dX11_laysDays_11 inX11 rfl (by decide) tw6_30, List.forall_mem_cons.mpr ⟨s_iload C0 dX11_laysDays_14, List.forall_mem_cons.mpr ⟨s_iconst C0 dX11_laysDays_16 rfl, List.forall_mem_cons.mpr ⟨s_iast C0 dX11_laysDays_17, List.forall_mem_cons.mpr ⟨s_iinc C0 dX11_laysDays_18 rfl (by decide), List.forall_mem_cons.mpr ⟨s_goto C0 dX11_laysDays_21 rfl, List.forall_mem_cons.mpr ⟨s_iconst C0 dX11_laysDays_24 rfl, List.forall_mem_cons.mpr ⟨s_istore C0 dX11_laysDays_25 (by decide), List.forall_mem_cons.mpr ⟨s_iload C0 dX11_laysDays_27, List.forall_mem_cons.mpr ⟨s_aload_n C0 dX11_laysDays_29 rfl, List.forall_mem_cons.mpr ⟨s_get (ci := 11) (k := 7) C0 dX11_laysDays_30 inX11 rfl (by decide) tw6_18, List.forall_mem_cons.mpr ⟨s_iconst C0 dX11_laysDays_33 rfl, List.forall_mem_cons.mpr ⟨s_iald C0 dX11_laysDays_34, List.forall_mem_cons.mpr ⟨s_icmp_ge C0 dX11_laysDays_35 rfl, List.forall_mem_cons.mpr ⟨s_iconst C0 dX11_laysDays_38 rfl, List.forall_mem_cons.mpr ⟨s_istore C0 dX11_laysDays_39 (by decide), List.forall_mem_cons.mpr ⟨s_iload C0 dX11_laysDays_41, List.forall_mem_cons.mpr ⟨s_aload_n C0 dX11_laysDays_43 rfl, List.forall_mem_cons.mpr ⟨s_get (ci := 11) (k := 7) C0 dX11_laysDays_44 inX11 rfl (by decide) tw6_18, List.forall_mem_cons.mpr ⟨s_bipush C0 dX11_laysDays_47 (by decide +kernel), List.forall_mem_cons.mpr ⟨s_iload C0 dX11_laysDays_49, List.forall_mem_cons.mpr ⟨s_iadd C0 dX11_laysDays_51, List.forall_mem_cons.mpr ⟨s_iald C0 dX11_laysDays_52, List.forall_mem_cons.mpr ⟨s_icmp_ge C0 dX11_laysDays_53 rfl, List.forall_mem_cons.mpr ⟨s_iload C0 dX11_laysDays_56, List.forall_mem_cons.mpr ⟨s_iload_n C0 dX11_laysDays_58 rfl, List.forall_mem_cons.mpr ⟨s_iload_n C0 dX11_laysDays_59 rfl, List.forall_mem_cons.mpr ⟨s_iload_n C0 dX11_laysDays_60 rfl, List.forall_mem_cons.mpr ⟨s_iadd C0 dX11_laysDays_61, List.forall_mem_cons.mpr ⟨s_iconst C0 dX11_laysDays_62 rfl, List.forall_mem_cons.mpr ⟨s_isub C0 dX11_laysDays_63, List.forall_mem_cons.mpr ⟨s_callS C0 (kX11_in l) dX11_laysDays_64 qX11_in tw6_112 tw6_113 tw1_12 tw6_114 rfl (by decide) (by decide), List.forall_mem_cons.mpr ⟨s_if_ne C0 dX11_laysDays_67 rfl, List.forall_mem_cons.mpr ⟨s_aload_n C0 dX11_laysDays_70 rfl, fun _ h => absurd h List.not_mem_nil⟩⟩⟩⟩⟩⟩⟩⟩⟩⟩⟩⟩⟩⟩⟩⟩⟩⟩⟩⟩⟩⟩⟩⟩⟩⟩⟩⟩⟩⟩⟩⟩⟩⟩⟩⟩⟩⟩⟩⟩
set_option maxRecDepth 10000 in
theorem hX11_laysDays_1 (l : Launch) {p : Program} {e : Env} {s : State} {m : MethodId} {args : Array Value} {below : List Frame} {meth : Method} {c : Code} {D : va_G} {ad adV : Nat → Nat} {cA : Nat → ClassId} {K : Kt} (C0 : Cx p s m args meth c D ad adV cA cX11_laysDays 6 RX11) (hr : meth.sig.returnType = none) : ∀ q ∈ lX11_laysDays_1, Sd p l e (rmd 2) s m args below meth c (MQ below (QQ D ad cA K) args s 0 0 (AA ad)) D ad cA 6 q.1 (opOf K q.2) := List.forall_mem_cons.mpr ⟨s_get (ci := 11) (k := 19) C0 dX11_laysDays_71 inX11 rfl (by decide) tw6_30, List.forall_mem_cons.mpr ⟨s_aload_n C0 dX11_laysDays_74 rfl, List.forall_mem_cons.mpr ⟨s_get (ci := 11) (k := 7) C0 dX11_laysDays_75 inX11 rfl (by decide) tw6_18, List.forall_mem_cons.mpr ⟨s_bipush C0 dX11_laysDays_78 (by decide +kernel), List.forall_mem_cons.mpr ⟨s_iload C0 dX11_laysDays_80, List.forall_mem_cons.mpr ⟨s_iadd C0 dX11_laysDays_82, List.forall_mem_cons.mpr ⟨s_iald C0 dX11_laysDays_83, List.forall_mem_cons.mpr ⟨s_dup2 C0 dX11_laysDays_84, List.forall_mem_cons.mpr ⟨s_iald C0 dX11_laysDays_85, List.forall_mem_cons.mpr ⟨s_aload_n C0 dX11_laysDays_86 rfl, List.forall_mem_cons.mpr ⟨s_iload C0 dX11_laysDays_87, List.forall_mem_cons.mpr ⟨s_iload C0 dX11_laysDays_89, List.forall_mem_cons.mpr ⟨s_callV (ci := 11) C0 (kX11_who l) dX11_laysDays_91 rfl qX11_who tw6_230 tw6_232 twp_61 tw1_12 tw6_233 rfl (by decide) (by decide), List.forall_mem_cons.mpr ⟨s_iload_n C0 dX11_laysDays_94 rfl, List.forall_mem_cons.mpr ⟨s_icmp_ne C0 dX11_laysDays_95 rfl, List.forall_mem_cons.mpr ⟨s_aload_n C0 dX11_laysDays_98 rfl, List.forall_mem_cons.mpr ⟨s_iload C0 dX11_laysDays_99, List.forall_mem_cons.mpr ⟨s_iload C0 dX11_laysDays_101, List.forall_mem_cons.mpr ⟨s_callV (ci := 11) C0 (kX11_throwsAt l) dX11_laysDays_103 rfl qX11_throwsAt tw6_222 tw6_224 twp_59 tw1_12 tw6_225 rfl (by decide) (by decide), List.forall_mem_cons.mpr ⟨s_goto C0 dX11_laysDays_106 rfl, List.forall_mem_cons.mpr ⟨s_iconst C0 dX11_laysDays_109 rfl, List.forall_mem_cons.mpr ⟨s_iadd C0 dX11_laysDays_110, List.forall_mem_cons.mpr ⟨s_iast C0 dX11_laysDays_111, List.forall_mem_cons.mpr ⟨s_iinc C0 dX11_laysDays_112 rfl (by decide), List.forall_mem_cons.mpr ⟨s_goto C0 dX11_laysDays_115 rfl, List.forall_mem_cons.mpr ⟨s_iinc C0 dX11_laysDays_118 rfl (by decide), List.forall_mem_cons.mpr ⟨s_goto C0 dX11_laysDays_121 rfl, List.forall_mem_cons.mpr ⟨s_vret C0 hr dX11_laysDays_124, fun _ h => absurd h List.not_mem_nil⟩⟩⟩⟩⟩⟩⟩⟩⟩⟩⟩⟩⟩⟩⟩⟩⟩⟩⟩⟩⟩⟩⟩⟩⟩⟩⟩⟩
def fX11_laysDays : Mf := mf 6 (fun K => tl K lX11_laysDays)
theorem kX11_laysDays (l : Launch) : Okm l yX11_laysDays cX11_laysDays 6 none 2 fX11_laysDays := Okm_tl (own := RX11) (by decide +kernel) rfl (fun C0 hr => List.forall_mem_append.mpr ⟨hX11_laysDays_0 l C0 hr, hX11_laysDays_1 l C0 hr⟩)
theorem dX11_lately_0 : decode cX11_lately 0 = .ok (.iconst 0, 1) := by decide +kernel
theorem dX11_lately_1 : decode cX11_lately 1 = .ok (.istore_n 2, 1) := by decide +kernel
theorem dX11_lately_2 : decode cX11_lately 2 = .ok (.iload_n 1, 1) := by decide +kernel
theorem dX11_lately_3 : decode cX11_lately 3 = .ok (.bipush 7, 2) := by decide +kernel
theorem dX11_lately_5 : decode cX11_lately 5 = .ok (.isub, 1) := by decide +kernel
theorem dX11_lately_6 : decode cX11_lately 6 = .ok (.iconst 1, 1) := by decide +kernel
theorem dX11_lately_7 : decode cX11_lately 7 = .ok (.iadd, 1) := by decide +kernel
theorem dX11_lately_8 : decode cX11_lately 8 = .ok (.istore_n 3, 1) := by decide +kernel
theorem dX11_lately_9 : decode cX11_lately 9 = .ok (.iload_n 3, 1) := by decide +kernel
theorem dX11_lately_10 : decode cX11_lately 10 = .ok (.iload_n 1, 1) := by decide +kernel
theorem dX11_lately_11 : decode cX11_lately 11 = .ok (.if_icmp .gt 32, 3) := by decide +kernel
theorem dX11_lately_14 : decode cX11_lately 14 = .ok (.iload_n 2, 1) := by decide +kernel
theorem dX11_lately_15 : decode cX11_lately 15 = .ok (.iload_n 3, 1) := by decide +kernel
theorem dX11_lately_16 : decode cX11_lately 16 = .ok (.iconst 0, 1) := by decide +kernel
theorem dX11_lately_17 : decode cX11_lately 17 = .ok (.bipush 59, 2) := by decide +kernel
theorem dX11_lately_19 : decode cX11_lately 19 = .ok (.invokestatic 76, 3) := by decide +kernel
theorem dX11_lately_22 : decode cX11_lately 22 = .ok (.ifCond .eq 12, 3) := by decide +kernel
theorem dX11_lately_25 : decode cX11_lately 25 = .ok (.aload_n 0, 1) := by decide +kernel
theorem dX11_lately_26 : decode cX11_lately 26 = .ok (.getfield 29, 3) := by decide +kernel
theorem dX11_lately_29 : decode cX11_lately 29 = .ok (.iload_n 3, 1) := by decide +kernel
theorem dX11_lately_30 : decode cX11_lately 30 = .ok (.iaload, 1) := by decide +kernel
theorem dX11_lately_31 : decode cX11_lately 31 = .ok (.goto 4, 3) := by decide +kernel
theorem dX11_lately_34 : decode cX11_lately 34 = .ok (.iconst 0, 1) := by decide +kernel
theorem dX11_lately_35 : decode cX11_lately 35 = .ok (.iadd, 1) := by decide +kernel
theorem dX11_lately_36 : decode cX11_lately 36 = .ok (.istore_n 2, 1) := by decide +kernel
theorem dX11_lately_37 : decode cX11_lately 37 = .ok (.iinc 3 1, 3) := by decide +kernel
theorem dX11_lately_40 : decode cX11_lately 40 = .ok (.goto (-31), 3) := by decide +kernel
theorem dX11_lately_43 : decode cX11_lately 43 = .ok (.iload_n 2, 1) := by decide +kernel
theorem dX11_lately_44 : decode cX11_lately 44 = .ok (.ireturn, 1) := by decide +kernel
def lX11_lately : List (Nat × (Op ⊕ Nat)) := [(0, .inl (o_pushI (nI 0) 1)), (1, .inl (o_istore 2 2)), (2, .inl (o_iload 1 3)), (3, .inl (o_pushI (nI 7) 5)), (5, .inl (o_isub 6)), (6, .inl (o_pushI (nI 1) 7)), (7, .inl (o_iadd 8)), (8, .inl (o_istore 3 9)), (9, .inl (o_iload 3 10)), (10, .inl (o_iload 1 11)), (11, .inl (o_icmp_gt 43 14)), (14, .inl (o_iload 2 15)), (15, .inl (o_iload 3 16)), (16, .inl (o_pushI (nI 0) 17)), (17, .inl (o_pushI (nI 59) 19)), (19, .inl (o_callS fX11_in 3 22)), (22, .inl (o_if_eq 34 25)), (25, .inl (o_aload 0 26)), (26, .inl (o_get 11 19 29)), (29, .inl (o_iload 3 30)), (30, .inl (o_iald 31)), (31, .inl (o_goto 35)), (34, .inl (o_pushI (nI 0) 35)), (35, .inl (o_iadd 36)), (36, .inl (o_istore 2 37)), (37, .inl (o_iinc 3 (nI 1) 40)), (40, .inl (o_goto 9)), (43, .inl (o_iload 2 44)), (44, .inr 0)]
theorem qX11_lately : yX11_lately.cls = RX11 ∧ yX11_lately.cls ≠ "java/lang/invoke/MethodHandle" ∧ yX11_lately.cls ≠ "java/lang/invoke/VarHandle" ∧ (parseMethodDescriptor yX11_lately.desc).map (fun d => d.parameters.length) = some 1 := by decide +kernel
set_option maxRecDepth 10000 in
theorem hX11_lately_0 (l : Launch) {p : Program} {e : Env} {s : State} {m : MethodId} {args : Array Value} {below : List Frame} {meth : Method} {c : Code} {D : va_G} {ad adV : Nat → Nat} {cA : Nat → ClassId} {K : Kt} (C0 : Cx p s m args meth c D ad adV cA cX11_lately 4 RX11) (hr : meth.sig.returnType = (some .int)) : ∀ q ∈ lX11_lately, Sd p l e (rmd 1) s m args below meth c (MQ below (QQ D ad cA K) args s 0 0 (AA ad)) D ad cA 4 q.1 (opOf K q.2) := List.forall_mem_cons.mpr ⟨s_iconst C0 dX11_lately_0 rfl, List.forall_mem_cons.mpr ⟨s_istore_n C0 dX11_lately_1 rfl (by decide), List.forall_mem_cons.mpr ⟨s_iload_n C0 dX11_lately_2 rfl, List.forall_mem_cons.mpr ⟨s_bipush C0 dX11_lately_3 (by decide +kernel), List.forall_mem_cons.mpr ⟨s_isub C0 dX11_lately_5, List.forall_mem_cons.mpr ⟨s_iconst C0 dX11_lately_6 rfl, List.forall_mem_cons.mpr ⟨s_iadd C0 dX11_lately_7, List.forall_mem_cons.mpr ⟨s_istore_n C0 dX11_lately_8 rfl (by decide), List.forall_mem_cons.mpr ⟨s_iload_n C0 dX11_lately_9 rfl, List.forall_mem_cons.mpr ⟨s_iload_n C0 dX11_lately_10 rfl, List.forall_mem_cons.mpr ⟨s_icmp_gt C0 dX11_lately_11 rfl, List.forall_mem_cons.mpr ⟨s_iload_n C0 dX11_lately_14 rfl, List.forall_mem_cons.mpr ⟨s_iload_n C0 dX11_lately_15 rfl, List.forall_mem_cons.mpr ⟨s_iconst C0 dX11_lately_16 rfl, List.forall_mem_cons.mpr ⟨s_bipush C0 dX11_lately_17 (by decide +kernel), List.forall_mem_cons.mpr ⟨s_callS C0 (kX11_in l) dX11_lately_19 qX11_in tw6_112 tw6_113 tw1_12 tw6_114 rfl (by decide) (by decide), List.forall_mem_cons.mpr ⟨s_if_eq C0 dX11_lately_22 rfl, List.forall_mem_cons.mpr ⟨s_aload_n C0 dX11_lately_25 rfl, List.forall_mem_cons.mpr ⟨s_get (ci := 11) (k := 19) C0 dX11_lately_26 inX11 rfl (by decide) tw6_30, List.forall_mem_cons.mpr ⟨s_iload_n C0 dX11_lately_29 rfl, List.forall_mem_cons.mpr ⟨s_iald C0 dX11_lately_30, List.forall_mem_cons.mpr ⟨s_goto C0 dX11_lately_31 rfl, List.forall_mem_cons.mpr ⟨s_iconst C0 dX11_lately_34 rfl, List.forall_mem_cons.mpr ⟨s_iadd C0 dX11_lately_35, List.forall_mem_cons.mpr ⟨s_istore_n C0 dX11_lately_36 rfl (by decide), List.forall_mem_cons.mpr ⟨s_iinc C0 dX11_lately_37 rfl (by decide), List.forall_mem_cons.mpr ⟨s_goto C0 dX11_lately_40 rfl, List.forall_mem_cons.mpr ⟨s_iload_n C0 dX11_lately_43 rfl, List.forall_mem_cons.mpr ⟨s_iret C0 hr dX11_lately_44, fun _ h => absurd h List.not_mem_nil⟩⟩⟩⟩⟩⟩⟩⟩⟩⟩⟩⟩⟩⟩⟩⟩⟩⟩⟩⟩⟩⟩⟩⟩⟩⟩⟩⟩⟩
def fX11_lately : Mf := mf 4 (fun K => tl K lX11_lately)
theorem kX11_lately (l : Launch) : Okm l yX11_lately cX11_lately 4 (some .int) 1 fX11_lately := Okm_tl (own := RX11) (by decide +kernel) rfl (fun C0 hr => hX11_lately_0 l C0 hr)
theorem dX11_isAllowed_0 : decode cX11_isAllowed 0 = .ok (.iload_n 3, 1) := by decide +kernel
theorem dX11_isAllowed_1 : decode cX11_isAllowed 1 = .ok (.aload_n 0, 1) := by decide +kernel
theorem dX11_isAllowed_2 : decode cX11_isAllowed 2 = .ok (.getfield 17, 3) := by decide +kernel
theorem dX11_isAllowed_5 : decode cX11_isAllowed 5 = .ok (.bipush 22, 2) := by decide +kernel
theorem dX11_isAllowed_7 : decode cX11_isAllowed 7 = .ok (.iload_n 1, 1) := by decide +kernel
theorem dX11_isAllowed_8 : decode cX11_isAllowed 8 = .ok (.iadd, 1) := by decide +kernel
theorem dX11_isAllowed_9 : decode cX11_isAllowed 9 = .ok (.iaload, 1) := by decide +kernel
theorem dX11_isAllowed_10 : decode cX11_isAllowed 10 = .ok (.if_icmp .le 5, 3) := by decide +kernel
theorem dX11_isAllowed_13 : decode cX11_isAllowed 13 = .ok (.iconst 0, 1) := by decide +kernel
theorem dX11_isAllowed_14 : decode cX11_isAllowed 14 = .ok (.ireturn, 1) := by decide +kernel
theorem dX11_isAllowed_15 : decode cX11_isAllowed 15 = .ok (.iconst 0, 1) := by decide +kernel
theorem dX11_isAllowed_16 : decode cX11_isAllowed 16 = .ok (.istore 4, 2) := by decide +kernel
theorem dX11_isAllowed_18 : decode cX11_isAllowed 18 = .ok (.iload 4, 2) := by decide +kernel
theorem dX11_isAllowed_20 : decode cX11_isAllowed 20 = .ok (.bipush 60, 2) := by decide +kernel
theorem dX11_isAllowed_22 : decode cX11_isAllowed 22 = .ok (.if_icmp .ge 66, 3) := by decide +kernel
theorem dX11_isAllowed_25 : decode cX11_isAllowed 25 = .ok (.aload_n 0, 1) := by decide +kernel
theorem dX11_isAllowed_26 : decode cX11_isAllowed 26 = .ok (.getfield 29, 3) := by decide +kernel
theorem dX11_isAllowed_29 : decode cX11_isAllowed 29 = .ok (.iload 4, 2) := by decide +kernel
theorem dX11_isAllowed_31 : decode cX11_isAllowed 31 = .ok (.iaload, 1) := by decide +kernel
theorem dX11_isAllowed_32 : decode cX11_isAllowed 32 = .ok (.ifCond .le 50, 3) := by decide +kernel
theorem dX11_isAllowed_35 : decode cX11_isAllowed 35 = .ok (.iload 4, 2) := by decide +kernel
theorem dX11_isAllowed_37 : decode cX11_isAllowed 37 = .ok (.iload_n 2, 1) := by decide +kernel
theorem dX11_isAllowed_38 : decode cX11_isAllowed 38 = .ok (.if_icmp .eq 44, 3) := by decide +kernel
theorem dX11_isAllowed_41 : decode cX11_isAllowed 41 = .ok (.iload 4, 2) := by decide +kernel
theorem dX11_isAllowed_43 : decode cX11_isAllowed 43 = .ok (.iload_n 2, 1) := by decide +kernel
theorem dX11_isAllowed_44 : decode cX11_isAllowed 44 = .ok (.if_icmp .ge 24, 3) := by decide +kernel
theorem dX11_isAllowed_47 : decode cX11_isAllowed 47 = .ok (.iload_n 2, 1) := by decide +kernel
theorem dX11_isAllowed_48 : decode cX11_isAllowed 48 = .ok (.iload 4, 2) := by decide +kernel
theorem dX11_isAllowed_50 : decode cX11_isAllowed 50 = .ok (.isub, 1) := by decide +kernel
theorem dX11_isAllowed_51 : decode cX11_isAllowed 51 = .ok (.aload_n 0, 1) := by decide +kernel
theorem dX11_isAllowed_52 : decode cX11_isAllowed 52 = .ok (.aload_n 0, 1) := by decide +kernel
theorem dX11_isAllowed_53 : decode cX11_isAllowed 53 = .ok (.getfield 29, 3) := by decide +kernel
theorem dX11_isAllowed_56 : decode cX11_isAllowed 56 = .ok (.iload 4, 2) := by decide +kernel
theorem dX11_isAllowed_58 : decode cX11_isAllowed 58 = .ok (.iaload, 1) := by decide +kernel
theorem dX11_isAllowed_59 : decode cX11_isAllowed 59 = .ok (.invokevirtual 226, 3) := by decide +kernel
theorem dX11_isAllowed_62 : decode cX11_isAllowed 62 = .ok (.if_icmp .gt 20, 3) := by decide +kernel
theorem dX11_isAllowed_65 : decode cX11_isAllowed 65 = .ok (.goto 15, 3) := by decide +kernel
theorem dX11_isAllowed_68 : decode cX11_isAllowed 68 = .ok (.iload 4, 2) := by decide +kernel
theorem dX11_isAllowed_70 : decode cX11_isAllowed 70 = .ok (.iload_n 2, 1) := by decide +kernel
theorem dX11_isAllowed_71 : decode cX11_isAllowed 71 = .ok (.isub, 1) := by decide +kernel
theorem dX11_isAllowed_72 : decode cX11_isAllowed 72 = .ok (.aload_n 0, 1) := by decide +kernel
theorem dX11_isAllowed_73 : decode cX11_isAllowed 73 = .ok (.iload_n 3, 1) := by decide +kernel
theorem dX11_isAllowed_74 : decode cX11_isAllowed 74 = .ok (.invokevirtual 226, 3) := by decide +kernel
theorem dX11_isAllowed_77 : decode cX11_isAllowed 77 = .ok (.if_icmp .gt 5, 3) := by decide +kernel
theorem dX11_isAllowed_80 : decode cX11_isAllowed 80 = .ok (.iconst 0, 1) := by decide +kernel
theorem dX11_isAllowed_81 : decode cX11_isAllowed 81 = .ok (.ireturn, 1) := by decide +kernel
theorem dX11_isAllowed_82 : decode cX11_isAllowed 82 = .ok (.iinc 4 1, 3) := by decide +kernel
theorem dX11_isAllowed_85 : decode cX11_isAllowed 85 = .ok (.goto (-67), 3) := by decide +kernel
theorem dX11_isAllowed_88 : decode cX11_isAllowed 88 = .ok (.aload_n 0, 1) := by decide +kernel
theorem dX11_isAllowed_89 : decode cX11_isAllowed 89 = .ok (.getfield 29, 3) := by decide +kernel
theorem dX11_isAllowed_92 : decode cX11_isAllowed 92 = .ok (.iload_n 2, 1) := by decide +kernel
theorem dX11_isAllowed_93 : decode cX11_isAllowed 93 = .ok (.iaload, 1) := by decide +kernel
theorem dX11_isAllowed_94 : decode cX11_isAllowed 94 = .ok (.istore 4, 2) := by decide +kernel
theorem dX11_isAllowed_96 : decode cX11_isAllowed 96 = .ok (.aload_n 0, 1) := by decide +kernel
theorem dX11_isAllowed_97 : decode cX11_isAllowed 97 = .ok (.getfield 29, 3) := by decide +kernel
theorem dX11_isAllowed_100 : decode cX11_isAllowed 100 = .ok (.iload_n 2, 1) := by decide +kernel
theorem dX11_isAllowed_101 : decode cX11_isAllowed 101 = .ok (.iload_n 3, 1) := by decide +kernel
theorem dX11_isAllowed_102 : decode cX11_isAllowed 102 = .ok (.iastore, 1) := by decide +kernel
theorem dX11_isAllowed_103 : decode cX11_isAllowed 103 = .ok (.iconst 1, 1) := by decide +kernel
theorem dX11_isAllowed_104 : decode cX11_isAllowed 104 = .ok (.istore 5, 2) := by decide +kernel
theorem dX11_isAllowed_106 : decode cX11_isAllowed 106 = .ok (.iload_n 2, 1) := by decide +kernel
theorem dX11_isAllowed_107 : decode cX11_isAllowed 107 = .ok (.istore 6, 2) := by decide +kernel
theorem dX11_isAllowed_109 : decode cX11_isAllowed 109 = .ok (.iload 6, 2) := by decide +kernel
theorem dX11_isAllowed_111 : decode cX11_isAllowed 111 = .ok (.iload_n 2, 1) := by decide +kernel
theorem dX11_isAllowed_112 : decode cX11_isAllowed 112 = .ok (.bipush 7, 2) := by decide +kernel
theorem dX11_isAllowed_114 : decode cX11_isAllowed 114 = .ok (.iadd, 1) := by decide +kernel
theorem dX11_isAllowed_115 : decode cX11_isAllowed 115 = .ok (.if_icmp .ge 45, 3) := by decide +kernel
theorem dX11_isAllowed_118 : decode cX11_isAllowed 118 = .ok (.aload_n 0, 1) := by decide +kernel
theorem dX11_isAllowed_119 : decode cX11_isAllowed 119 = .ok (.getfield 17, 3) := by decide +kernel
theorem dX11_isAllowed_122 : decode cX11_isAllowed 122 = .ok (.iconst 3, 1) := by decide +kernel
theorem dX11_isAllowed_123 : decode cX11_isAllowed 123 = .ok (.iaload, 1) := by decide +kernel
theorem dX11_isAllowed_124 : decode cX11_isAllowed 124 = .ok (.ifCond .le 36, 3) := by decide +kernel
theorem dX11_isAllowed_127 : decode cX11_isAllowed 127 = .ok (.iload 5, 2) := by decide +kernel
theorem dX11_isAllowed_129 : decode cX11_isAllowed 129 = .ok (.ifCond .eq 22, 3) := by decide +kernel
theorem dX11_isAllowed_132 : decode cX11_isAllowed 132 = .ok (.aload_n 0, 1) := by decide +kernel
theorem dX11_isAllowed_133 : decode cX11_isAllowed 133 = .ok (.iload 6, 2) := by decide +kernel
theorem dX11_isAllowed_135 : decode cX11_isAllowed 135 = .ok (.invokevirtual 229, 3) := by decide +kernel
theorem dX11_isAllowed_138 : decode cX11_isAllowed 138 = .ok (.aload_n 0, 1) := by decide +kernel
theorem dX11_isAllowed_139 : decode cX11_isAllowed 139 = .ok (.getfield 17, 3) := by decide +kernel
theorem dX11_isAllowed_142 : decode cX11_isAllowed 142 = .ok (.iconst 3, 1) := by decide +kernel
theorem dX11_isAllowed_143 : decode cX11_isAllowed 143 = .ok (.iaload, 1) := by decide +kernel
theorem dX11_isAllowed_144 : decode cX11_isAllowed 144 = .ok (.if_icmp .gt 7, 3) := by decide +kernel
theorem dX11_isAllowed_147 : decode cX11_isAllowed 147 = .ok (.iconst 1, 1) := by decide +kernel
theorem dX11_isAllowed_148 : decode cX11_isAllowed 148 = .ok (.goto 4, 3) := by decide +kernel
theorem dX11_isAllowed_151 : decode cX11_isAllowed 151 = .ok (.iconst 0, 1) := by decide +kernel
theorem dX11_isAllowed_152 : decode cX11_isAllowed 152 = .ok (.istore 5, 2) := by decide +kernel
theorem dX11_isAllowed_154 : decode cX11_isAllowed 154 = .ok (.iinc 6 1, 3) := by decide +kernel
theorem dX11_isAllowed_157 : decode cX11_isAllowed 157 = .ok (.goto (-48), 3) := by decide +kernel
theorem dX11_isAllowed_160 : decode cX11_isAllowed 160 = .ok (.aload_n 0, 1) := by decide +kernel
theorem dX11_isAllowed_161 : decode cX11_isAllowed 161 = .ok (.getfield 29, 3) := by decide +kernel
theorem dX11_isAllowed_164 : decode cX11_isAllowed 164 = .ok (.iload_n 2, 1) := by decide +kernel
theorem dX11_isAllowed_165 : decode cX11_isAllowed 165 = .ok (.iload 4, 2) := by decide +kernel
theorem dX11_isAllowed_167 : decode cX11_isAllowed 167 = .ok (.iastore, 1) := by decide +kernel
theorem dX11_isAllowed_168 : decode cX11_isAllowed 168 = .ok (.iload 5, 2) := by decide +kernel
theorem dX11_isAllowed_170 : decode cX11_isAllowed 170 = .ok (.ireturn, 1) := by decide +kernel
def lX11_isAllowed_0 : List (Nat × (Op ⊕ Nat)) := [(0, .inl (o_iload 3 1)), (1, .inl (o_aload 0 2)), (2, .inl (o_get 11 7 5)), (5, .inl (o_pushI (nI 22) 7)), (7, .inl (o_iload 1 8)), (8, .inl (o_iadd 9)), (9, .inl (o_iald 10)), (10, .inl (o_icmp_le 15 13)), (13, .inl (o_pushI (nI 0) 14)), (14, .inr 1), (15, .inl (o_pushI (nI 0) 16)), (16, .inl (o_istore 4 18)), (18, .inl (o_iload 4 20)), (20, .inl (o_pushI (nI 60) 22)), (22, .inl (o_icmp_ge 88 25)), (25, .inl (o_aload 0 26)), (26, .inl (o_get 11 19 29)), (29, .inl (o_iload 4 31)), (31, .inl (o_iald 32)), (32, .inl (o_if_le 82 35)), (35, .inl (o_iload 4 37)), (37, .inl (o_iload 2 38)), (38, .inl (o_icmp_eq 82 41)), (41, .inl (o_iload 4 43)), (43, .inl (o_iload 2 44)), (44, .inl (o_icmp_ge 68 47)), (47, .inl (o_iload 2 48)), (48, .inl (o_iload 4 50)), (50, .inl (o_isub 51)), (51, .inl (o_aload 0 52)), (52, .inl (o_aload 0 53)), (53, .inl (o_get 11 19 56)), (56, .inl (o_iload 4 58)), (58, .inl (o_iald 59)), (59, .inl (o_callV fX11_restOf 1 11 62)), (62, .inl (o_icmp_gt 82 65)), (65, .inl (o_goto 80)), (68, .inl (o_iload 4 70)), (70, .inl (o_iload 2 71)), (71, .inl (o_isub 72))]
def lX11_isAllowed_1 : List (Nat × (Op ⊕ Nat)) := [(72, .inl (o_aload 0 73)), (73, .inl (o_iload 3 74)), (74, .inl (o_callV fX11_restOf 1 11 77)), (77, .inl (o_icmp_gt 82 80)), (80, .inl (o_pushI (nI 0) 81)), (81, .inr 1), (82, .inl (o_iinc 4 (nI 1) 85)), (85, .inl (o_goto 18)), (88, .inl (o_aload 0 89)), (89, .inl (o_get 11 19 92)), (92, .inl (o_iload 2 93)), (93, .inl (o_iald 94)), (94, .inl (o_istore 4 96)), (96, .inl (o_aload 0 97)), (97, .inl (o_get 11 19 100)), (100, .inl (o_iload 2 101)), (101, .inl (o_iload 3 102)), (102, .inl (o_iast 103)), (103, .inl (o_pushI (nI 1) 104)), (104, .inl (o_istore 5 106)), (106, .inl (o_iload 2 107)), (107, .inl (o_istore 6 109)), (109, .inl (o_iload 6 111)), (111, .inl (o_iload 2 112)), (112, .inl (o_pushI (nI 7) 114)), (114, .inl (o_iadd 115)), (115, .inl (o_icmp_ge 160 118)), (118, .inl (o_aload 0 119)), (119, .inl (o_get 11 7 122)), (122, .inl (o_pushI (nI 3) 123)), (123, .inl (o_iald 124)), (124, .inl (o_if_le 160 127)), (127, .inl (o_iload 5 129)), (129, .inl (o_if_eq 151 132)), (132, .inl (o_aload 0 133)), (133, .inl (o_iload 6 135)), (135, .inl (o_callV fX11_lately 1 11 138)), (138, .inl (o_aload 0 139)), (139, .inl (o_get 11 7 142)), (142, .inl (o_pushI (nI 3) 143))]
def lX11_isAllowed_2 : List (Nat × (Op ⊕ Nat)) := [(143, .inl (o_iald 144)), (144, .inl (o_icmp_gt 151 147)), (147, .inl (o_pushI (nI 1) 148)), (148, .inl (o_goto 152)), (151, .inl (o_pushI (nI 0) 152)), (152, .inl (o_istore 5 154)), (154, .inl (o_iinc 6 (nI 1) 157)), (157, .inl (o_goto 109)), (160, .inl (o_aload 0 161)), (161, .inl (o_get 11 19 164)), (164, .inl (o_iload 2 165)), (165, .inl (o_iload 4 167)), (167, .inl (o_iast 168)), (168, .inl (o_iload 5 170)), (170, .inr 1)]
def lX11_isAllowed : List (Nat × (Op ⊕ Nat)) := lX11_isAllowed_0 ++ (lX11_isAllowed_1 ++ (lX11_isAllowed_2))
theorem qX11_isAllowed : yX11_isAllowed.cls = RX11 ∧ yX11_isAllowed.cls ≠ "java/lang/invoke/MethodHandle" ∧ yX11_isAllowed.cls ≠ "java/lang/invoke/VarHandle" ∧ (parseMethodDescriptor yX11_isAllowed.desc).map (fun d => d.parameters.length) = some 3 := by decide +kernel
set_option maxRecDepth 10000 in
theorem hX11_isAllowed_0 (l : Launch) {p : Program} {e : Env} {s : State} {m : MethodId} {args : Array Value} {below : List Frame} {meth : Method} {c : Code} {D : va_G} {ad adV : Nat → Nat} {cA : Nat → ClassId} {K : Kt} (C0 : Cx p s m args meth c D ad adV cA cX11_isAllowed 7 RX11) (hr : meth.sig.returnType = (some .boolean)) : ∀ q ∈ lX11_isAllowed_0, Sd p l e (rmd 2) s m args below meth c (MQ below (QQ D ad cA K) args s 0 0 (AA ad)) D ad cA 7 q.1 (opOf K q.2) := List.forall_mem_cons.mpr ⟨s_iload_n C0 dX11_isAllowed_0 rfl, List.forall_mem_cons.mpr ⟨s_aload_n C0 dX11_isAllowed_1 rfl, List.forall_mem_cons.mpr ⟨s_get (ci := 11) (k := 7) C0 dX11_isAllowed_2 inX11 rfl (by decide) tw6_18, List.forall_mem_cons.mpr ⟨s_bipush C0 dX11_isAllowed_5 (by decide +kernel), List.forall_mem_cons.mpr ⟨s_iload_n C0 dX11_isAllowed_7 rfl, List.forall_mem_cons.mpr ⟨s_iadd C0 dX11_isAllowed_8, List.forall_mem_cons.mpr ⟨s_iald C0 dX11_isAllowed_9, List.forall_mem_cons.mpr ⟨s_icmp_le C0 dX11_isAllowed_10 rfl, List.forall_mem_cons.mpr ⟨s_iconst C0 dX11_isAllowed_13 rfl, List.forall_mem_cons.mpr ⟨s_zret C0 hr dX11_isAllowed_14, List.forall_mem_cons.mpr ⟨s_iconst C0 dX11_isAllowed_15 rfl, List.forall_mem_cons.mpr ⟨s_istore C0 dX11_isAllowed_16 (by decide), List.forall_mem_cons.mpr ⟨s_iload C0 dX11_isAllowed_18, List.forall_mem_cons.mpr ⟨s_bipush C0 dX11_isAllowed_20 (by decide +kernel), List.forall_mem_cons.mpr ⟨s_icmp_ge C0 dX11_isAllowed_22 rfl, List.forall_mem_cons.mpr ⟨s_aload_n C0 dX11_isAllowed_25 rfl, List.forall_mem_cons.mpr ⟨s_get (ci := 11) (k := 19) C0 dX11_isAllowed_26 inX11 rfl (by decide) tw6_30, List.forall_mem_cons.mpr ⟨s_iload C0 dX11_isAllowed_29, List.forall_mem_cons.mpr ⟨s_iald C0 dX11_isAllowed_31, List.forall_mem_cons.mpr ⟨s_if_le C0 dX11_isAllowed_32 rfl, List.forall_mem_cons.mpr ⟨s_iload C0 dX11_isAllowed_35, List.forall_mem_cons.mpr ⟨s_iload_n C0 dX11_isAllowed_37 rfl, List.forall_mem_cons.mpr ⟨s_icmp_eq C0 dX11_isAllowed_38 rfl, List.forall_mem_cons.mpr ⟨s_iload C0 dX11_isAllowed_41, List.forall_mem_cons.mpr ⟨s_iload_n C0 dX11_isAllowed_43 rfl, List.forall_mem_cons.mpr ⟨s_icmp_ge C0 dX11_isAllowed_44 rfl, List.forall_mem_cons.mpr ⟨s_iload_n C0 dX11_isAllowed_47 rfl, List.forall_mem_cons.mpr ⟨s_iload C0 dX11_isAllowed_48, List.forall_mem_cons.mpr ⟨s_isub C0 dX11_isAllowed_50, List.forall_mem_cons.mpr ⟨s_aload_n C0 dX11_isAllowed_51 rfl, List.forall_mem_cons.mpr ⟨s_aload_n C0 dX11_isAllowed_52 rfl, List.forall_mem_cons.mpr ⟨s_get (ci := 11) (k := 19) C0 dX11_isAllowed_53 inX11 rfl (by decide) tw6_30, List.forall_mem_cons.mpr ⟨s_iload C0 dX11_isAllowed_56, List.forall_mem_cons.mpr ⟨s_iald C0 dX11_isAllowed_58, List.forall_mem_cons.mpr ⟨s_callV (ci := 11) C0 (kX11_restOf l) dX11_isAllowed_59 rfl qX11_restOf tw7_30 tw7_32 twp_69 tw1_12 tw7_33 rfl (by decide) (by decide), List.forall_mem_cons.mpr ⟨s_icmp_gt C0 dX11_isAllowed_62 rfl, List.forall_mem_cons.mpr ⟨s_goto C0 dX11_isAllowed_65 rfl, List.forall_mem_cons.mpr ⟨s_iload C0 dX11_isAllowed_68, List.forall_mem_cons.mpr ⟨s_iload_n C0 dX11_isAllowed_70 rfl, List.forall_mem_cons.mpr ⟨s_isub C0 dX11_isAllowed_71, fun _ h => absurd h List.not_mem_nil⟩⟩⟩⟩⟩⟩⟩⟩⟩⟩⟩⟩⟩⟩⟩⟩⟩⟩⟩⟩⟩⟩⟩⟩⟩⟩⟩⟩⟩⟩⟩⟩⟩⟩⟩⟩⟩⟩⟩⟩
set_option maxRecDepth 10000 in
theorem hX11_isAllowed_1 (l : Launch) {p : Program} {e : Env} {s : State} {m : MethodId} {args : Array Value} {below : List Frame} {meth : Method} {c : Code} {D : va_G} {ad adV : Nat → Nat} {cA : Nat → ClassId} {K : Kt} (C0 : Cx p s m args meth c D ad adV cA cX11_isAllowed 7 RX11) (hr : meth.sig.returnType = (some .boolean)) : ∀ q ∈ lX11_isAllowed_1, Sd p l e (rmd 2) s m args below meth c (MQ below (QQ D ad cA K) args s 0 0 (AA ad)) D ad cA 7 q.1 (opOf K q.2) := List.forall_mem_cons.mpr ⟨s_aload_n C0 dX11_isAllowed_72 rfl, List.forall_mem_cons.mpr ⟨s_iload_n C0 dX11_isAllowed_73 rfl, List.forall_mem_cons.mpr ⟨s_callV (ci := 11) C0 (kX11_restOf l) dX11_isAllowed_74 rfl qX11_restOf tw7_30 tw7_32 twp_69 tw1_12 tw7_33 rfl (by decide) (by decide), List.forall_mem_cons.mpr ⟨s_icmp_gt C0 dX11_isAllowed_77 rfl, List.forall_mem_cons.mpr ⟨s_iconst C0 dX11_isAllowed_80 rfl, List.forall_mem_cons.mpr ⟨s_zret C0 hr dX11_isAllowed_81, List.forall_mem_cons.mpr ⟨s_iinc C0 dX11_isAllowed_82 rfl (by decide), List.forall_mem_cons.mpr ⟨s_goto C0 dX11_isAllowed_85 rfl, List.forall_mem_cons.mpr ⟨s_aload_n C0 dX11_isAllowed_88 rfl, List.forall_mem_cons.mpr ⟨s_get (ci := 11) (k := 19) C0 dX11_isAllowed_89 inX11 rfl (by decide) tw6_30, List.forall_mem_cons.mpr ⟨s_iload_n C0 dX11_isAllowed_92 rfl, List.forall_mem_cons.mpr ⟨s_iald C0 dX11_isAllowed_93, List.forall_mem_cons.mpr ⟨s_istore C0 dX11_isAllowed_94 (by decide), List.forall_mem_cons.mpr ⟨s_aload_n C0 dX11_isAllowed_96 rfl, List.forall_mem_cons.mpr ⟨s_get (ci := 11) (k := 19) C0 dX11_isAllowed_97 inX11 rfl (by decide) tw6_30, List.forall_mem_cons.mpr ⟨s_iload_n C0 dX11_isAllowed_100 rfl, List.forall_mem_cons.mpr ⟨s_iload_n C0 dX11_isAllowed_101 rfl, List.forall_mem_cons.mpr ⟨s_iast C0 dX11_isAllowed_102, List.forall_mem_cons.mpr ⟨s_iconst C0 dX11_isAllowed_103 rfl, List.forall_mem_cons.mpr ⟨s_istore C0 dX11_isAllowed_104 (by decide), List.forall_mem_cons.mpr ⟨s_iload_n C0 dX11_isAllowed_106 rfl, List.forall_mem_cons.mpr ⟨s_istore C0 dX11_isAllowed_107 (by decide), List.forall_mem_cons.mpr ⟨s_iload C0 dX11_isAllowed_109, List.forall_mem_cons.mpr ⟨s_iload_n C0 dX11_isAllowed_111 rfl, List.forall_mem_cons.mpr ⟨s_bipush C0 dX11_isAllowed_112 (by decide +kernel), List.forall_mem_cons.mpr ⟨s_iadd C0 dX11_isAllowed_114, List.forall_mem_cons.mpr ⟨s_icmp_ge C0 dX11_isAllowed_115 rfl, List.forall_mem_cons.mpr ⟨s_aload_n C0 dX11_isAllowed_118 rfl, List.forall_mem_cons.mpr ⟨s_get (ci := 11) (k := 7) C0 dX11_isAllowed_119 inX11 rfl (by decide) tw6_18, List.forall_mem_cons.mpr ⟨s_iconst C0 dX11_isAllowed_122 rfl, List.forall_mem_cons.mpr ⟨s_iald C0 dX11_isAllowed_123, List.forall_mem_cons.mpr ⟨s_if_le C0 dX11_isAllowed_124 rfl, List.forall_mem_cons.mpr ⟨s_iload C0 dX11_isAllowed_127, List.forall_mem_cons.mpr ⟨s_if_eq C0 dX11_isAllowed_129 rfl, List.forall_mem_cons.mpr ⟨s_aload_n C0 dX11_isAllowed_132 rfl, List.forall_mem_cons.mpr ⟨s_iload C0 dX11_isAllowed_133, List.forall_mem_cons.mpr ⟨s_callV (ci := 11) C0 (kX11_lately l) dX11_isAllowed_135 rfl qX11_lately tw7_50 tw7_52 twp_73 tw1_12 tw7_53 rfl (by decide) (by decide), List.forall_mem_cons.mpr ⟨s_aload_n C0 dX11_isAllowed_138 rfl, List.forall_mem_cons.mpr ⟨s_get (ci := 11) (k := 7) C0 dX11_isAllowed_139 inX11 rfl (by decide) tw6_18, List.forall_mem_cons.mpr ⟨s_iconst C0 dX11_isAllowed_142 rfl, fun _ h => absurd h List.not_mem_nil⟩⟩⟩⟩⟩⟩⟩⟩⟩⟩⟩⟩⟩⟩⟩⟩⟩⟩⟩⟩⟩⟩⟩⟩⟩⟩⟩⟩⟩⟩⟩⟩⟩⟩⟩⟩⟩⟩⟩⟩
set_option maxRecDepth 10000 in
theorem hX11_isAllowed_2 (l : Launch) {p : Program} {e : Env} {s : State} {m : MethodId} {args : Array Value} {below : List Frame} {meth : Method} {c : Code} {D : va_G} {ad adV : Nat → Nat} {cA : Nat → ClassId} {K : Kt} (C0 : Cx p s m args meth c D ad adV cA cX11_isAllowed 7 RX11) (hr : meth.sig.returnType = (some .boolean)) : ∀ q ∈ lX11_isAllowed_2, Sd p l e (rmd 2) s m args below meth c (MQ below (QQ D ad cA K) args s 0 0 (AA ad)) D ad cA 7 q.1 (opOf K q.2) := List.forall_mem_cons.mpr ⟨s_iald C0 dX11_isAllowed_143, List.forall_mem_cons.mpr ⟨s_icmp_gt C0 dX11_isAllowed_144 rfl, List.forall_mem_cons.mpr ⟨s_iconst C0 dX11_isAllowed_147 rfl, List.forall_mem_cons.mpr ⟨s_goto C0 dX11_isAllowed_148 rfl, List.forall_mem_cons.mpr ⟨s_iconst C0 dX11_isAllowed_151 rfl, List.forall_mem_cons.mpr ⟨s_istore C0 dX11_isAllowed_152 (by decide), List.forall_mem_cons.mpr ⟨s_iinc C0 dX11_isAllowed_154 rfl (by decide), List.forall_mem_cons.mpr ⟨s_goto C0 dX11_isAllowed_157 rfl, List.forall_mem_cons.mpr ⟨s_aload_n C0 dX11_isAllowed_160 rfl, List.forall_mem_cons.mpr ⟨s_get (ci := 11) (k := 19) C0 dX11_isAllowed_161 inX11 rfl (by decide) tw6_30, List.forall_mem_cons.mpr ⟨s_iload_n C0 dX11_isAllowed_164 rfl, List.forall_mem_cons.mpr ⟨s_iload C0 dX11_isAllowed_165, List.forall_mem_cons.mpr ⟨s_iast C0 dX11_isAllowed_167, List.forall_mem_cons.mpr ⟨s_iload C0 dX11_isAllowed_168, List.forall_mem_cons.mpr ⟨s_zret C0 hr dX11_isAllowed_170, fun _ h => absurd h List.not_mem_nil⟩⟩⟩⟩⟩⟩⟩⟩⟩⟩⟩⟩⟩⟩⟩
def fX11_isAllowed : Mf := mf 7 (fun K => tl K lX11_isAllowed)
theorem kX11_isAllowed (l : Launch) : Okm l yX11_isAllowed cX11_isAllowed 7 (some .boolean) 2 fX11_isAllowed := Okm_tl (own := RX11) (by decide +kernel) rfl (fun C0 hr => List.forall_mem_append.mpr ⟨hX11_isAllowed_0 l C0 hr, List.forall_mem_append.mpr ⟨hX11_isAllowed_1 l C0 hr, hX11_isAllowed_2 l C0 hr⟩⟩)
