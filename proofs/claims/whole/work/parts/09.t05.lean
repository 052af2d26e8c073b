theorem dX10_laid_0 : decode cX10_laid 0 = .ok (.aload_n 0, 1) := by decide +kernel
theorem dX10_laid_1 : decode cX10_laid 1 = .ok (.iload_n 1, 1) := by decide +kernel
theorem dX10_laid_2 : decode cX10_laid 2 = .ok (.iload_n 2, 1) := by decide +kernel
theorem dX10_laid_3 : decode cX10_laid 3 = .ok (.invokevirtual 249, 3) := by decide +kernel
theorem dX10_laid_6 : decode cX10_laid 6 = .ok (.istore_n 3, 1) := by decide +kernel
theorem dX10_laid_7 : decode cX10_laid 7 = .ok (.iload_n 3, 1) := by decide +kernel
theorem dX10_laid_8 : decode cX10_laid 8 = .ok (.ifCond .eq 9, 3) := by decide +kernel
theorem dX10_laid_11 : decode cX10_laid 11 = .ok (.aload_n 0, 1) := by decide +kernel
theorem dX10_laid_12 : decode cX10_laid 12 = .ok (.iload_n 3, 1) := by decide +kernel
theorem dX10_laid_13 : decode cX10_laid 13 = .ok (.invokevirtual 108, 3) := by decide +kernel
theorem dX10_laid_16 : decode cX10_laid 16 = .ok (.ireturn, 1) := by decide +kernel
theorem dX10_laid_17 : decode cX10_laid 17 = .ok (.aload_n 0, 1) := by decide +kernel
theorem dX10_laid_18 : decode cX10_laid 18 = .ok (.getfield 62, 3) := by decide +kernel
theorem dX10_laid_21 : decode cX10_laid 21 = .ok (.iload_n 1, 1) := by decide +kernel
theorem dX10_laid_22 : decode cX10_laid 22 = .ok (.iload_n 2, 1) := by decide +kernel
theorem dX10_laid_23 : decode cX10_laid 23 = .ok (.invokevirtual 252, 3) := by decide +kernel
theorem dX10_laid_26 : decode cX10_laid 26 = .ok (.aload_n 0, 1) := by decide +kernel
theorem dX10_laid_27 : decode cX10_laid 27 = .ok (.getfield 83, 3) := by decide +kernel
theorem dX10_laid_30 : decode cX10_laid 30 = .ok (.invokevirtual 332, 3) := by decide +kernel
theorem dX10_laid_33 : decode cX10_laid 33 = .ok (.iconst 0, 1) := by decide +kernel
theorem dX10_laid_34 : decode cX10_laid 34 = .ok (.istore 4, 2) := by decide +kernel
theorem dX10_laid_36 : decode cX10_laid 36 = .ok (.iload 4, 2) := by decide +kernel
theorem dX10_laid_38 : decode cX10_laid 38 = .ok (.iload_n 2, 1) := by decide +kernel
theorem dX10_laid_39 : decode cX10_laid 39 = .ok (.if_icmp .ge 65, 3) := by decide +kernel
theorem dX10_laid_42 : decode cX10_laid 42 = .ok (.aload_n 0, 1) := by decide +kernel
theorem dX10_laid_43 : decode cX10_laid 43 = .ok (.getfield 35, 3) := by decide +kernel
theorem dX10_laid_46 : decode cX10_laid 46 = .ok (.iload_n 1, 1) := by decide +kernel
theorem dX10_laid_47 : decode cX10_laid 47 = .ok (.iload 4, 2) := by decide +kernel
theorem dX10_laid_49 : decode cX10_laid 49 = .ok (.iadd, 1) := by decide +kernel
theorem dX10_laid_50 : decode cX10_laid 50 = .ok (.invokevirtual 359, 3) := by decide +kernel
theorem dX10_laid_53 : decode cX10_laid 53 = .ok (.aload_n 0, 1) := by decide +kernel
theorem dX10_laid_54 : decode cX10_laid 54 = .ok (.getfield 62, 3) := by decide +kernel
theorem dX10_laid_57 : decode cX10_laid 57 = .ok (.getfield 259, 3) := by decide +kernel
theorem dX10_laid_60 : decode cX10_laid 60 = .ok (.iload 4, 2) := by decide +kernel
theorem dX10_laid_62 : decode cX10_laid 62 = .ok (.iaload, 1) := by decide +kernel
theorem dX10_laid_63 : decode cX10_laid 63 = .ok (.istore 5, 2) := by decide +kernel
theorem dX10_laid_65 : decode cX10_laid 65 = .ok (.iload 5, 2) := by decide +kernel
theorem dX10_laid_67 : decode cX10_laid 67 = .ok (.bipush (-2), 2) := by decide +kernel
theorem dX10_laid_69 : decode cX10_laid 69 = .ok (.if_icmp .eq 29, 3) := by decide +kernel
theorem dX10_laid_72 : decode cX10_laid 72 = .ok (.aload_n 0, 1) := by decide +kernel
theorem dX10_laid_73 : decode cX10_laid 73 = .ok (.getfield 35, 3) := by decide +kernel
theorem dX10_laid_76 : decode cX10_laid 76 = .ok (.iload_n 1, 1) := by decide +kernel
theorem dX10_laid_77 : decode cX10_laid 77 = .ok (.iload 4, 2) := by decide +kernel
theorem dX10_laid_79 : decode cX10_laid 79 = .ok (.iadd, 1) := by decide +kernel
theorem dX10_laid_80 : decode cX10_laid 80 = .ok (.iload 5, 2) := by decide +kernel
theorem dX10_laid_82 : decode cX10_laid 82 = .ok (.aload_n 0, 1) := by decide +kernel
theorem dX10_laid_83 : decode cX10_laid 83 = .ok (.getfield 44, 3) := by decide +kernel
theorem dX10_laid_86 : decode cX10_laid 86 = .ok (.iload 5, 2) := by decide +kernel
theorem dX10_laid_88 : decode cX10_laid 88 = .ok (.iload_n 1, 1) := by decide +kernel
theorem dX10_laid_89 : decode cX10_laid 89 = .ok (.iload 4, 2) := by decide +kernel
theorem dX10_laid_91 : decode cX10_laid 91 = .ok (.iadd, 1) := by decide +kernel
theorem dX10_laid_92 : decode cX10_laid 92 = .ok (.invokevirtual 240, 3) := by decide +kernel
theorem dX10_laid_95 : decode cX10_laid 95 = .ok (.invokevirtual 335, 3) := by decide +kernel
theorem dX10_laid_98 : decode cX10_laid 98 = .ok (.iinc 4 1, 3) := by decide +kernel
theorem dX10_laid_101 : decode cX10_laid 101 = .ok (.goto (-65), 3) := by decide +kernel
theorem dX10_laid_104 : decode cX10_laid 104 = .ok (.aload_n 0, 1) := by decide +kernel
theorem dX10_laid_105 : decode cX10_laid 105 = .ok (.aload_n 0, 1) := by decide +kernel
theorem dX10_laid_106 : decode cX10_laid 106 = .ok (.getfield 62, 3) := by decide +kernel
theorem dX10_laid_109 : decode cX10_laid 109 = .ok (.getfield 256, 3) := by decide +kernel
theorem dX10_laid_112 : decode cX10_laid 112 = .ok (.invokevirtual 138, 3) := by decide +kernel
theorem dX10_laid_115 : decode cX10_laid 115 = .ok (.ireturn, 1) := by decide +kernel
def lX10_laid_0 : List (Nat × (Op ⊕ Nat)) := [(0, .inl (o_aload 0 1)), (1, .inl (o_iload 1 2)), (2, .inl (o_iload 2 3)), (3, .inl (o_callV fX10_troubleOfBest 2 10 6)), (6, .inl (o_istore 3 7)), (7, .inl (o_iload 3 8)), (8, .inl (o_if_eq 17 11)), (11, .inl (o_aload 0 12)), (12, .inl (o_iload 3 13)), (13, .inl (o_callV fX10_refuse 1 10 16)), (16, .inr 0), (17, .inl (o_aload 0 18)), (18, .inl (o_get 10 6 21)), (21, .inl (o_iload 1 22)), (22, .inl (o_iload 2 23)), (23, .inl (o_callV fX0_find 2 0 26)), (26, .inl (o_aload 0 27)), (27, .inl (o_get 10 9 30)), (30, .inl (o_callV fX4_keep 0 4 33)), (33, .inl (o_pushI (nI 0) 34)), (34, .inl (o_istore 4 36)), (36, .inl (o_iload 4 38)), (38, .inl (o_iload 2 39)), (39, .inl (o_icmp_ge 104 42)), (42, .inl (o_aload 0 43)), (43, .inl (o_get 10 3 46)), (46, .inl (o_iload 1 47)), (47, .inl (o_iload 4 49)), (49, .inl (o_iadd 50)), (50, .inl (o_callV fX5_emptyGame 1 5 53)), (53, .inl (o_aload 0 54)), (54, .inl (o_get 10 6 57)), (57, .inl (o_get 0 9 60)), (60, .inl (o_iload 4 62)), (62, .inl (o_iald 63)), (63, .inl (o_istore 5 65)), (65, .inl (o_iload 5 67)), (67, .inl (o_pushI ((-2)) 69)), (69, .inl (o_icmp_eq 98 72)), (72, .inl (o_aload 0 73))]
def lX10_laid_1 : List (Nat × (Op ⊕ Nat)) := [(73, .inl (o_get 10 3 76)), (76, .inl (o_iload 1 77)), (77, .inl (o_iload 4 79)), (79, .inl (o_iadd 80)), (80, .inl (o_iload 5 82)), (82, .inl (o_aload 0 83)), (83, .inl (o_get 10 4 86)), (86, .inl (o_iload 5 88)), (88, .inl (o_iload 1 89)), (89, .inl (o_iload 4 91)), (91, .inl (o_iadd 92)), (92, .inl (o_callV fX1_fullThrows 2 1 95)), (95, .inl (o_callV fX5_add 3 5 98)), (98, .inl (o_iinc 4 (nI 1) 101)), (101, .inl (o_goto 36)), (104, .inl (o_aload 0 105)), (105, .inl (o_aload 0 106)), (106, .inl (o_get 10 6 109)), (109, .inl (o_get 0 10 112)), (112, .inl (o_callV fX10_answer 1 10 115)), (115, .inr 0)]
def lX10_laid : List (Nat × (Op ⊕ Nat)) := lX10_laid_0 ++ (lX10_laid_1)
theorem qX10_laid : yX10_laid.cls = RX10 ∧ yX10_laid.cls ≠ "java/lang/invoke/MethodHandle" ∧ yX10_laid.cls ≠ "java/lang/invoke/VarHandle" ∧ (parseMethodDescriptor yX10_laid.desc).map (fun d => d.parameters.length) = some 2 := by decide +kernel
set_option maxRecDepth 10000 in
theorem hX10_laid_0 (l : Launch) {p : Program} {e : Env} {s : State} {m : MethodId} {args : Array Value} {below : List Frame} {meth : Method} {c : Code} {D : va_G} {ad adV : Nat → Nat} {cA : Nat → ClassId} {K : Kt} (C0 : Cx p s m args meth c D ad adV cA cX10_laid 6 RX10) (hr : meth.sig.returnType = (some .int)) : ∀ q ∈ lX10_laid_0, Sd p l e (rmd 12) s m args below meth c (MQ below (QQ D ad cA K) args s 0 0 (AA ad)) D ad cA 6 q.1 (opOf K q.2) := List.forall_mem_cons.mpr ⟨s_aload_n C0 dX10_laid_0 rfl, List.forall_mem_cons.mpr ⟨s_iload_n C0 dX10_laid_1 rfl, List.forall_mem_cons.mpr ⟨s_iload_n C0 dX10_laid_2 rfl, List.forall_mem_cons.mpr ⟨s_callV (ci := 10) C0 (kX10_troubleOfBest l) dX10_laid_3 rfl qX10_troubleOfBest tw4_133 tw4_135 twp_28 tw1_1 tw4_136 rfl (by decide) (by decide), List.forall_mem_cons.mpr ⟨s_istore_n C0 dX10_laid_6 rfl (by decide), List.forall_mem_cons.mpr ⟨s_iload_n C0 dX10_laid_7 rfl, List.forall_mem_cons.mpr ⟨s_if_eq C0 dX10_laid_8 rfl, List.forall_mem_cons.mpr ⟨s_aload_n C0 dX10_laid_11 rfl, List.forall_mem_cons.mpr ⟨s_iload_n C0 dX10_laid_12 rfl, List.forall_mem_cons.mpr ⟨s_callV (ci := 10) C0 (kX10_refuse l) dX10_laid_13 rfl qX10_refuse tw2_173 tw2_175 twp_0 tw1_1 tw2_176 rfl (by decide) (by decide), List.forall_mem_cons.mpr ⟨s_iret C0 hr dX10_laid_16, List.forall_mem_cons.mpr ⟨s_aload_n C0 dX10_laid_17 rfl, List.forall_mem_cons.mpr ⟨s_get (ci := 10) (k := 6) C0 dX10_laid_18 inX10 rfl (by decide) tw2_124, List.forall_mem_cons.mpr ⟨s_iload_n C0 dX10_laid_21 rfl, List.forall_mem_cons.mpr ⟨s_iload_n C0 dX10_laid_22 rfl, List.forall_mem_cons.mpr ⟨s_callV (ci := 0) C0 (kX0_find l) dX10_laid_23 rfl qX0_find tw4_137 tw4_138 tw4_139 tw1_8 tw4_140 rfl (by decide) (by decide), List.forall_mem_cons.mpr ⟨s_aload_n C0 dX10_laid_26 rfl, List.forall_mem_cons.mpr ⟨s_get (ci := 10) (k := 9) C0 dX10_laid_27 inX10 rfl (by decide) tw2_127, List.forall_mem_cons.mpr ⟨s_callV (ci := 4) C0 (kX4_keep l) dX10_laid_30 rfl qX4_keep tw5_40 tw5_41 tw5_42 tw1_11 tw5_43 rfl (by decide) (by decide), List.forall_mem_cons.mpr ⟨s_iconst C0 dX10_laid_33 rfl, List.forall_mem_cons.mpr ⟨s_istore C0 dX10_laid_34 (by decide), List.forall_mem_cons.mpr ⟨s_iload C0 dX10_laid_36, List.forall_mem_cons.mpr ⟨s_iload_n C0 dX10_laid_38 rfl, List.forall_mem_cons.mpr ⟨s_icmp_ge C0 dX10_laid_39 rfl, List.forall_mem_cons.mpr ⟨s_aload_n C0 dX10_laid_42 rfl, List.forall_mem_cons.mpr ⟨s_get (ci := 10) (k := 3) C0 dX10_laid_43 inX10 rfl (by decide) tw2_121, List.forall_mem_cons.mpr ⟨s_iload_n C0 dX10_laid_46 rfl, List.forall_mem_cons.mpr ⟨s_iload C0 dX10_laid_47, List.forall_mem_cons.mpr ⟨s_iadd C0 dX10_laid_49, List.forall_mem_cons.mpr ⟨s_callV (ci := 5) C0 (kX5_emptyGame l) dX10_laid_50 rfl qX5_emptyGame tw5_121 tw3_120 tw3_121 tw1_5 tw3_122 rfl (by decide) (by decide), List.forall_mem_cons.mpr ⟨s_aload_n C0 dX10_laid_53 rfl, List.forall_mem_cons.mpr ⟨s_get (ci := 10) (k := 6) C0 dX10_laid_54 inX10 rfl (by decide) tw2_124, List.forall_mem_cons.mpr ⟨s_get (ci := 0) (k := 9) C0 dX10_laid_57 inX0 rfl (by decide) tw1_236, List.forall_mem_cons.mpr ⟨s_iload C0 dX10_laid_60, List.forall_mem_cons.mpr ⟨s_iald C0 dX10_laid_62, List.forall_mem_cons.mpr ⟨s_istore C0 dX10_laid_63 (by decide), List.forall_mem_cons.mpr ⟨s_iload C0 dX10_laid_65, List.forall_mem_cons.mpr ⟨s_bipush C0 dX10_laid_67 (by decide +kernel), List.forall_mem_cons.mpr ⟨s_icmp_eq C0 dX10_laid_69 rfl, List.forall_mem_cons.mpr ⟨s_aload_n C0 dX10_laid_72 rfl, fun _ h => absurd h List.not_mem_nil⟩⟩⟩⟩⟩⟩⟩⟩⟩⟩⟩⟩⟩⟩⟩⟩⟩⟩⟩⟩⟩⟩⟩⟩⟩⟩⟩⟩⟩⟩⟩⟩⟩⟩⟩⟩⟩⟩⟩⟩
set_option maxRecDepth 10000 in
theorem hX10_laid_1 (l : Launch) {p : Program} {e : Env} {s : State} {m : MethodId} {args : Array Value} {below : List Frame} {meth : Method} {c : Code} {D : va_G} {ad adV : Nat → Nat} {cA : Nat → ClassId} {K : Kt} (C0 : Cx p s m args meth c D ad adV cA cX10_laid 6 RX10) (hr : meth.sig.returnType = (some .int)) : ∀ q ∈ lX10_laid_1, Sd p l e (rmd 12) s m args below meth c (MQ below (QQ D ad cA K) args s 0 0 (AA ad)) D ad cA 6 q.1 (opOf K q.2) := List.forall_mem_cons.mpr ⟨s_get (ci := 10) (k := 3) C0 dX10_laid_73 inX10 rfl (by decide) tw2_121, List.forall_mem_cons.mpr ⟨s_iload_n C0 dX10_laid_76 rfl, List.forall_mem_cons.mpr ⟨s_iload C0 dX10_laid_77, List.forall_mem_cons.mpr ⟨s_iadd C0 dX10_laid_79, List.forall_mem_cons.mpr ⟨s_iload C0 dX10_laid_80, List.forall_mem_cons.mpr ⟨s_aload_n C0 dX10_laid_82 rfl, List.forall_mem_cons.mpr ⟨s_get (ci := 10) (k := 4) C0 dX10_laid_83 inX10 rfl (by decide) tw2_122, List.forall_mem_cons.mpr ⟨s_iload C0 dX10_laid_86, List.forall_mem_cons.mpr ⟨s_iload_n C0 dX10_laid_88 rfl, List.forall_mem_cons.mpr ⟨s_iload C0 dX10_laid_89, List.forall_mem_cons.mpr ⟨s_iadd C0 dX10_laid_91, List.forall_mem_cons.mpr ⟨s_callV (ci := 1) C0 (kX1_fullThrows l) dX10_laid_92 rfl qX1_fullThrows tw4_115 tw4_116 tw4_117 tw1_6 tw4_118 rfl (by decide) (by decide), List.forall_mem_cons.mpr ⟨s_callV (ci := 5) C0 (kX5_add l) dX10_laid_95 rfl qX5_add tw5_53 tw5_54 tw5_55 tw1_5 tw5_56 rfl (by decide) (by decide), List.forall_mem_cons.mpr ⟨s_iinc C0 dX10_laid_98 rfl (by decide), List.forall_mem_cons.mpr ⟨s_goto C0 dX10_laid_101 rfl, List.forall_mem_cons.mpr ⟨s_aload_n C0 dX10_laid_104 rfl, List.forall_mem_cons.mpr ⟨s_aload_n C0 dX10_laid_105 rfl, List.forall_mem_cons.mpr ⟨s_get (ci := 10) (k := 6) C0 dX10_laid_106 inX10 rfl (by decide) tw2_124, List.forall_mem_cons.mpr ⟨s_get (ci := 0) (k := 10) C0 dX10_laid_109 inX0 rfl (by decide) tw1_238, List.forall_mem_cons.mpr ⟨s_callV (ci := 10) C0 (kX10_answer l) dX10_laid_112 rfl qX10_answer tw3_139 tw3_141 twp_14 tw1_1 tw3_142 rfl (by decide) (by decide), List.forall_mem_cons.mpr ⟨s_iret C0 hr dX10_laid_115, fun _ h => absurd h List.not_mem_nil⟩⟩⟩⟩⟩⟩⟩⟩⟩⟩⟩⟩⟩⟩⟩⟩⟩⟩⟩⟩⟩
def fX10_laid : Mf := mf 6 (fun K => tl K lX10_laid)
theorem kX10_laid (l : Launch) : Okm l yX10_laid cX10_laid 6 (some .int) 12 fX10_laid := Okm_tl (own := RX10) (by decide +kernel) rfl (fun C0 hr => List.forall_mem_append.mpr ⟨hX10_laid_0 l C0 hr, hX10_laid_1 l C0 hr⟩)
theorem dX10_become_0 : decode cX10_become 0 = .ok (.aload_n 0, 1) := by decide +kernel
theorem dX10_become_1 : decode cX10_become 1 = .ok (.iload_n 1, 1) := by decide +kernel
theorem dX10_become_2 : decode cX10_become 2 = .ok (.invokevirtual 162, 3) := by decide +kernel
theorem dX10_become_5 : decode cX10_become 5 = .ok (.ifCond .eq 12, 3) := by decide +kernel
theorem dX10_become_8 : decode cX10_become 8 = .ok (.iload_n 2, 1) := by decide +kernel
theorem dX10_become_9 : decode cX10_become 9 = .ok (.iconst 0, 1) := by decide +kernel
theorem dX10_become_10 : decode cX10_become 10 = .ok (.iconst 3, 1) := by decide +kernel
theorem dX10_become_11 : decode cX10_become 11 = .ok (.invokestatic 104, 3) := by decide +kernel
theorem dX10_become_14 : decode cX10_become 14 = .ok (.ifCond .ne 9, 3) := by decide +kernel
theorem dX10_become_17 : decode cX10_become 17 = .ok (.aload_n 0, 1) := by decide +kernel
theorem dX10_become_18 : decode cX10_become 18 = .ok (.iconst 1, 1) := by decide +kernel
theorem dX10_become_19 : decode cX10_become 19 = .ok (.invokevirtual 108, 3) := by decide +kernel
theorem dX10_become_22 : decode cX10_become 22 = .ok (.ireturn, 1) := by decide +kernel
theorem dX10_become_23 : decode cX10_become 23 = .ok (.iload_n 3, 1) := by decide +kernel
theorem dX10_become_24 : decode cX10_become 24 = .ok (.getstatic 362, 3) := by decide +kernel
theorem dX10_become_27 : decode cX10_become 27 = .ok (.iload_n 2, 1) := by decide +kernel
theorem dX10_become_28 : decode cX10_become 28 = .ok (.iaload, 1) := by decide +kernel
theorem dX10_become_29 : decode cX10_become 29 = .ok (.aload_n 0, 1) := by decide +kernel
theorem dX10_become_30 : decode cX10_become 30 = .ok (.getfield 28, 3) := by decide +kernel
theorem dX10_become_33 : decode cX10_become 33 = .ok (.iload_n 1, 1) := by decide +kernel
theorem dX10_become_34 : decode cX10_become 34 = .ok (.iload_n 2, 1) := by decide +kernel
theorem dX10_become_35 : decode cX10_become 35 = .ok (.invokevirtual 365, 3) := by decide +kernel
theorem dX10_become_38 : decode cX10_become 38 = .ok (.invokestatic 104, 3) := by decide +kernel
theorem dX10_become_41 : decode cX10_become 41 = .ok (.ifCond .ne 9, 3) := by decide +kernel
theorem dX10_become_44 : decode cX10_become 44 = .ok (.aload_n 0, 1) := by decide +kernel
theorem dX10_become_45 : decode cX10_become 45 = .ok (.iconst 2, 1) := by decide +kernel
theorem dX10_become_46 : decode cX10_become 46 = .ok (.invokevirtual 108, 3) := by decide +kernel
theorem dX10_become_49 : decode cX10_become 49 = .ok (.ireturn, 1) := by decide +kernel
theorem dX10_become_50 : decode cX10_become 50 = .ok (.aload_n 0, 1) := by decide +kernel
theorem dX10_become_51 : decode cX10_become 51 = .ok (.getfield 83, 3) := by decide +kernel
theorem dX10_become_54 : decode cX10_become 54 = .ok (.invokevirtual 332, 3) := by decide +kernel
theorem dX10_become_57 : decode cX10_become 57 = .ok (.aload_n 0, 1) := by decide +kernel
theorem dX10_become_58 : decode cX10_become 58 = .ok (.getfield 28, 3) := by decide +kernel
theorem dX10_become_61 : decode cX10_become 61 = .ok (.iload_n 1, 1) := by decide +kernel
theorem dX10_become_62 : decode cX10_become 62 = .ok (.iload_n 2, 1) := by decide +kernel
theorem dX10_become_63 : decode cX10_become 63 = .ok (.invokevirtual 172, 3) := by decide +kernel
theorem dX10_become_66 : decode cX10_become 66 = .ok (.istore 4, 2) := by decide +kernel
theorem dX10_become_68 : decode cX10_become 68 = .ok (.aload_n 0, 1) := by decide +kernel
theorem dX10_become_69 : decode cX10_become 69 = .ok (.getfield 28, 3) := by decide +kernel
theorem dX10_become_72 : decode cX10_become 72 = .ok (.iload_n 1, 1) := by decide +kernel
theorem dX10_become_73 : decode cX10_become 73 = .ok (.iload_n 2, 1) := by decide +kernel
theorem dX10_become_74 : decode cX10_become 74 = .ok (.iload_n 3, 1) := by decide +kernel
theorem dX10_become_75 : decode cX10_become 75 = .ok (.invokevirtual 368, 3) := by decide +kernel
theorem dX10_become_78 : decode cX10_become 78 = .ok (.aload_n 0, 1) := by decide +kernel
theorem dX10_become_79 : decode cX10_become 79 = .ok (.getfield 28, 3) := by decide +kernel
theorem dX10_become_82 : decode cX10_become 82 = .ok (.iload_n 1, 1) := by decide +kernel
theorem dX10_become_83 : decode cX10_become 83 = .ok (.iconst 2, 1) := by decide +kernel
theorem dX10_become_84 : decode cX10_become 84 = .ok (.invokevirtual 172, 3) := by decide +kernel
theorem dX10_become_87 : decode cX10_become 87 = .ok (.aload_n 0, 1) := by decide +kernel
theorem dX10_become_88 : decode cX10_become 88 = .ok (.getfield 28, 3) := by decide +kernel
theorem dX10_become_91 : decode cX10_become 91 = .ok (.iload_n 1, 1) := by decide +kernel
theorem dX10_become_92 : decode cX10_become 92 = .ok (.iconst 1, 1) := by decide +kernel
theorem dX10_become_93 : decode cX10_become 93 = .ok (.invokevirtual 172, 3) := by decide +kernel
theorem dX10_become_96 : decode cX10_become 96 = .ok (.if_icmp .le 21, 3) := by decide +kernel
theorem dX10_become_99 : decode cX10_become 99 = .ok (.aload_n 0, 1) := by decide +kernel
theorem dX10_become_100 : decode cX10_become 100 = .ok (.getfield 28, 3) := by decide +kernel
theorem dX10_become_103 : decode cX10_become 103 = .ok (.iload_n 1, 1) := by decide +kernel
theorem dX10_become_104 : decode cX10_become 104 = .ok (.iconst 2, 1) := by decide +kernel
theorem dX10_become_105 : decode cX10_become 105 = .ok (.aload_n 0, 1) := by decide +kernel
theorem dX10_become_106 : decode cX10_become 106 = .ok (.getfield 28, 3) := by decide +kernel
theorem dX10_become_109 : decode cX10_become 109 = .ok (.iload_n 1, 1) := by decide +kernel
theorem dX10_become_110 : decode cX10_become 110 = .ok (.iconst 1, 1) := by decide +kernel
theorem dX10_become_111 : decode cX10_become 111 = .ok (.invokevirtual 172, 3) := by decide +kernel
theorem dX10_become_114 : decode cX10_become 114 = .ok (.invokevirtual 368, 3) := by decide +kernel
theorem dX10_become_117 : decode cX10_become 117 = .ok (.aload_n 0, 1) := by decide +kernel
theorem dX10_become_118 : decode cX10_become 118 = .ok (.iload 4, 2) := by decide +kernel
theorem dX10_become_120 : decode cX10_become 120 = .ok (.invokevirtual 138, 3) := by decide +kernel
theorem dX10_become_123 : decode cX10_become 123 = .ok (.ireturn, 1) := by decide +kernel
def lX10_become_0 : List (Nat × (Op ⊕ Nat)) := [(0, .inl (o_aload 0 1)), (1, .inl (o_iload 1 2)), (2, .inl (o_callV fX10_hasArm 1 10 5)), (5, .inl (o_if_eq 17 8)), (8, .inl (o_iload 2 9)), (9, .inl (o_pushI (nI 0) 10)), (10, .inl (o_pushI (nI 3) 11)), (11, .inl (o_callS fX10_within 3 14)), (14, .inl (o_if_ne 23 17)), (17, .inl (o_aload 0 18)), (18, .inl (o_pushI (nI 1) 19)), (19, .inl (o_callV fX10_refuse 1 10 22)), (22, .inr 0), (23, .inl (o_iload 3 24)), (24, .inl (o_pushR 100 27)), (27, .inl (o_iload 2 28)), (28, .inl (o_iaro 29)), (29, .inl (o_aload 0 30)), (30, .inl (o_get 10 2 33)), (33, .inl (o_iload 1 34)), (34, .inl (o_iload 2 35)), (35, .inl (o_callV fX9_highestTrait 2 9 38)), (38, .inl (o_callS fX10_within 3 41)), (41, .inl (o_if_ne 50 44)), (44, .inl (o_aload 0 45)), (45, .inl (o_pushI (nI 2) 46)), (46, .inl (o_callV fX10_refuse 1 10 49)), (49, .inr 0), (50, .inl (o_aload 0 51)), (51, .inl (o_get 10 9 54)), (54, .inl (o_callV fX4_keep 0 4 57)), (57, .inl (o_aload 0 58)), (58, .inl (o_get 10 2 61)), (61, .inl (o_iload 1 62)), (62, .inl (o_iload 2 63)), (63, .inl (o_callV fX9_trait 2 9 66)), (66, .inl (o_istore 4 68)), (68, .inl (o_aload 0 69)), (69, .inl (o_get 10 2 72)), (72, .inl (o_iload 1 73))]
def lX10_become_1 : List (Nat × (Op ⊕ Nat)) := [(73, .inl (o_iload 2 74)), (74, .inl (o_iload 3 75)), (75, .inl (o_callV fX9_setTrait 3 9 78)), (78, .inl (o_aload 0 79)), (79, .inl (o_get 10 2 82)), (82, .inl (o_iload 1 83)), (83, .inl (o_pushI (nI 2) 84)), (84, .inl (o_callV fX9_trait 2 9 87)), (87, .inl (o_aload 0 88)), (88, .inl (o_get 10 2 91)), (91, .inl (o_iload 1 92)), (92, .inl (o_pushI (nI 1) 93)), (93, .inl (o_callV fX9_trait 2 9 96)), (96, .inl (o_icmp_le 117 99)), (99, .inl (o_aload 0 100)), (100, .inl (o_get 10 2 103)), (103, .inl (o_iload 1 104)), (104, .inl (o_pushI (nI 2) 105)), (105, .inl (o_aload 0 106)), (106, .inl (o_get 10 2 109)), (109, .inl (o_iload 1 110)), (110, .inl (o_pushI (nI 1) 111)), (111, .inl (o_callV fX9_trait 2 9 114)), (114, .inl (o_callV fX9_setTrait 3 9 117)), (117, .inl (o_aload 0 118)), (118, .inl (o_iload 4 120)), (120, .inl (o_callV fX10_answer 1 10 123)), (123, .inr 0)]
def lX10_become : List (Nat × (Op ⊕ Nat)) := lX10_become_0 ++ (lX10_become_1)
theorem qX10_become : yX10_become.cls = RX10 ∧ yX10_become.cls ≠ "java/lang/invoke/MethodHandle" ∧ yX10_become.cls ≠ "java/lang/invoke/VarHandle" ∧ (parseMethodDescriptor yX10_become.desc).map (fun d => d.parameters.length) = some 3 := by decide +kernel
set_option maxRecDepth 10000 in
theorem hX10_become_0 (l : Launch) {p : Program} {e : Env} {s : State} {m : MethodId} {args : Array Value} {below : List Frame} {meth : Method} {c : Code} {D : va_G} {ad adV : Nat → Nat} {cA : Nat → ClassId} {K : Kt} (C0 : Cx p s m args meth c D ad adV cA cX10_become 5 RX10) (hr : meth.sig.returnType = (some .int)) : ∀ q ∈ lX10_become_0, Sd p l e (rmd 3) s m args below meth c (MQ below (QQ D ad cA K) args s 0 0 (AA ad)) D ad cA 5 q.1 (opOf K q.2) := List.forall_mem_cons.mpr ⟨s_aload_n C0 dX10_become_0 rfl, List.forall_mem_cons.mpr ⟨s_iload_n C0 dX10_become_1 rfl, List.forall_mem_cons.mpr ⟨s_callV (ci := 10) C0 (kX10_hasArm l) dX10_become_2 rfl qX10_hasArm tw3_171 tw3_173 twp_17 tw1_1 tw3_174 rfl (by decide) (by decide), List.forall_mem_cons.mpr ⟨s_if_eq C0 dX10_become_5 rfl, List.forall_mem_cons.mpr ⟨s_iload_n C0 dX10_become_8 rfl, List.forall_mem_cons.mpr ⟨s_iconst C0 dX10_become_9 rfl, List.forall_mem_cons.mpr ⟨s_iconst C0 dX10_become_10 rfl, List.forall_mem_cons.mpr ⟨s_callS C0 (kX10_within l) dX10_become_11 qX10_within tw2_170 tw2_171 tw1_1 tw2_172 rfl (by decide) (by decide), List.forall_mem_cons.mpr ⟨s_if_ne C0 dX10_become_14 rfl, List.forall_mem_cons.mpr ⟨s_aload_n C0 dX10_become_17 rfl, List.forall_mem_cons.mpr ⟨s_iconst C0 dX10_become_18 rfl, List.forall_mem_cons.mpr ⟨s_callV (ci := 10) C0 (kX10_refuse l) dX10_become_19 rfl qX10_refuse tw2_173 tw2_175 twp_0 tw1_1 tw2_176 rfl (by decide) (by decide), List.forall_mem_cons.mpr ⟨s_iret C0 hr dX10_become_22, List.forall_mem_cons.mpr ⟨s_iload_n C0 dX10_become_23 rfl, List.forall_mem_cons.mpr ⟨s_gets (k := 0) C0 dX10_become_24 tw5_126 (by decide) rfl, List.forall_mem_cons.mpr ⟨s_iload_n C0 dX10_become_27 rfl, List.forall_mem_cons.mpr ⟨s_iaro C0 dX10_become_28, List.forall_mem_cons.mpr ⟨s_aload_n C0 dX10_become_29 rfl, List.forall_mem_cons.mpr ⟨s_get (ci := 10) (k := 2) C0 dX10_become_30 inX10 rfl (by decide) tw2_120, List.forall_mem_cons.mpr ⟨s_iload_n C0 dX10_become_33 rfl, List.forall_mem_cons.mpr ⟨s_iload_n C0 dX10_become_34 rfl, List.forall_mem_cons.mpr ⟨s_callV (ci := 9) C0 (kX9_highestTrait l) dX10_become_35 rfl qX9_highestTrait tw5_127 tw3_69 tw3_70 tw1_4 tw3_71 rfl (by decide) (by decide), List.forall_mem_cons.mpr ⟨s_callS C0 (kX10_within l) dX10_become_38 qX10_within tw2_170 tw2_171 tw1_1 tw2_172 rfl (by decide) (by decide), List.forall_mem_cons.mpr ⟨s_if_ne C0 dX10_become_41 rfl, List.forall_mem_cons.mpr ⟨s_aload_n C0 dX10_become_44 rfl, List.forall_mem_cons.mpr ⟨s_iconst C0 dX10_become_45 rfl, List.forall_mem_cons.mpr ⟨s_callV (ci := 10) C0 (kX10_refuse l) dX10_become_46 rfl qX10_refuse tw2_173 tw2_175 twp_0 tw1_1 tw2_176 rfl (by decide) (by decide), List.forall_mem_cons.mpr ⟨s_iret C0 hr dX10_become_49, List.forall_mem_cons.mpr ⟨s_aload_n C0 dX10_become_50 rfl, List.forall_mem_cons.mpr ⟨s_get (ci := 10) (k := 9) C0 dX10_become_51 inX10 rfl (by decide) tw2_127, List.forall_mem_cons.mpr ⟨s_callV (ci := 4) C0 (kX4_keep l) dX10_become_54 rfl qX4_keep tw5_40 tw5_41 tw5_42 tw1_11 tw5_43 rfl (by decide) (by decide), List.forall_mem_cons.mpr ⟨s_aload_n C0 dX10_become_57 rfl, List.forall_mem_cons.mpr ⟨s_get (ci := 10) (k := 2) C0 dX10_become_58 inX10 rfl (by decide) tw2_120, List.forall_mem_cons.mpr ⟨s_iload_n C0 dX10_become_61 rfl, List.forall_mem_cons.mpr ⟨s_iload_n C0 dX10_become_62 rfl, List.forall_mem_cons.mpr ⟨s_callV (ci := 9) C0 (kX9_trait l) dX10_become_63 rfl qX9_trait tw3_179 tw3_73 tw3_74 tw1_4 tw3_75 rfl (by decide) (by decide), List.forall_mem_cons.mpr ⟨s_istore C0 dX10_become_66 (by decide), List.forall_mem_cons.mpr ⟨s_aload_n C0 dX10_become_68 rfl, List.forall_mem_cons.mpr ⟨s_get (ci := 10) (k := 2) C0 dX10_become_69 inX10 rfl (by decide) tw2_120, List.forall_mem_cons.mpr ⟨s_iload_n C0 dX10_become_72 rfl, fun _ h => absurd h List.not_mem_nil⟩⟩⟩⟩⟩⟩⟩⟩⟩⟩⟩⟩⟩⟩⟩⟩⟩⟩⟩⟩⟩⟩⟩⟩⟩⟩⟩⟩⟩⟩⟩⟩⟩⟩⟩⟩⟩⟩⟩⟩
set_option maxRecDepth 10000 in
theorem hX10_become_1 (l : Launch) {p : Program} {e : Env} {s : State} {m : MethodId} {args : Array Value} {below : List Frame} {meth : Method} {c : Code} {D : va_G} {ad adV : Nat → Nat} {cA : Nat → ClassId} {K : Kt} (C0 : Cx p s m args meth c D ad adV cA cX10_become 5 RX10) (hr : meth.sig.returnType = (some .int)) : ∀ q ∈ lX10_become_1, Sd p l e (rmd 3) s m args below meth c (MQ below (QQ D ad cA K) args s 0 0 (AA ad)) D ad cA 5 q.1 (opOf K q.2) := List.forall_mem_cons.mpr ⟨s_iload_n C0 dX10_become_73 rfl, List.forall_mem_cons.mpr ⟨s_iload_n C0 dX10_become_74 rfl, List.forall_mem_cons.mpr ⟨s_callV (ci := 9) C0 (kX9_setTrait l) dX10_become_75 rfl qX9_setTrait tw5_128 tw3_84 tw3_85 tw1_4 tw3_86 rfl (by decide) (by decide), List.forall_mem_cons.mpr ⟨s_aload_n C0 dX10_become_78 rfl, List.forall_mem_cons.mpr ⟨s_get (ci := 10) (k := 2) C0 dX10_become_79 inX10 rfl (by decide) tw2_120, List.forall_mem_cons.mpr ⟨s_iload_n C0 dX10_become_82 rfl, List.forall_mem_cons.mpr ⟨s_iconst C0 dX10_become_83 rfl, List.forall_mem_cons.mpr ⟨s_callV (ci := 9) C0 (kX9_trait l) dX10_become_84 rfl qX9_trait tw3_179 tw3_73 tw3_74 tw1_4 tw3_75 rfl (by decide) (by decide), List.forall_mem_cons.mpr ⟨s_aload_n C0 dX10_become_87 rfl, List.forall_mem_cons.mpr ⟨s_get (ci := 10) (k := 2) C0 dX10_become_88 inX10 rfl (by decide) tw2_120, List.forall_mem_cons.mpr ⟨s_iload_n C0 dX10_become_91 rfl, List.forall_mem_cons.mpr ⟨s_iconst C0 dX10_become_92 rfl, List.forall_mem_cons.mpr ⟨s_callV (ci := 9) C0 (kX9_trait l) dX10_become_93 rfl qX9_trait tw3_179 tw3_73 tw3_74 tw1_4 tw3_75 rfl (by decide) (by decide), List.forall_mem_cons.mpr ⟨s_icmp_le C0 dX10_become_96 rfl, List.forall_mem_cons.mpr ⟨s_aload_n C0 dX10_become_99 rfl, List.forall_mem_cons.mpr ⟨s_get (ci := 10) (k := 2) C0 dX10_become_100 inX10 rfl (by decide) tw2_120, List.forall_mem_cons.mpr ⟨s_iload_n C0 dX10_become_103 rfl, List.forall_mem_cons.mpr ⟨s_iconst C0 dX10_become_104 rfl, List.forall_mem_cons.mpr ⟨s_aload_n C0 dX10_become_105 rfl, List.forall_mem_cons.mpr ⟨s_get (ci := 10) (k := 2) C0 dX10_become_106 inX10 rfl (by decide) tw2_120, List.forall_mem_cons.mpr ⟨s_iload_n C0 dX10_become_109 rfl, List.forall_mem_cons.mpr ⟨s_iconst C0 dX10_become_110 rfl, List.forall_mem_cons.mpr ⟨s_callV (ci := 9) C0 (kX9_trait l) dX10_become_111 rfl qX9_trait tw3_179 tw3_73 tw3_74 tw1_4 tw3_75 rfl (by decide) (by decide), List.forall_mem_cons.mpr ⟨s_callV (ci := 9) C0 (kX9_setTrait l) dX10_become_114 rfl qX9_setTrait tw5_128 tw3_84 tw3_85 tw1_4 tw3_86 rfl (by decide) (by decide), List.forall_mem_cons.mpr ⟨s_aload_n C0 dX10_become_117 rfl, List.forall_mem_cons.mpr ⟨s_iload C0 dX10_become_118, List.forall_mem_cons.mpr ⟨s_callV (ci := 10) C0 (kX10_answer l) dX10_become_120 rfl qX10_answer tw3_139 tw3_141 twp_14 tw1_1 tw3_142 rfl (by decide) (by decide), List.forall_mem_cons.mpr ⟨s_iret C0 hr dX10_become_123, fun _ h => absurd h List.not_mem_nil⟩⟩⟩⟩⟩⟩⟩⟩⟩⟩⟩⟩⟩⟩⟩⟩⟩⟩⟩⟩⟩⟩⟩⟩⟩⟩⟩⟩
def fX10_become : Mf := mf 5 (fun K => tl K lX10_become)
theorem kX10_become (l : Launch) : Okm l yX10_become cX10_become 5 (some .int) 3 fX10_become := Okm_tl (own := RX10) (by decide +kernel) rfl (fun C0 hr => List.forall_mem_append.mpr ⟨hX10_become_0 l C0 hr, hX10_become_1 l C0 hr⟩)
theorem dX10_rule_0 : decode cX10_rule 0 = .ok (.aload_n 0, 1) := by decide +kernel
theorem dX10_rule_1 : decode cX10_rule 1 = .ok (.invokevirtual 141, 3) := by decide +kernel
theorem dX10_rule_4 : decode cX10_rule 4 = .ok (.ifCond .eq 12, 3) := by decide +kernel
theorem dX10_rule_7 : decode cX10_rule 7 = .ok (.iload_n 1, 1) := by decide +kernel
theorem dX10_rule_8 : decode cX10_rule 8 = .ok (.iconst 0, 1) := by decide +kernel
theorem dX10_rule_9 : decode cX10_rule 9 = .ok (.iconst 2, 1) := by decide +kernel
theorem dX10_rule_10 : decode cX10_rule 10 = .ok (.invokestatic 104, 3) := by decide +kernel
theorem dX10_rule_13 : decode cX10_rule 13 = .ok (.ifCond .ne 9, 3) := by decide +kernel
theorem dX10_rule_16 : decode cX10_rule 16 = .ok (.aload_n 0, 1) := by decide +kernel
theorem dX10_rule_17 : decode cX10_rule 17 = .ok (.iconst 1, 1) := by decide +kernel
theorem dX10_rule_18 : decode cX10_rule 18 = .ok (.invokevirtual 108, 3) := by decide +kernel
theorem dX10_rule_21 : decode cX10_rule 21 = .ok (.ireturn, 1) := by decide +kernel
theorem dX10_rule_22 : decode cX10_rule 22 = .ok (.iload_n 2, 1) := by decide +kernel
theorem dX10_rule_23 : decode cX10_rule 23 = .ok (.getstatic 371, 3) := by decide +kernel
theorem dX10_rule_26 : decode cX10_rule 26 = .ok (.iload_n 1, 1) := by decide +kernel
theorem dX10_rule_27 : decode cX10_rule 27 = .ok (.iaload, 1) := by decide +kernel
theorem dX10_rule_28 : decode cX10_rule 28 = .ok (.getstatic 374, 3) := by decide +kernel
theorem dX10_rule_31 : decode cX10_rule 31 = .ok (.iload_n 1, 1) := by decide +kernel
theorem dX10_rule_32 : decode cX10_rule 32 = .ok (.iaload, 1) := by decide +kernel
theorem dX10_rule_33 : decode cX10_rule 33 = .ok (.invokestatic 104, 3) := by decide +kernel
theorem dX10_rule_36 : decode cX10_rule 36 = .ok (.ifCond .ne 9, 3) := by decide +kernel
theorem dX10_rule_39 : decode cX10_rule 39 = .ok (.aload_n 0, 1) := by decide +kernel
theorem dX10_rule_40 : decode cX10_rule 40 = .ok (.iconst 2, 1) := by decide +kernel
theorem dX10_rule_41 : decode cX10_rule 41 = .ok (.invokevirtual 108, 3) := by decide +kernel
theorem dX10_rule_44 : decode cX10_rule 44 = .ok (.ireturn, 1) := by decide +kernel
theorem dX10_rule_45 : decode cX10_rule 45 = .ok (.aload_n 0, 1) := by decide +kernel
theorem dX10_rule_46 : decode cX10_rule 46 = .ok (.getfield 83, 3) := by decide +kernel
theorem dX10_rule_49 : decode cX10_rule 49 = .ok (.invokevirtual 332, 3) := by decide +kernel
theorem dX10_rule_52 : decode cX10_rule 52 = .ok (.aload_n 0, 1) := by decide +kernel
theorem dX10_rule_53 : decode cX10_rule 53 = .ok (.getfield 28, 3) := by decide +kernel
theorem dX10_rule_56 : decode cX10_rule 56 = .ok (.getfield 155, 3) := by decide +kernel
theorem dX10_rule_59 : decode cX10_rule 59 = .ok (.iload_n 1, 1) := by decide +kernel
theorem dX10_rule_60 : decode cX10_rule 60 = .ok (.iaload, 1) := by decide +kernel
theorem dX10_rule_61 : decode cX10_rule 61 = .ok (.istore_n 3, 1) := by decide +kernel
theorem dX10_rule_62 : decode cX10_rule 62 = .ok (.aload_n 0, 1) := by decide +kernel
theorem dX10_rule_63 : decode cX10_rule 63 = .ok (.getfield 28, 3) := by decide +kernel
theorem dX10_rule_66 : decode cX10_rule 66 = .ok (.getfield 155, 3) := by decide +kernel
theorem dX10_rule_69 : decode cX10_rule 69 = .ok (.iload_n 1, 1) := by decide +kernel
theorem dX10_rule_70 : decode cX10_rule 70 = .ok (.iload_n 2, 1) := by decide +kernel
theorem dX10_rule_71 : decode cX10_rule 71 = .ok (.iastore, 1) := by decide +kernel
theorem dX10_rule_72 : decode cX10_rule 72 = .ok (.aload_n 0, 1) := by decide +kernel
theorem dX10_rule_73 : decode cX10_rule 73 = .ok (.iload_n 3, 1) := by decide +kernel
theorem dX10_rule_74 : decode cX10_rule 74 = .ok (.invokevirtual 138, 3) := by decide +kernel
theorem dX10_rule_77 : decode cX10_rule 77 = .ok (.ireturn, 1) := by decide +kernel
def lX10_rule_0 : List (Nat × (Op ⊕ Nat)) := [(0, .inl (o_aload 0 1)), (1, .inl (o_callV fX10_hasText 0 10 4)), (4, .inl (o_if_eq 16 7)), (7, .inl (o_iload 1 8)), (8, .inl (o_pushI (nI 0) 9)), (9, .inl (o_pushI (nI 2) 10)), (10, .inl (o_callS fX10_within 3 13)), (13, .inl (o_if_ne 22 16)), (16, .inl (o_aload 0 17)), (17, .inl (o_pushI (nI 1) 18)), (18, .inl (o_callV fX10_refuse 1 10 21)), (21, .inr 0), (22, .inl (o_iload 2 23)), (23, .inl (o_pushR 104 26)), (26, .inl (o_iload 1 27)), (27, .inl (o_iaro 28)), (28, .inl (o_pushR 105 31)), (31, .inl (o_iload 1 32)), (32, .inl (o_iaro 33)), (33, .inl (o_callS fX10_within 3 36)), (36, .inl (o_if_ne 45 39)), (39, .inl (o_aload 0 40)), (40, .inl (o_pushI (nI 2) 41)), (41, .inl (o_callV fX10_refuse 1 10 44)), (44, .inr 0), (45, .inl (o_aload 0 46)), (46, .inl (o_get 10 9 49)), (49, .inl (o_callV fX4_keep 0 4 52)), (52, .inl (o_aload 0 53)), (53, .inl (o_get 10 2 56)), (56, .inl (o_get 9 6 59)), (59, .inl (o_iload 1 60)), (60, .inl (o_iald 61)), (61, .inl (o_istore 3 62)), (62, .inl (o_aload 0 63)), (63, .inl (o_get 10 2 66)), (66, .inl (o_get 9 6 69)), (69, .inl (o_iload 1 70)), (70, .inl (o_iload 2 71)), (71, .inl (o_iast 72))]
def lX10_rule_1 : List (Nat × (Op ⊕ Nat)) := [(72, .inl (o_aload 0 73)), (73, .inl (o_iload 3 74)), (74, .inl (o_callV fX10_answer 1 10 77)), (77, .inr 0)]
def lX10_rule : List (Nat × (Op ⊕ Nat)) := lX10_rule_0 ++ (lX10_rule_1)
theorem qX10_rule : yX10_rule.cls = RX10 ∧ yX10_rule.cls ≠ "java/lang/invoke/MethodHandle" ∧ yX10_rule.cls ≠ "java/lang/invoke/VarHandle" ∧ (parseMethodDescriptor yX10_rule.desc).map (fun d => d.parameters.length) = some 2 := by decide +kernel
set_option maxRecDepth 10000 in
theorem hX10_rule_0 (l : Launch) {p : Program} {e : Env} {s : State} {m : MethodId} {args : Array Value} {below : List Frame} {meth : Method} {c : Code} {D : va_G} {ad adV : Nat → Nat} {cA : Nat → ClassId} {K : Kt} (C0 : Cx p s m args meth c D ad adV cA cX10_rule 4 RX10) (hr : meth.sig.returnType = (some .int)) : ∀ q ∈ lX10_rule_0, Sd p l e (rmd 3) s m args below meth c (MQ below (QQ D ad cA K) args s 0 0 (AA ad)) D ad cA 4 q.1 (opOf K q.2) := List.forall_mem_cons.mpr ⟨s_aload_n C0 dX10_rule_0 rfl, List.forall_mem_cons.mpr ⟨s_callV (ci := 10) C0 (kX10_hasText l) dX10_rule_1 rfl qX10_hasText tw3_155 tw3_157 twp_15 tw1_1 tw3_158 rfl (by decide) (by decide), List.forall_mem_cons.mpr ⟨s_if_eq C0 dX10_rule_4 rfl, List.forall_mem_cons.mpr ⟨s_iload_n C0 dX10_rule_7 rfl, List.forall_mem_cons.mpr ⟨s_iconst C0 dX10_rule_8 rfl, List.forall_mem_cons.mpr ⟨s_iconst C0 dX10_rule_9 rfl, List.forall_mem_cons.mpr ⟨s_callS C0 (kX10_within l) dX10_rule_10 qX10_within tw2_170 tw2_171 tw1_1 tw2_172 rfl (by decide) (by decide), List.forall_mem_cons.mpr ⟨s_if_ne C0 dX10_rule_13 rfl, List.forall_mem_cons.mpr ⟨s_aload_n C0 dX10_rule_16 rfl, List.forall_mem_cons.mpr ⟨s_iconst C0 dX10_rule_17 rfl, List.forall_mem_cons.mpr ⟨s_callV (ci := 10) C0 (kX10_refuse l) dX10_rule_18 rfl qX10_refuse tw2_173 tw2_175 twp_0 tw1_1 tw2_176 rfl (by decide) (by decide), List.forall_mem_cons.mpr ⟨s_iret C0 hr dX10_rule_21, List.forall_mem_cons.mpr ⟨s_iload_n C0 dX10_rule_22 rfl, List.forall_mem_cons.mpr ⟨s_gets (k := 4) C0 dX10_rule_23 tw5_133 (by decide) rfl, List.forall_mem_cons.mpr ⟨s_iload_n C0 dX10_rule_26 rfl, List.forall_mem_cons.mpr ⟨s_iaro C0 dX10_rule_27, List.forall_mem_cons.mpr ⟨s_gets (k := 5) C0 dX10_rule_28 tw5_134 (by decide) rfl, List.forall_mem_cons.mpr ⟨s_iload_n C0 dX10_rule_31 rfl, List.forall_mem_cons.mpr ⟨s_iaro C0 dX10_rule_32, List.forall_mem_cons.mpr ⟨s_callS C0 (kX10_within l) dX10_rule_33 qX10_within tw2_170 tw2_171 tw1_1 tw2_172 rfl (by decide) (by decide), List.forall_mem_cons.mpr ⟨s_if_ne C0 dX10_rule_36 rfl, List.forall_mem_cons.mpr ⟨s_aload_n C0 dX10_rule_39 rfl, List.forall_mem_cons.mpr ⟨s_iconst C0 dX10_rule_40 rfl, List.forall_mem_cons.mpr ⟨s_callV (ci := 10) C0 (kX10_refuse l) dX10_rule_41 rfl qX10_refuse tw2_173 tw2_175 twp_0 tw1_1 tw2_176 rfl (by decide) (by decide), List.forall_mem_cons.mpr ⟨s_iret C0 hr dX10_rule_44, List.forall_mem_cons.mpr ⟨s_aload_n C0 dX10_rule_45 rfl, List.forall_mem_cons.mpr ⟨s_get (ci := 10) (k := 9) C0 dX10_rule_46 inX10 rfl (by decide) tw2_127, List.forall_mem_cons.mpr ⟨s_callV (ci := 4) C0 (kX4_keep l) dX10_rule_49 rfl qX4_keep tw5_40 tw5_41 tw5_42 tw1_11 tw5_43 rfl (by decide) (by decide), List.forall_mem_cons.mpr ⟨s_aload_n C0 dX10_rule_52 rfl, List.forall_mem_cons.mpr ⟨s_get (ci := 10) (k := 2) C0 dX10_rule_53 inX10 rfl (by decide) tw2_120, List.forall_mem_cons.mpr ⟨s_get (ci := 9) (k := 6) C0 dX10_rule_56 inX9 rfl (by decide) tw1_104, List.forall_mem_cons.mpr ⟨s_iload_n C0 dX10_rule_59 rfl, List.forall_mem_cons.mpr ⟨s_iald C0 dX10_rule_60, List.forall_mem_cons.mpr ⟨s_istore_n C0 dX10_rule_61 rfl (by decide), List.forall_mem_cons.mpr ⟨s_aload_n C0 dX10_rule_62 rfl, List.forall_mem_cons.mpr ⟨s_get (ci := 10) (k := 2) C0 dX10_rule_63 inX10 rfl (by decide) tw2_120, List.forall_mem_cons.mpr ⟨s_get (ci := 9) (k := 6) C0 dX10_rule_66 inX9 rfl (by decide) tw1_104, List.forall_mem_cons.mpr ⟨s_iload_n C0 dX10_rule_69 rfl, List.forall_mem_cons.mpr ⟨s_iload_n C0 dX10_rule_70 rfl, List.forall_mem_cons.mpr ⟨s_iast C0 dX10_rule_71, fun _ h => absurd h List.not_mem_nil⟩⟩⟩⟩⟩⟩⟩⟩⟩⟩⟩⟩⟩⟩⟩⟩⟩⟩⟩⟩⟩⟩⟩⟩⟩⟩⟩⟩⟩⟩⟩⟩⟩⟩⟩⟩⟩⟩⟩⟩
set_option maxRecDepth 10000 in
theorem hX10_rule_1 (l : Launch) {p : Program} {e : Env} {s : State} {m : MethodId} {args : Array Value} {below : List Frame} {meth : Method} {c : Code} {D : va_G} {ad adV : Nat → Nat} {cA : Nat → ClassId} {K : Kt} (C0 : Cx p s m args meth c D ad adV cA cX10_rule 4 RX10) (hr : meth.sig.returnType = (some .int)) : ∀ q ∈ lX10_rule_1, Sd p l e (rmd 3) s m args below meth c (MQ below (QQ D ad cA K) args s 0 0 (AA ad)) D ad cA 4 q.1 (opOf K q.2) := List.forall_mem_cons.mpr ⟨s_aload_n C0 dX10_rule_72 rfl, List.forall_mem_cons.mpr ⟨s_iload_n C0 dX10_rule_73 rfl, List.forall_mem_cons.mpr ⟨s_callV (ci := 10) C0 (kX10_answer l) dX10_rule_74 rfl qX10_answer tw3_139 tw3_141 twp_14 tw1_1 tw3_142 rfl (by decide) (by decide), List.forall_mem_cons.mpr ⟨s_iret C0 hr dX10_rule_77, fun _ h => absurd h List.not_mem_nil⟩⟩⟩⟩
def fX10_rule : Mf := mf 4 (fun K => tl K lX10_rule)
theorem kX10_rule (l : Launch) : Okm l yX10_rule cX10_rule 4 (some .int) 3 fX10_rule := Okm_tl (own := RX10) (by decide +kernel) rfl (fun C0 hr => List.forall_mem_append.mpr ⟨hX10_rule_0 l C0 hr, hX10_rule_1 l C0 hr⟩)
theorem dX10_rests_0 : decode cX10_rests 0 = .ok (.aload_n 0, 1) := by decide +kernel
theorem dX10_rests_1 : decode cX10_rests 1 = .ok (.invokevirtual 141, 3) := by decide +kernel
theorem dX10_rests_4 : decode cX10_rests 4 = .ok (.ifCond .eq 20, 3) := by decide +kernel
theorem dX10_rests_7 : decode cX10_rests 7 = .ok (.iload_n 1, 1) := by decide +kernel
theorem dX10_rests_8 : decode cX10_rests 8 = .ok (.iconst 0, 1) := by decide +kernel
theorem dX10_rests_9 : decode cX10_rests 9 = .ok (.aload_n 0, 1) := by decide +kernel
theorem dX10_rests_10 : decode cX10_rests 10 = .ok (.getfield 28, 3) := by decide +kernel
theorem dX10_rests_13 : decode cX10_rests 13 = .ok (.getfield 159, 3) := by decide +kernel
theorem dX10_rests_16 : decode cX10_rests 16 = .ok (.iconst 1, 1) := by decide +kernel
theorem dX10_rests_17 : decode cX10_rests 17 = .ok (.isub, 1) := by decide +kernel
theorem dX10_rests_18 : decode cX10_rests 18 = .ok (.invokestatic 104, 3) := by decide +kernel
theorem dX10_rests_21 : decode cX10_rests 21 = .ok (.ifCond .ne 9, 3) := by decide +kernel
theorem dX10_rests_24 : decode cX10_rests 24 = .ok (.aload_n 0, 1) := by decide +kernel
theorem dX10_rests_25 : decode cX10_rests 25 = .ok (.iconst 1, 1) := by decide +kernel
theorem dX10_rests_26 : decode cX10_rests 26 = .ok (.invokevirtual 108, 3) := by decide +kernel
theorem dX10_rests_29 : decode cX10_rests 29 = .ok (.ireturn, 1) := by decide +kernel
theorem dX10_rests_30 : decode cX10_rests 30 = .ok (.iload_n 2, 1) := by decide +kernel
theorem dX10_rests_31 : decode cX10_rests 31 = .ok (.iconst 0, 1) := by decide +kernel
theorem dX10_rests_32 : decode cX10_rests 32 = .ok (.bipush 9, 2) := by decide +kernel
theorem dX10_rests_34 : decode cX10_rests 34 = .ok (.invokestatic 104, 3) := by decide +kernel
theorem dX10_rests_37 : decode cX10_rests 37 = .ok (.ifCond .ne 9, 3) := by decide +kernel
theorem dX10_rests_40 : decode cX10_rests 40 = .ok (.aload_n 0, 1) := by decide +kernel
theorem dX10_rests_41 : decode cX10_rests 41 = .ok (.iconst 2, 1) := by decide +kernel
theorem dX10_rests_42 : decode cX10_rests 42 = .ok (.invokevirtual 108, 3) := by decide +kernel
theorem dX10_rests_45 : decode cX10_rests 45 = .ok (.ireturn, 1) := by decide +kernel
theorem dX10_rests_46 : decode cX10_rests 46 = .ok (.aload_n 0, 1) := by decide +kernel
theorem dX10_rests_47 : decode cX10_rests 47 = .ok (.getfield 83, 3) := by decide +kernel
theorem dX10_rests_50 : decode cX10_rests 50 = .ok (.invokevirtual 332, 3) := by decide +kernel
theorem dX10_rests_53 : decode cX10_rests 53 = .ok (.aload_n 0, 1) := by decide +kernel
theorem dX10_rests_54 : decode cX10_rests 54 = .ok (.getfield 28, 3) := by decide +kernel
theorem dX10_rests_57 : decode cX10_rests 57 = .ok (.getfield 377, 3) := by decide +kernel
theorem dX10_rests_60 : decode cX10_rests 60 = .ok (.iload_n 1, 1) := by decide +kernel
theorem dX10_rests_61 : decode cX10_rests 61 = .ok (.iaload, 1) := by decide +kernel
theorem dX10_rests_62 : decode cX10_rests 62 = .ok (.istore_n 3, 1) := by decide +kernel
theorem dX10_rests_63 : decode cX10_rests 63 = .ok (.aload_n 0, 1) := by decide +kernel
theorem dX10_rests_64 : decode cX10_rests 64 = .ok (.getfield 28, 3) := by decide +kernel
theorem dX10_rests_67 : decode cX10_rests 67 = .ok (.getfield 377, 3) := by decide +kernel
theorem dX10_rests_70 : decode cX10_rests 70 = .ok (.iload_n 1, 1) := by decide +kernel
theorem dX10_rests_71 : decode cX10_rests 71 = .ok (.iload_n 2, 1) := by decide +kernel
theorem dX10_rests_72 : decode cX10_rests 72 = .ok (.iastore, 1) := by decide +kernel
theorem dX10_rests_73 : decode cX10_rests 73 = .ok (.aload_n 0, 1) := by decide +kernel
theorem dX10_rests_74 : decode cX10_rests 74 = .ok (.iload_n 3, 1) := by decide +kernel
theorem dX10_rests_75 : decode cX10_rests 75 = .ok (.invokevirtual 138, 3) := by decide +kernel
theorem dX10_rests_78 : decode cX10_rests 78 = .ok (.ireturn, 1) := by decide +kernel
def lX10_rests_0 : List (Nat × (Op ⊕ Nat)) := [(0, .inl (o_aload 0 1)), (1, .inl (o_callV fX10_hasText 0 10 4)), (4, .inl (o_if_eq 24 7)), (7, .inl (o_iload 1 8)), (8, .inl (o_pushI (nI 0) 9)), (9, .inl (o_aload 0 10)), (10, .inl (o_get 10 2 13)), (13, .inl (o_get 9 7 16)), (16, .inl (o_pushI (nI 1) 17)), (17, .inl (o_isub 18)), (18, .inl (o_callS fX10_within 3 21)), (21, .inl (o_if_ne 30 24)), (24, .inl (o_aload 0 25)), (25, .inl (o_pushI (nI 1) 26)), (26, .inl (o_callV fX10_refuse 1 10 29)), (29, .inr 0), (30, .inl (o_iload 2 31)), (31, .inl (o_pushI (nI 0) 32)), (32, .inl (o_pushI (nI 9) 34)), (34, .inl (o_callS fX10_within 3 37)), (37, .inl (o_if_ne 46 40)), (40, .inl (o_aload 0 41)), (41, .inl (o_pushI (nI 2) 42)), (42, .inl (o_callV fX10_refuse 1 10 45)), (45, .inr 0), (46, .inl (o_aload 0 47)), (47, .inl (o_get 10 9 50)), (50, .inl (o_callV fX4_keep 0 4 53)), (53, .inl (o_aload 0 54)), (54, .inl (o_get 10 2 57)), (57, .inl (o_get 9 9 60)), (60, .inl (o_iload 1 61)), (61, .inl (o_iald 62)), (62, .inl (o_istore 3 63)), (63, .inl (o_aload 0 64)), (64, .inl (o_get 10 2 67)), (67, .inl (o_get 9 9 70)), (70, .inl (o_iload 1 71)), (71, .inl (o_iload 2 72)), (72, .inl (o_iast 73))]
def lX10_rests_1 : List (Nat × (Op ⊕ Nat)) := [(73, .inl (o_aload 0 74)), (74, .inl (o_iload 3 75)), (75, .inl (o_callV fX10_answer 1 10 78)), (78, .inr 0)]
def lX10_rests : List (Nat × (Op ⊕ Nat)) := lX10_rests_0 ++ (lX10_rests_1)
theorem qX10_rests : yX10_rests.cls = RX10 ∧ yX10_rests.cls ≠ "java/lang/invoke/MethodHandle" ∧ yX10_rests.cls ≠ "java/lang/invoke/VarHandle" ∧ (parseMethodDescriptor yX10_rests.desc).map (fun d => d.parameters.length) = some 2 := by decide +kernel
set_option maxRecDepth 10000 in
theorem hX10_rests_0 (l : Launch) {p : Program} {e : Env} {s : State} {m : MethodId} {args : Array Value} {below : List Frame} {meth : Method} {c : Code} {D : va_G} {ad adV : Nat → Nat} {cA : Nat → ClassId} {K : Kt} (C0 : Cx p s m args meth c D ad adV cA cX10_rests 4 RX10) (hr : meth.sig.returnType = (some .int)) : ∀ q ∈ lX10_rests_0, Sd p l e (rmd 3) s m args below meth c (MQ below (QQ D ad cA K) args s 0 0 (AA ad)) D ad cA 4 q.1 (opOf K q.2) := List.forall_mem_cons.mpr ⟨s_aload_n C0 dX10_rests_0 rfl, List.forall_mem_cons.mpr ⟨s_callV (ci := 10) C0 (kX10_hasText l) dX10_rests_1 rfl qX10_hasText tw3_155 tw3_157 twp_15 tw1_1 tw3_158 rfl (by decide) (by decide), List.forall_mem_cons.mpr ⟨s_if_eq C0 dX10_rests_4 rfl, List.forall_mem_cons.mpr ⟨s_iload_n C0 dX10_rests_7 rfl, List.forall_mem_cons.mpr ⟨s_iconst C0 dX10_rests_8 rfl, List.forall_mem_cons.mpr ⟨s_aload_n C0 dX10_rests_9 rfl, List.forall_mem_cons.mpr ⟨s_get (ci := 10) (k := 2) C0 dX10_rests_10 inX10 rfl (by decide) tw2_120, List.forall_mem_cons.mpr ⟨s_get (ci := 9) (k := 7) C0 dX10_rests_13 inX9 rfl (by decide) tw1_108, List.forall_mem_cons.mpr ⟨s_iconst C0 dX10_rests_16 rfl, List.forall_mem_cons.mpr ⟨s_isub C0 dX10_rests_17, List.forall_mem_cons.mpr ⟨s_callS C0 (kX10_within l) dX10_rests_18 qX10_within tw2_170 tw2_171 tw1_1 tw2_172 rfl (by decide) (by decide), List.forall_mem_cons.mpr ⟨s_if_ne C0 dX10_rests_21 rfl, List.forall_mem_cons.mpr ⟨s_aload_n C0 dX10_rests_24 rfl, List.forall_mem_cons.mpr ⟨s_iconst C0 dX10_rests_25 rfl, List.forall_mem_cons.mpr ⟨s_callV (ci := 10) C0 (kX10_refuse l) dX10_rests_26 rfl qX10_refuse tw2_173 tw2_175 twp_0 tw1_1 tw2_176 rfl (by decide) (by decide), List.forall_mem_cons.mpr ⟨s_iret C0 hr dX10_rests_29, List.forall_mem_cons.mpr ⟨s_iload_n C0 dX10_rests_30 rfl, List.forall_mem_cons.mpr ⟨s_iconst C0 dX10_rests_31 rfl, List.forall_mem_cons.mpr ⟨s_bipush C0 dX10_rests_32 (by decide +kernel), List.forall_mem_cons.mpr ⟨s_callS C0 (kX10_within l) dX10_rests_34 qX10_within tw2_170 tw2_171 tw1_1 tw2_172 rfl (by decide) (by decide), List.forall_mem_cons.mpr ⟨s_if_ne C0 dX10_rests_37 rfl, List.forall_mem_cons.mpr ⟨s_aload_n C0 dX10_rests_40 rfl, List.forall_mem_cons.mpr ⟨s_iconst C0 dX10_rests_41 rfl, List.forall_mem_cons.mpr ⟨s_callV (ci := 10) C0 (kX10_refuse l) dX10_rests_42 rfl qX10_refuse tw2_173 tw2_175 twp_0 tw1_1 tw2_176 rfl (by decide) (by decide), List.forall_mem_cons.mpr ⟨s_iret C0 hr dX10_rests_45, List.forall_mem_cons.mpr ⟨s_aload_n C0 dX10_rests_46 rfl, List.forall_mem_cons.mpr ⟨s_get (ci := 10) (k := 9) C0 dX10_rests_47 inX10 rfl (by decide) tw2_127, List.forall_mem_cons.mpr ⟨s_callV (ci := 4) C0 (kX4_keep l) dX10_rests_50 rfl qX4_keep tw5_40 tw5_41 tw5_42 tw1_11 tw5_43 rfl (by decide) (by decide), List.forall_mem_cons.mpr ⟨s_aload_n C0 dX10_rests_53 rfl, List.forall_mem_cons.mpr ⟨s_get (ci := 10) (k := 2) C0 dX10_rests_54 inX10 rfl (by decide) tw2_120, List.forall_mem_cons.mpr ⟨s_get (ci := 9) (k := 9) C0 dX10_rests_57 inX9 rfl (by decide) tw1_114, List.forall_mem_cons.mpr ⟨s_iload_n C0 dX10_rests_60 rfl, List.forall_mem_cons.mpr ⟨s_iald C0 dX10_rests_61, List.forall_mem_cons.mpr ⟨s_istore_n C0 dX10_rests_62 rfl (by decide), List.forall_mem_cons.mpr ⟨s_aload_n C0 dX10_rests_63 rfl, List.forall_mem_cons.mpr ⟨s_get (ci := 10) (k := 2) C0 dX10_rests_64 inX10 rfl (by decide) tw2_120, List.forall_mem_cons.mpr ⟨s_get (ci := 9) (k := 9) C0 dX10_rests_67 inX9 rfl (by decide) tw1_114, List.forall_mem_cons.mpr ⟨s_iload_n C0 dX10_rests_70 rfl, List.forall_mem_cons.mpr ⟨s_iload_n C0 dX10_rests_71 rfl, List.forall_mem_cons.mpr ⟨s_iast C0 dX10_rests_72, fun _ h => absurd h List.not_mem_nil⟩⟩⟩⟩⟩⟩⟩⟩⟩⟩⟩⟩⟩⟩⟩⟩⟩⟩⟩⟩⟩⟩⟩⟩⟩⟩⟩⟩⟩⟩⟩⟩⟩⟩⟩⟩⟩⟩⟩⟩
set_option maxRecDepth 10000 in
theorem hX10_rests_1 (l : Launch) {p : Program} {e : Env} {s : State} {m : MethodId} {args : Array Value} {below : List Frame} {meth : Method} {c : Code} {D : va_G} {ad adV : Nat → Nat} {cA : Nat → ClassId} {K : Kt} (C0 : Cx p s m args meth c D ad adV cA cX10_rests 4 RX10) (hr : meth.sig.returnType = (some .int)) : ∀ q ∈ lX10_rests_1, Sd p l e (rmd 3) s m args below meth c (MQ below (QQ D ad cA K) args s 0 0 (AA ad)) D ad cA 4 q.1 (opOf K q.2) := List.forall_mem_cons.mpr ⟨s_aload_n C0 dX10_rests_73 rfl, List.forall_mem_cons.mpr ⟨s_iload_n C0 dX10_rests_74 rfl, List.forall_mem_cons.mpr ⟨s_callV (ci := 10) C0 (kX10_answer l) dX10_rests_75 rfl qX10_answer tw3_139 tw3_141 twp_14 tw1_1 tw3_142 rfl (by decide) (by decide), List.forall_mem_cons.mpr ⟨s_iret C0 hr dX10_rests_78, fun _ h => absurd h List.not_mem_nil⟩⟩⟩⟩
def fX10_rests : Mf := mf 4 (fun K => tl K lX10_rests)
theorem kX10_rests (l : Launch) : Okm l yX10_rests cX10_rests 4 (some .int) 3 fX10_rests := Okm_tl (own := RX10) (by decide +kernel) rfl (fun C0 hr => List.forall_mem_append.mpr ⟨hX10_rests_0 l C0 hr, hX10_rests_1 l C0 hr⟩)
theorem dX10_undo_0 : decode cX10_undo 0 = .ok (.aload_n 0, 1) := by decide +kernel
theorem dX10_undo_1 : decode cX10_undo 1 = .ok (.invokevirtual 141, 3) := by decide +kernel
theorem dX10_undo_4 : decode cX10_undo 4 = .ok (.ifCond .ne 9, 3) := by decide +kernel
theorem dX10_undo_7 : decode cX10_undo 7 = .ok (.aload_n 0, 1) := by decide +kernel
theorem dX10_undo_8 : decode cX10_undo 8 = .ok (.iconst 1, 1) := by decide +kernel
theorem dX10_undo_9 : decode cX10_undo 9 = .ok (.invokevirtual 108, 3) := by decide +kernel
theorem dX10_undo_12 : decode cX10_undo 12 = .ok (.ireturn, 1) := by decide +kernel
theorem dX10_undo_13 : decode cX10_undo 13 = .ok (.aload_n 0, 1) := by decide +kernel
theorem dX10_undo_14 : decode cX10_undo 14 = .ok (.getfield 83, 3) := by decide +kernel
theorem dX10_undo_17 : decode cX10_undo 17 = .ok (.getfield 132, 3) := by decide +kernel
theorem dX10_undo_20 : decode cX10_undo 20 = .ok (.ifCond .ne 9, 3) := by decide +kernel
theorem dX10_undo_23 : decode cX10_undo 23 = .ok (.aload_n 0, 1) := by decide +kernel
theorem dX10_undo_24 : decode cX10_undo 24 = .ok (.iconst 5, 1) := by decide +kernel
theorem dX10_undo_25 : decode cX10_undo 25 = .ok (.invokevirtual 108, 3) := by decide +kernel
theorem dX10_undo_28 : decode cX10_undo 28 = .ok (.ireturn, 1) := by decide +kernel
theorem dX10_undo_29 : decode cX10_undo 29 = .ok (.aload_n 0, 1) := by decide +kernel
theorem dX10_undo_30 : decode cX10_undo 30 = .ok (.getfield 83, 3) := by decide +kernel
theorem dX10_undo_33 : decode cX10_undo 33 = .ok (.invokevirtual 380, 3) := by decide +kernel
theorem dX10_undo_36 : decode cX10_undo 36 = .ok (.aload_n 0, 1) := by decide +kernel
theorem dX10_undo_37 : decode cX10_undo 37 = .ok (.aload_n 0, 1) := by decide +kernel
theorem dX10_undo_38 : decode cX10_undo 38 = .ok (.getfield 83, 3) := by decide +kernel
theorem dX10_undo_41 : decode cX10_undo 41 = .ok (.getfield 132, 3) := by decide +kernel
theorem dX10_undo_44 : decode cX10_undo 44 = .ok (.invokevirtual 138, 3) := by decide +kernel
theorem dX10_undo_47 : decode cX10_undo 47 = .ok (.ireturn, 1) := by decide +kernel
def lX10_undo : List (Nat × (Op ⊕ Nat)) := [(0, .inl (o_aload 0 1)), (1, .inl (o_callV fX10_hasText 0 10 4)), (4, .inl (o_if_ne 13 7)), (7, .inl (o_aload 0 8)), (8, .inl (o_pushI (nI 1) 9)), (9, .inl (o_callV fX10_refuse 1 10 12)), (12, .inr 0), (13, .inl (o_aload 0 14)), (14, .inl (o_get 10 9 17)), (17, .inl (o_get 4 4 20)), (20, .inl (o_if_ne 29 23)), (23, .inl (o_aload 0 24)), (24, .inl (o_pushI (nI 5) 25)), (25, .inl (o_callV fX10_refuse 1 10 28)), (28, .inr 0), (29, .inl (o_aload 0 30)), (30, .inl (o_get 10 9 33)), (33, .inl (o_callV fX4_goBack 0 4 36)), (36, .inl (o_aload 0 37)), (37, .inl (o_aload 0 38)), (38, .inl (o_get 10 9 41)), (41, .inl (o_get 4 4 44)), (44, .inl (o_callV fX10_answer 1 10 47)), (47, .inr 0)]
theorem qX10_undo : yX10_undo.cls = RX10 ∧ yX10_undo.cls ≠ "java/lang/invoke/MethodHandle" ∧ yX10_undo.cls ≠ "java/lang/invoke/VarHandle" ∧ (parseMethodDescriptor yX10_undo.desc).map (fun d => d.parameters.length) = some 0 := by decide +kernel
set_option maxRecDepth 10000 in
theorem hX10_undo_0 (l : Launch) {p : Program} {e : Env} {s : State} {m : MethodId} {args : Array Value} {below : List Frame} {meth : Method} {c : Code} {D : va_G} {ad adV : Nat → Nat} {cA : Nat → ClassId} {K : Kt} (C0 : Cx p s m args meth c D ad adV cA cX10_undo 1 RX10) (hr : meth.sig.returnType = (some .int)) : ∀ q ∈ lX10_undo, Sd p l e (rmd 6) s m args below meth c (MQ below (QQ D ad cA K) args s 0 0 (AA ad)) D ad cA 1 q.1 (opOf K q.2) := List.forall_mem_cons.mpr ⟨s_aload_n C0 dX10_undo_0 rfl, List.forall_mem_cons.mpr ⟨s_callV (ci := 10) C0 (kX10_hasText l) dX10_undo_1 rfl qX10_hasText tw3_155 tw3_157 twp_15 tw1_1 tw3_158 rfl (by decide) (by decide), List.forall_mem_cons.mpr ⟨s_if_ne C0 dX10_undo_4 rfl, List.forall_mem_cons.mpr ⟨s_aload_n C0 dX10_undo_7 rfl, List.forall_mem_cons.mpr ⟨s_iconst C0 dX10_undo_8 rfl, List.forall_mem_cons.mpr ⟨s_callV (ci := 10) C0 (kX10_refuse l) dX10_undo_9 rfl qX10_refuse tw2_173 tw2_175 twp_0 tw1_1 tw2_176 rfl (by decide) (by decide), List.forall_mem_cons.mpr ⟨s_iret C0 hr dX10_undo_12, List.forall_mem_cons.mpr ⟨s_aload_n C0 dX10_undo_13 rfl, List.forall_mem_cons.mpr ⟨s_get (ci := 10) (k := 9) C0 dX10_undo_14 inX10 rfl (by decide) tw2_127, List.forall_mem_cons.mpr ⟨s_get (ci := 4) (k := 4) C0 dX10_undo_17 inX4 rfl (by decide) tw2_106, List.forall_mem_cons.mpr ⟨s_if_ne C0 dX10_undo_20 rfl, List.forall_mem_cons.mpr ⟨s_aload_n C0 dX10_undo_23 rfl, List.forall_mem_cons.mpr ⟨s_iconst C0 dX10_undo_24 rfl, List.forall_mem_cons.mpr ⟨s_callV (ci := 10) C0 (kX10_refuse l) dX10_undo_25 rfl qX10_refuse tw2_173 tw2_175 twp_0 tw1_1 tw2_176 rfl (by decide) (by decide), List.forall_mem_cons.mpr ⟨s_iret C0 hr dX10_undo_28, List.forall_mem_cons.mpr ⟨s_aload_n C0 dX10_undo_29 rfl, List.forall_mem_cons.mpr ⟨s_get (ci := 10) (k := 9) C0 dX10_undo_30 inX10 rfl (by decide) tw2_127, List.forall_mem_cons.mpr ⟨s_callV (ci := 4) C0 (kX4_goBack l) dX10_undo_33 rfl qX4_goBack tw5_143 tw5_144 tw5_145 tw1_11 tw5_146 rfl (by decide) (by decide), List.forall_mem_cons.mpr ⟨s_aload_n C0 dX10_undo_36 rfl, List.forall_mem_cons.mpr ⟨s_aload_n C0 dX10_undo_37 rfl, List.forall_mem_cons.mpr ⟨s_get (ci := 10) (k := 9) C0 dX10_undo_38 inX10 rfl (by decide) tw2_127, List.forall_mem_cons.mpr ⟨s_get (ci := 4) (k := 4) C0 dX10_undo_41 inX4 rfl (by decide) tw2_106, List.forall_mem_cons.mpr ⟨s_callV (ci := 10) C0 (kX10_answer l) dX10_undo_44 rfl qX10_answer tw3_139 tw3_141 twp_14 tw1_1 tw3_142 rfl (by decide) (by decide), List.forall_mem_cons.mpr ⟨s_iret C0 hr dX10_undo_47, fun _ h => absurd h List.not_mem_nil⟩⟩⟩⟩⟩⟩⟩⟩⟩⟩⟩⟩⟩⟩⟩⟩⟩⟩⟩⟩⟩⟩⟩⟩
def fX10_undo : Mf := mf 1 (fun K => tl K lX10_undo)
theorem kX10_undo (l : Launch) : Okm l yX10_undo cX10_undo 1 (some .int) 6 fX10_undo := Okm_tl (own := RX10) (by decide +kernel) rfl (fun C0 hr => hX10_undo_0 l C0 hr)
theorem dX10_size_0 : decode cX10_size 0 = .ok (.aload_n 0, 1) := by decide +kernel
theorem dX10_size_1 : decode cX10_size 1 = .ok (.getfield 12, 3) := by decide +kernel
theorem dX10_size_4 : decode cX10_size 4 = .ok (.getfield 97, 3) := by decide +kernel
theorem dX10_size_7 : decode cX10_size 7 = .ok (.ireturn, 1) := by decide +kernel
def lX10_size : List (Nat × (Op ⊕ Nat)) := [(0, .inl (o_aload 0 1)), (1, .inl (o_get 10 0 4)), (4, .inl (o_get 8 1 7)), (7, .inr 0)]
theorem qX10_size : yX10_size.cls = RX10 ∧ yX10_size.cls ≠ "java/lang/invoke/MethodHandle" ∧ yX10_size.cls ≠ "java/lang/invoke/VarHandle" ∧ (parseMethodDescriptor yX10_size.desc).map (fun d => d.parameters.length) = some 0 := by decide +kernel
set_option maxRecDepth 10000 in
theorem hX10_size_0 (l : Launch) {p : Program} {e : Env} {s : State} {m : MethodId} {args : Array Value} {below : List Frame} {meth : Method} {c : Code} {D : va_G} {ad adV : Nat → Nat} {cA : Nat → ClassId} {K : Kt} (C0 : Cx p s m args meth c D ad adV cA cX10_size 1 RX10) (hr : meth.sig.returnType = (some .int)) : ∀ q ∈ lX10_size, Sd p l e (rmd 0) s m args below meth c (MQ below (QQ D ad cA K) args s 0 0 (AA ad)) D ad cA 1 q.1 (opOf K q.2) := List.forall_mem_cons.mpr ⟨s_aload_n C0 dX10_size_0 rfl, List.forall_mem_cons.mpr ⟨s_get (ci := 10) (k := 0) C0 dX10_size_1 inX10 rfl (by decide) tw2_118, List.forall_mem_cons.mpr ⟨s_get (ci := 8) (k := 1) C0 dX10_size_4 inX8 rfl (by decide) tw1_39, List.forall_mem_cons.mpr ⟨s_iret C0 hr dX10_size_7, fun _ h => absurd h List.not_mem_nil⟩⟩⟩⟩
def fX10_size : Mf := mf 1 (fun K => tl K lX10_size)
theorem kX10_size (l : Launch) : Okm l yX10_size cX10_size 1 (some .int) 0 fX10_size := Okm_tl (own := RX10) (by decide +kernel) rfl (fun C0 hr => hX10_size_0 l C0 hr)
theorem dX10_trouble_0 : decode cX10_trouble 0 = .ok (.aload_n 0, 1) := by decide +kernel
theorem dX10_trouble_1 : decode cX10_trouble 1 = .ok (.getfield 87, 3) := by decide +kernel
theorem dX10_trouble_4 : decode cX10_trouble 4 = .ok (.ireturn, 1) := by decide +kernel
def lX10_trouble : List (Nat × (Op ⊕ Nat)) := [(0, .inl (o_aload 0 1)), (1, .inl (o_get 10 10 4)), (4, .inr 0)]
theorem qX10_trouble : yX10_trouble.cls = RX10 ∧ yX10_trouble.cls ≠ "java/lang/invoke/MethodHandle" ∧ yX10_trouble.cls ≠ "java/lang/invoke/VarHandle" ∧ (parseMethodDescriptor yX10_trouble.desc).map (fun d => d.parameters.length) = some 0 := by decide +kernel
set_option maxRecDepth 10000 in
theorem hX10_trouble_0 (l : Launch) {p : Program} {e : Env} {s : State} {m : MethodId} {args : Array Value} {below : List Frame} {meth : Method} {c : Code} {D : va_G} {ad adV : Nat → Nat} {cA : Nat → ClassId} {K : Kt} (C0 : Cx p s m args meth c D ad adV cA cX10_trouble 1 RX10) (hr : meth.sig.returnType = (some .int)) : ∀ q ∈ lX10_trouble, Sd p l e (rmd 0) s m args below meth c (MQ below (QQ D ad cA K) args s 0 0 (AA ad)) D ad cA 1 q.1 (opOf K q.2) := List.forall_mem_cons.mpr ⟨s_aload_n C0 dX10_trouble_0 rfl, List.forall_mem_cons.mpr ⟨s_get (ci := 10) (k := 10) C0 dX10_trouble_1 inX10 rfl (by decide) tw2_128, List.forall_mem_cons.mpr ⟨s_iret C0 hr dX10_trouble_4, fun _ h => absurd h List.not_mem_nil⟩⟩⟩
def fX10_trouble : Mf := mf 1 (fun K => tl K lX10_trouble)
theorem kX10_trouble (l : Launch) : Okm l yX10_trouble cX10_trouble 1 (some .int) 0 fX10_trouble := Okm_tl (own := RX10) (by decide +kernel) rfl (fun C0 hr => hX10_trouble_0 l C0 hr)
theorem dX11_thrown_0 : decode cX11_thrown 0 = .ok (.aload_n 0, 1) := by decide +kernel
theorem dX11_thrown_1 : decode cX11_thrown 1 = .ok (.getfield 47, 3) := by decide +kernel
theorem dX11_thrown_4 : decode cX11_thrown 4 = .ok (.ireturn, 1) := by decide +kernel
def lX11_thrown : List (Nat × (Op ⊕ Nat)) := [(0, .inl (o_aload 0 1)), (1, .inl (o_get 11 0 4)), (4, .inr 0)]
theorem qX11_thrown : yX11_thrown.cls = RX11 ∧ yX11_thrown.cls ≠ "java/lang/invoke/MethodHandle" ∧ yX11_thrown.cls ≠ "java/lang/invoke/VarHandle" ∧ (parseMethodDescriptor yX11_thrown.desc).map (fun d => d.parameters.length) = some 0 := by decide +kernel
set_option maxRecDepth 10000 in
theorem hX11_thrown_0 (l : Launch) {p : Program} {e : Env} {s : State} {m : MethodId} {args : Array Value} {below : List Frame} {meth : Method} {c : Code} {D : va_G} {ad adV : Nat → Nat} {cA : Nat → ClassId} {K : Kt} (C0 : Cx p s m args meth c D ad adV cA cX11_thrown 1 RX11) (hr : meth.sig.returnType = (some .int)) : ∀ q ∈ lX11_thrown, Sd p l e (rmd 0) s m args below meth c (MQ below (QQ D ad cA K) args s 0 0 (AA ad)) D ad cA 1 q.1 (opOf K q.2) := List.forall_mem_cons.mpr ⟨s_aload_n C0 dX11_thrown_0 rfl, List.forall_mem_cons.mpr ⟨s_get (ci := 11) (k := 0) C0 dX11_thrown_1 inX11 rfl (by decide) tw6_11, List.forall_mem_cons.mpr ⟨s_iret C0 hr dX11_thrown_4, fun _ h => absurd h List.not_mem_nil⟩⟩⟩
def fX11_thrown : Mf := mf 1 (fun K => tl K lX11_thrown)
theorem kX11_thrown (l : Launch) : Okm l yX11_thrown cX11_thrown 1 (some .int) 0 fX11_thrown := Okm_tl (own := RX11) (by decide +kernel) rfl (fun C0 hr => hX11_thrown_0 l C0 hr)
theorem dX11_in_0 : decode cX11_in 0 = .ok (.iload_n 0, 1) := by decide +kernel
theorem dX11_in_1 : decode cX11_in 1 = .ok (.iload_n 1, 1) := by decide +kernel
theorem dX11_in_2 : decode cX11_in 2 = .ok (.if_icmp .lt 12, 3) := by decide +kernel
theorem dX11_in_5 : decode cX11_in 5 = .ok (.iload_n 0, 1) := by decide +kernel
theorem dX11_in_6 : decode cX11_in 6 = .ok (.iload_n 2, 1) := by decide +kernel
theorem dX11_in_7 : decode cX11_in 7 = .ok (.if_icmp .gt 7, 3) := by decide +kernel
theorem dX11_in_10 : decode cX11_in 10 = .ok (.iconst 1, 1) := by decide +kernel
theorem dX11_in_11 : decode cX11_in 11 = .ok (.goto 4, 3) := by decide +kernel
theorem dX11_in_14 : decode cX11_in 14 = .ok (.iconst 0, 1) := by decide +kernel
theorem dX11_in_15 : decode cX11_in 15 = .ok (.ireturn, 1) := by decide +kernel
def lX11_in : List (Nat × (Op ⊕ Nat)) := [(0, .inl (o_iload 0 1)), (1, .inl (o_iload 1 2)), (2, .inl (o_icmp_lt 14 5)), (5, .inl (o_iload 0 6)), (6, .inl (o_iload 2 7)), (7, .inl (o_icmp_gt 14 10)), (10, .inl (o_pushI (nI 1) 11)), (11, .inl (o_goto 15)), (14, .inl (o_pushI (nI 0) 15)), (15, .inr 1)]
theorem qX11_in : yX11_in.cls ≠ "java/lang/invoke/MethodHandle" ∧ yX11_in.cls ≠ "java/lang/invoke/VarHandle" ∧ (parseMethodDescriptor yX11_in.desc).map (fun d => d.parameters.length) = some 3 := by decide +kernel
set_option maxRecDepth 10000 in
theorem hX11_in_0 (l : Launch) {p : Program} {e : Env} {s : State} {m : MethodId} {args : Array Value} {below : List Frame} {meth : Method} {c : Code} {D : va_G} {ad adV : Nat → Nat} {cA : Nat → ClassId} {K : Kt} (C0 : Cx p s m args meth c D ad adV cA cX11_in 3 RX11) (hr : meth.sig.returnType = (some .boolean)) : ∀ q ∈ lX11_in, Sd p l e (rmd 0) s m args below meth c (MQ below (QQ D ad cA K) args s 0 0 (AA ad)) D ad cA 3 q.1 (opOf K q.2) := List.forall_mem_cons.mpr ⟨s_iload_n C0 dX11_in_0 rfl, List.forall_mem_cons.mpr ⟨s_iload_n C0 dX11_in_1 rfl, List.forall_mem_cons.mpr ⟨s_icmp_lt C0 dX11_in_2 rfl, List.forall_mem_cons.mpr ⟨s_iload_n C0 dX11_in_5 rfl, List.forall_mem_cons.mpr ⟨s_iload_n C0 dX11_in_6 rfl, List.forall_mem_cons.mpr ⟨s_icmp_gt C0 dX11_in_7 rfl, List.forall_mem_cons.mpr ⟨s_iconst C0 dX11_in_10 rfl, List.forall_mem_cons.mpr ⟨s_goto C0 dX11_in_11 rfl, List.forall_mem_cons.mpr ⟨s_iconst C0 dX11_in_14 rfl, List.forall_mem_cons.mpr ⟨s_zret C0 hr dX11_in_15, fun _ h => absurd h List.not_mem_nil⟩⟩⟩⟩⟩⟩⟩⟩⟩⟩
def fX11_in : Mf := mf 3 (fun K => tl K lX11_in)
theorem kX11_in (l : Launch) : Okm l yX11_in cX11_in 3 (some .boolean) 0 fX11_in := Okm_tl (own := RX11) (by decide +kernel) rfl (fun C0 hr => hX11_in_0 l C0 hr)
theorem dX11_lesser_0 : decode cX11_lesser 0 = .ok (.iload_n 0, 1) := by decide +kernel
theorem dX11_lesser_1 : decode cX11_lesser 1 = .ok (.iload_n 1, 1) := by decide +kernel
theorem dX11_lesser_2 : decode cX11_lesser 2 = .ok (.if_icmp .ge 7, 3) := by decide +kernel
theorem dX11_lesser_5 : decode cX11_lesser 5 = .ok (.iload_n 0, 1) := by decide +kernel
theorem dX11_lesser_6 : decode cX11_lesser 6 = .ok (.goto 4, 3) := by decide +kernel
theorem dX11_lesser_9 : decode cX11_lesser 9 = .ok (.iload_n 1, 1) := by decide +kernel
theorem dX11_lesser_10 : decode cX11_lesser 10 = .ok (.ireturn, 1) := by decide +kernel
def lX11_lesser : List (Nat × (Op ⊕ Nat)) := [(0, .inl (o_iload 0 1)), (1, .inl (o_iload 1 2)), (2, .inl (o_icmp_ge 9 5)), (5, .inl (o_iload 0 6)), (6, .inl (o_goto 10)), (9, .inl (o_iload 1 10)), (10, .inr 0)]
theorem qX11_lesser : yX11_lesser.cls ≠ "java/lang/invoke/MethodHandle" ∧ yX11_lesser.cls ≠ "java/lang/invoke/VarHandle" ∧ (parseMethodDescriptor yX11_lesser.desc).map (fun d => d.parameters.length) = some 2 := by decide +kernel
set_option maxRecDepth 10000 in
theorem hX11_lesser_0 (l : Launch) {p : Program} {e : Env} {s : State} {m : MethodId} {args : Array Value} {below : List Frame} {meth : Method} {c : Code} {D : va_G} {ad adV : Nat → Nat} {cA : Nat → ClassId} {K : Kt} (C0 : Cx p s m args meth c D ad adV cA cX11_lesser 2 RX11) (hr : meth.sig.returnType = (some .int)) : ∀ q ∈ lX11_lesser, Sd p l e (rmd 0) s m args below meth c (MQ below (QQ D ad cA K) args s 0 0 (AA ad)) D ad cA 2 q.1 (opOf K q.2) := List.forall_mem_cons.mpr ⟨s_iload_n C0 dX11_lesser_0 rfl, List.forall_mem_cons.mpr ⟨s_iload_n C0 dX11_lesser_1 rfl, List.forall_mem_cons.mpr ⟨s_icmp_ge C0 dX11_lesser_2 rfl, List.forall_mem_cons.mpr ⟨s_iload_n C0 dX11_lesser_5 rfl, List.forall_mem_cons.mpr ⟨s_goto C0 dX11_lesser_6 rfl, List.forall_mem_cons.mpr ⟨s_iload_n C0 dX11_lesser_9 rfl, List.forall_mem_cons.mpr ⟨s_iret C0 hr dX11_lesser_10, fun _ h => absurd h List.not_mem_nil⟩⟩⟩⟩⟩⟩⟩
def fX11_lesser : Mf := mf 2 (fun K => tl K lX11_lesser)
theorem kX11_lesser (l : Launch) : Okm l yX11_lesser cX11_lesser 2 (some .int) 0 fX11_lesser := Okm_tl (own := RX11) (by decide +kernel) rfl (fun C0 hr => hX11_lesser_0 l C0 hr)
theorem dX11_no_0 : decode cX11_no 0 = .ok (.aload_n 0, 1) := by decide +kernel
theorem dX11_no_1 : decode cX11_no 1 = .ok (.iload_n 1, 1) := by decide +kernel
theorem dX11_no_2 : decode cX11_no 2 = .ok (.putfield 50, 3) := by decide +kernel
theorem dX11_no_5 : decode cX11_no 5 = .ok (.iconst (-1), 1) := by decide +kernel
theorem dX11_no_6 : decode cX11_no 6 = .ok (.ireturn, 1) := by decide +kernel
def lX11_no : List (Nat × (Op ⊕ Nat)) := [(0, .inl (o_aload 0 1)), (1, .inl (o_iload 1 2)), (2, .inl (o_putI 11 1 5)), (5, .inl (o_pushI ((-1)) 6)), (6, .inr 0)]
theorem qX11_no : yX11_no.cls = RX11 ∧ yX11_no.cls ≠ "java/lang/invoke/MethodHandle" ∧ yX11_no.cls ≠ "java/lang/invoke/VarHandle" ∧ (parseMethodDescriptor yX11_no.desc).map (fun d => d.parameters.length) = some 1 := by decide +kernel
set_option maxRecDepth 10000 in
theorem hX11_no_0 (l : Launch) {p : Program} {e : Env} {s : State} {m : MethodId} {args : Array Value} {below : List Frame} {meth : Method} {c : Code} {D : va_G} {ad adV : Nat → Nat} {cA : Nat → ClassId} {K : Kt} (C0 : Cx p s m args meth c D ad adV cA cX11_no 2 RX11) (hr : meth.sig.returnType = (some .int)) : ∀ q ∈ lX11_no, Sd p l e (rmd 0) s m args below meth c (MQ below (QQ D ad cA K) args s 0 0 (AA ad)) D ad cA 2 q.1 (opOf K q.2) := List.forall_mem_cons.mpr ⟨s_aload_n C0 dX11_no_0 rfl, List.forall_mem_cons.mpr ⟨s_iload_n C0 dX11_no_1 rfl, List.forall_mem_cons.mpr ⟨s_putI (ci := 11) (k := 1) C0 dX11_no_2 inX11 tyX11_ok nmX11 rfl (by decide) rfl rfl tw6_12, List.forall_mem_cons.mpr ⟨s_iconst C0 dX11_no_5 rfl, List.forall_mem_cons.mpr ⟨s_iret C0 hr dX11_no_6, fun _ h => absurd h List.not_mem_nil⟩⟩⟩⟩⟩
def fX11_no : Mf := mf 2 (fun K => tl K lX11_no)
theorem kX11_no (l : Launch) : Okm l yX11_no cX11_no 2 (some .int) 0 fX11_no := Okm_tl (own := RX11) (by decide +kernel) rfl (fun C0 hr => hX11_no_0 l C0 hr)
theorem dX11_isRefused_0 : decode cX11_isRefused 0 = .ok (.aload_n 0, 1) := by decide +kernel
theorem dX11_isRefused_1 : decode cX11_isRefused 1 = .ok (.iconst 0, 1) := by decide +kernel
theorem dX11_isRefused_2 : decode cX11_isRefused 2 = .ok (.putfield 47, 3) := by decide +kernel
theorem dX11_isRefused_5 : decode cX11_isRefused 5 = .ok (.aload_n 0, 1) := by decide +kernel
theorem dX11_isRefused_6 : decode cX11_isRefused 6 = .ok (.iconst (-1), 1) := by decide +kernel
theorem dX11_isRefused_7 : decode cX11_isRefused 7 = .ok (.putfield 9, 3) := by decide +kernel
theorem dX11_isRefused_10 : decode cX11_isRefused 10 = .ok (.aload_n 0, 1) := by decide +kernel
theorem dX11_isRefused_11 : decode cX11_isRefused 11 = .ok (.iload_n 1, 1) := by decide +kernel
theorem dX11_isRefused_12 : decode cX11_isRefused 12 = .ok (.putfield 50, 3) := by decide +kernel
theorem dX11_isRefused_15 : decode cX11_isRefused 15 = .ok (.iload_n 1, 1) := by decide +kernel
theorem dX11_isRefused_16 : decode cX11_isRefused 16 = .ok (.ifCond .eq 7, 3) := by decide +kernel
theorem dX11_isRefused_19 : decode cX11_isRefused 19 = .ok (.iconst 1, 1) := by decide +kernel
theorem dX11_isRefused_20 : decode cX11_isRefused 20 = .ok (.goto 4, 3) := by decide +kernel
theorem dX11_isRefused_23 : decode cX11_isRefused 23 = .ok (.iconst 0, 1) := by decide +kernel
theorem dX11_isRefused_24 : decode cX11_isRefused 24 = .ok (.ireturn, 1) := by decide +kernel
def lX11_isRefused : List (Nat × (Op ⊕ Nat)) := [(0, .inl (o_aload 0 1)), (1, .inl (o_pushI (nI 0) 2)), (2, .inl (o_putI 11 0 5)), (5, .inl (o_aload 0 6)), (6, .inl (o_pushI ((-1)) 7)), (7, .inl (o_putI 11 3 10)), (10, .inl (o_aload 0 11)), (11, .inl (o_iload 1 12)), (12, .inl (o_putI 11 1 15)), (15, .inl (o_iload 1 16)), (16, .inl (o_if_eq 23 19)), (19, .inl (o_pushI (nI 1) 20)), (20, .inl (o_goto 24)), (23, .inl (o_pushI (nI 0) 24)), (24, .inr 1)]
theorem qX11_isRefused : yX11_isRefused.cls = RX11 ∧ yX11_isRefused.cls ≠ "java/lang/invoke/MethodHandle" ∧ yX11_isRefused.cls ≠ "java/lang/invoke/VarHandle" ∧ (parseMethodDescriptor yX11_isRefused.desc).map (fun d => d.parameters.length) = some 1 := by decide +kernel
set_option maxRecDepth 10000 in
theorem hX11_isRefused_0 (l : Launch) {p : Program} {e : Env} {s : State} {m : MethodId} {args : Array Value} {below : List Frame} {meth : Method} {c : Code} {D : va_G} {ad adV : Nat → Nat} {cA : Nat → ClassId} {K : Kt} (C0 : Cx p s m args meth c D ad adV cA cX11_isRefused 2 RX11) (hr : meth.sig.returnType = (some .boolean)) : ∀ q ∈ lX11_isRefused, Sd p l e (rmd 0) s m args below meth c (MQ below (QQ D ad cA K) args s 0 0 (AA ad)) D ad cA 2 q.1 (opOf K q.2) := List.forall_mem_cons.mpr ⟨s_aload_n C0 dX11_isRefused_0 rfl, List.forall_mem_cons.mpr ⟨s_iconst C0 dX11_isRefused_1 rfl, List.forall_mem_cons.mpr ⟨s_putI (ci := 11) (k := 0) C0 dX11_isRefused_2 inX11 tyX11_ok nmX11 rfl (by decide) rfl rfl tw6_11, List.forall_mem_cons.mpr ⟨s_aload_n C0 dX11_isRefused_5 rfl, List.forall_mem_cons.mpr ⟨s_iconst C0 dX11_isRefused_6 rfl, List.forall_mem_cons.mpr ⟨s_putI (ci := 11) (k := 3) C0 dX11_isRefused_7 inX11 tyX11_ok nmX11 rfl (by decide) rfl rfl tw6_14, List.forall_mem_cons.mpr ⟨s_aload_n C0 dX11_isRefused_10 rfl, List.forall_mem_cons.mpr ⟨s_iload_n C0 dX11_isRefused_11 rfl, List.forall_mem_cons.mpr ⟨s_putI (ci := 11) (k := 1) C0 dX11_isRefused_12 inX11 tyX11_ok nmX11 rfl (by decide) rfl rfl tw6_12, List.forall_mem_cons.mpr ⟨s_iload_n C0 dX11_isRefused_15 rfl, List.forall_mem_cons.mpr ⟨s_if_eq C0 dX11_isRefused_16 rfl, List.forall_mem_cons.mpr ⟨s_iconst C0 dX11_isRefused_19 rfl, List.forall_mem_cons.mpr ⟨s_goto C0 dX11_isRefused_20 rfl, List.forall_mem_cons.mpr ⟨s_iconst C0 dX11_isRefused_23 rfl, List.forall_mem_cons.mpr ⟨s_zret C0 hr dX11_isRefused_24, fun _ h => absurd h List.not_mem_nil⟩⟩⟩⟩⟩⟩⟩⟩⟩⟩⟩⟩⟩⟩⟩
def fX11_isRefused : Mf := mf 2 (fun K => tl K lX11_isRefused)
theorem kX11_isRefused (l : Launch) : Okm l yX11_isRefused cX11_isRefused 2 (some .boolean) 0 fX11_isRefused := Okm_tl (own := RX11) (by decide +kernel) rfl (fun C0 hr => hX11_isRefused_0 l C0 hr)
theorem dX11_unless_0 : decode cX11_unless 0 = .ok (.iload_n 0, 1) := by decide +kernel
theorem dX11_unless_1 : decode cX11_unless 1 = .ok (.ifCond .eq 7, 3) := by decide +kernel
theorem dX11_unless_4 : decode cX11_unless 4 = .ok (.iconst 0, 1) := by decide +kernel
theorem dX11_unless_5 : decode cX11_unless 5 = .ok (.goto 4, 3) := by decide +kernel
theorem dX11_unless_8 : decode cX11_unless 8 = .ok (.iconst 1, 1) := by decide +kernel
theorem dX11_unless_9 : decode cX11_unless 9 = .ok (.ireturn, 1) := by decide +kernel
def lX11_unless : List (Nat × (Op ⊕ Nat)) := [(0, .inl (o_iload 0 1)), (1, .inl (o_if_eq 8 4)), (4, .inl (o_pushI (nI 0) 5)), (5, .inl (o_goto 9)), (8, .inl (o_pushI (nI 1) 9)), (9, .inr 0)]
theorem qX11_unless : yX11_unless.cls ≠ "java/lang/invoke/MethodHandle" ∧ yX11_unless.cls ≠ "java/lang/invoke/VarHandle" ∧ (parseMethodDescriptor yX11_unless.desc).map (fun d => d.parameters.length) = some 1 := by decide +kernel
set_option maxRecDepth 10000 in
theorem hX11_unless_0 (l : Launch) {p : Program} {e : Env} {s : State} {m : MethodId} {args : Array Value} {below : List Frame} {meth : Method} {c : Code} {D : va_G} {ad adV : Nat → Nat} {cA : Nat → ClassId} {K : Kt} (C0 : Cx p s m args meth c D ad adV cA cX11_unless 1 RX11) (hr : meth.sig.returnType = (some .int)) : ∀ q ∈ lX11_unless, Sd p l e (rmd 0) s m args below meth c (MQ below (QQ D ad cA K) args s 0 0 (AA ad)) D ad cA 1 q.1 (opOf K q.2) := List.forall_mem_cons.mpr ⟨s_iload_n C0 dX11_unless_0 rfl, List.forall_mem_cons.mpr ⟨s_if_eq C0 dX11_unless_1 rfl, List.forall_mem_cons.mpr ⟨s_iconst C0 dX11_unless_4 rfl, List.forall_mem_cons.mpr ⟨s_goto C0 dX11_unless_5 rfl, List.forall_mem_cons.mpr ⟨s_iconst C0 dX11_unless_8 rfl, List.forall_mem_cons.mpr ⟨s_iret C0 hr dX11_unless_9, fun _ h => absurd h List.not_mem_nil⟩⟩⟩⟩⟩⟩
def fX11_unless : Mf := mf 1 (fun K => tl K lX11_unless)
theorem kX11_unless (l : Launch) : Okm l yX11_unless cX11_unless 1 (some .int) 0 fX11_unless := Okm_tl (own := RX11) (by decide +kernel) rfl (fun C0 hr => hX11_unless_0 l C0 hr)
theorem dX11_unless__0 : decode cX11_unless_ 0 = .ok (.iload_n 0, 1) := by decide +kernel
theorem dX11_unless__1 : decode cX11_unless_ 1 = .ok (.ifCond .ne 7, 3) := by decide +kernel
theorem dX11_unless__4 : decode cX11_unless_ 4 = .ok (.iconst 1, 1) := by decide +kernel
theorem dX11_unless__5 : decode cX11_unless_ 5 = .ok (.goto 12, 3) := by decide +kernel
theorem dX11_unless__8 : decode cX11_unless_ 8 = .ok (.iload_n 1, 1) := by decide +kernel
theorem dX11_unless__9 : decode cX11_unless_ 9 = .ok (.ifCond .eq 7, 3) := by decide +kernel
theorem dX11_unless__12 : decode cX11_unless_ 12 = .ok (.iconst 0, 1) := by decide +kernel
theorem dX11_unless__13 : decode cX11_unless_ 13 = .ok (.goto 4, 3) := by decide +kernel
theorem dX11_unless__16 : decode cX11_unless_ 16 = .ok (.iconst 2, 1) := by decide +kernel
theorem dX11_unless__17 : decode cX11_unless_ 17 = .ok (.ireturn, 1) := by decide +kernel
def lX11_unless_ : List (Nat × (Op ⊕ Nat)) := [(0, .inl (o_iload 0 1)), (1, .inl (o_if_ne 8 4)), (4, .inl (o_pushI (nI 1) 5)), (5, .inl (o_goto 17)), (8, .inl (o_iload 1 9)), (9, .inl (o_if_eq 16 12)), (12, .inl (o_pushI (nI 0) 13)), (13, .inl (o_goto 17)), (16, .inl (o_pushI (nI 2) 17)), (17, .inr 0)]
theorem qX11_unless_ : yX11_unless_.cls ≠ "java/lang/invoke/MethodHandle" ∧ yX11_unless_.cls ≠ "java/lang/invoke/VarHandle" ∧ (parseMethodDescriptor yX11_unless_.desc).map (fun d => d.parameters.length) = some 2 := by decide +kernel
set_option maxRecDepth 10000 in
theorem hX11_unless__0 (l : Launch) {p : Program} {e : Env} {s : State} {m : MethodId} {args : Array Value} {below : List Frame} {meth : Method} {c : Code} {D : va_G} {ad adV : Nat → Nat} {cA : Nat → ClassId} {K : Kt} (C0 : Cx p s m args meth c D ad adV cA cX11_unless_ 2 RX11) (hr : meth.sig.returnType = (some .int)) : ∀ q ∈ lX11_unless_, Sd p l e (rmd 0) s m args below meth c (MQ below (QQ D ad cA K) args s 0 0 (AA ad)) D ad cA 2 q.1 (opOf K q.2) := List.forall_mem_cons.mpr ⟨s_iload_n C0 dX11_unless__0 rfl, List.forall_mem_cons.mpr ⟨s_if_ne C0 dX11_unless__1 rfl, List.forall_mem_cons.mpr ⟨s_iconst C0 dX11_unless__4 rfl, List.forall_mem_cons.mpr ⟨s_goto C0 dX11_unless__5 rfl, List.forall_mem_cons.mpr ⟨s_iload_n C0 dX11_unless__8 rfl, List.forall_mem_cons.mpr ⟨s_if_eq C0 dX11_unless__9 rfl, List.forall_mem_cons.mpr ⟨s_iconst C0 dX11_unless__12 rfl, List.forall_mem_cons.mpr ⟨s_goto C0 dX11_unless__13 rfl, List.forall_mem_cons.mpr ⟨s_iconst C0 dX11_unless__16 rfl, List.forall_mem_cons.mpr ⟨s_iret C0 hr dX11_unless__17, fun _ h => absurd h List.not_mem_nil⟩⟩⟩⟩⟩⟩⟩⟩⟩⟩
def fX11_unless_ : Mf := mf 2 (fun K => tl K lX11_unless_)
theorem kX11_unless_ (l : Launch) : Okm l yX11_unless_ cX11_unless_ 2 (some .int) 0 fX11_unless_ := Okm_tl (own := RX11) (by decide +kernel) rfl (fun C0 hr => hX11_unless__0 l C0 hr)
theorem dX11_laysWord_0 : decode cX11_laysWord 0 = .ok (.iconst 0, 1) := by decide +kernel
theorem dX11_laysWord_1 : decode cX11_laysWord 1 = .ok (.istore_n 2, 1) := by decide +kernel
theorem dX11_laysWord_2 : decode cX11_laysWord 2 = .ok (.iload_n 2, 1) := by decide +kernel
theorem dX11_laysWord_3 : decode cX11_laysWord 3 = .ok (.iconst 4, 1) := by decide +kernel
theorem dX11_laysWord_4 : decode cX11_laysWord 4 = .ok (.if_icmp .ge 33, 3) := by decide +kernel
theorem dX11_laysWord_7 : decode cX11_laysWord 7 = .ok (.aload_n 0, 1) := by decide +kernel
theorem dX11_laysWord_8 : decode cX11_laysWord 8 = .ok (.getfield 13, 3) := by decide +kernel
theorem dX11_laysWord_11 : decode cX11_laysWord 11 = .ok (.aload_n 0, 1) := by decide +kernel
theorem dX11_laysWord_12 : decode cX11_laysWord 12 = .ok (.getfield 53, 3) := by decide +kernel
theorem dX11_laysWord_15 : decode cX11_laysWord 15 = .ok (.iload_n 2, 1) := by decide +kernel
theorem dX11_laysWord_16 : decode cX11_laysWord 16 = .ok (.iadd, 1) := by decide +kernel
theorem dX11_laysWord_17 : decode cX11_laysWord 17 = .ok (.iload_n 1, 1) := by decide +kernel
theorem dX11_laysWord_18 : decode cX11_laysWord 18 = .ok (.bipush 24, 2) := by decide +kernel
theorem dX11_laysWord_20 : decode cX11_laysWord 20 = .ok (.bipush 8, 2) := by decide +kernel
theorem dX11_laysWord_22 : decode cX11_laysWord 22 = .ok (.iload_n 2, 1) := by decide +kernel
theorem dX11_laysWord_23 : decode cX11_laysWord 23 = .ok (.imul, 1) := by decide +kernel
theorem dX11_laysWord_24 : decode cX11_laysWord 24 = .ok (.isub, 1) := by decide +kernel
theorem dX11_laysWord_25 : decode cX11_laysWord 25 = .ok (.ishr, 1) := by decide +kernel
theorem dX11_laysWord_26 : decode cX11_laysWord 26 = .ok (.sipush 255, 3) := by decide +kernel
theorem dX11_laysWord_29 : decode cX11_laysWord 29 = .ok (.iand, 1) := by decide +kernel
theorem dX11_laysWord_30 : decode cX11_laysWord 30 = .ok (.iastore, 1) := by decide +kernel
theorem dX11_laysWord_31 : decode cX11_laysWord 31 = .ok (.iinc 2 1, 3) := by decide +kernel
theorem dX11_laysWord_34 : decode cX11_laysWord 34 = .ok (.goto (-32), 3) := by decide +kernel
theorem dX11_laysWord_37 : decode cX11_laysWord 37 = .ok (.aload_n 0, 1) := by decide +kernel
theorem dX11_laysWord_38 : decode cX11_laysWord 38 = .ok (.dup, 1) := by decide +kernel
theorem dX11_laysWord_39 : decode cX11_laysWord 39 = .ok (.getfield 53, 3) := by decide +kernel
theorem dX11_laysWord_42 : decode cX11_laysWord 42 = .ok (.iconst 4, 1) := by decide +kernel
theorem dX11_laysWord_43 : decode cX11_laysWord 43 = .ok (.iadd, 1) := by decide +kernel
theorem dX11_laysWord_44 : decode cX11_laysWord 44 = .ok (.putfield 53, 3) := by decide +kernel
theorem dX11_laysWord_47 : decode cX11_laysWord 47 = .ok (.return_, 1) := by decide +kernel
def lX11_laysWord : List (Nat × (Op ⊕ Nat)) := [(0, .inl (o_pushI (nI 0) 1)), (1, .inl (o_istore 2 2)), (2, .inl (o_iload 2 3)), (3, .inl (o_pushI (nI 4) 4)), (4, .inl (o_icmp_ge 37 7)), (7, .inl (o_aload 0 8)), (8, .inl (o_get 11 4 11)), (11, .inl (o_aload 0 12)), (12, .inl (o_get 11 5 15)), (15, .inl (o_iload 2 16)), (16, .inl (o_iadd 17)), (17, .inl (o_iload 1 18)), (18, .inl (o_pushI (nI 24) 20)), (20, .inl (o_pushI (nI 8) 22)), (22, .inl (o_iload 2 23)), (23, .inl (o_imul 24)), (24, .inl (o_isub 25)), (25, .inl (o_ishr 26)), (26, .inl (o_pushI (nI 255) 29)), (29, .inl (o_iand 30)), (30, .inl (o_iast 31)), (31, .inl (o_iinc 2 (nI 1) 34)), (34, .inl (o_goto 2)), (37, .inl (o_aload 0 38)), (38, .inl (o_dup 39)), (39, .inl (o_get 11 5 42)), (42, .inl (o_pushI (nI 4) 43)), (43, .inl (o_iadd 44)), (44, .inl (o_putI 11 5 47)), (47, .inr 3)]
theorem qX11_laysWord : yX11_laysWord.cls = RX11 ∧ yX11_laysWord.cls ≠ "java/lang/invoke/MethodHandle" ∧ yX11_laysWord.cls ≠ "java/lang/invoke/VarHandle" ∧ (parseMethodDescriptor yX11_laysWord.desc).map (fun d => d.parameters.length) = some 1 := by decide +kernel
set_option maxRecDepth 10000 in
theorem hX11_laysWord_0 (l : Launch) {p : Program} {e : Env} {s : State} {m : MethodId} {args : Array Value} {below : List Frame} {meth : Method} {c : Code} {D : va_G} {ad adV : Nat → Nat} {cA : Nat → ClassId} {K : Kt} (C0 : Cx p s m args meth c D ad adV cA cX11_laysWord 3 RX11) (hr : meth.sig.returnType = none) : ∀ q ∈ lX11_laysWord, Sd p l e (rmd 0) s m args below meth c (MQ below (QQ D ad cA K) args s 0 0 (AA ad)) D ad cA 3 q.1 (opOf K q.2) := List.forall_mem_cons.mpr ⟨s_iconst C0 dX11_laysWord_0 rfl, List.forall_mem_cons.mpr ⟨s_istore_n C0 dX11_laysWord_1 rfl (by decide), List.forall_mem_cons.mpr ⟨s_iload_n C0 dX11_laysWord_2 rfl, List.forall_mem_cons.mpr ⟨s_iconst C0 dX11_laysWord_3 rfl, List.forall_mem_cons.mpr ⟨s_icmp_ge C0 dX11_laysWord_4 rfl, List.forall_mem_cons.mpr ⟨s_aload_n C0 dX11_laysWord_7 rfl, List.forall_mem_cons.mpr ⟨s_get (ci := 11) (k := 4) C0 dX11_laysWord_8 inX11 rfl (by decide) tw6_15, List.forall_mem_cons.mpr ⟨s_aload_n C0 dX11_laysWord_11 rfl, List.forall_mem_cons.mpr ⟨s_get (ci := 11) (k := 5) C0 dX11_laysWord_12 inX11 rfl (by decide) tw6_16, List.forall_mem_cons.mpr ⟨s_iload_n C0 dX11_laysWord_15 rfl, List.forall_mem_cons.mpr ⟨s_iadd C0 dX11_laysWord_16, List.forall_mem_cons.mpr ⟨s_iload_n C0 dX11_laysWord_17 rfl, List.forall_mem_cons.mpr ⟨s_bipush C0 dX11_laysWord_18 (by decide +kernel), List.forall_mem_cons.mpr ⟨s_bipush C0 dX11_laysWord_20 (by decide +kernel), List.forall_mem_cons.mpr ⟨s_iload_n C0 dX11_laysWord_22 rfl, List.forall_mem_cons.mpr ⟨s_imul C0 dX11_laysWord_23, List.forall_mem_cons.mpr ⟨s_isub C0 dX11_laysWord_24, List.forall_mem_cons.mpr ⟨s_ishr C0 dX11_laysWord_25, List.forall_mem_cons.mpr ⟨s_sipush C0 dX11_laysWord_26 (by decide +kernel), List.forall_mem_cons.mpr ⟨s_iand C0 dX11_laysWord_29, List.forall_mem_cons.mpr ⟨s_iast C0 dX11_laysWord_30, List.forall_mem_cons.mpr ⟨s_iinc C0 dX11_laysWord_31 rfl (by decide), List.forall_mem_cons.mpr ⟨s_goto C0 dX11_laysWord_34 rfl, List.forall_mem_cons.mpr ⟨s_aload_n C0 dX11_laysWord_37 rfl, List.forall_mem_cons.mpr ⟨s_dup C0 dX11_laysWord_38, List.forall_mem_cons.mpr ⟨s_get (ci := 11) (k := 5) C0 dX11_laysWord_39 inX11 rfl (by decide) tw6_16, List.forall_mem_cons.mpr ⟨s_iconst C0 dX11_laysWord_42 rfl, List.forall_mem_cons.mpr ⟨s_iadd C0 dX11_laysWord_43, List.forall_mem_cons.mpr ⟨s_putI (ci := 11) (k := 5) C0 dX11_laysWord_44 inX11 tyX11_ok nmX11 rfl (by decide) rfl rfl tw6_16, List.forall_mem_cons.mpr ⟨s_vret C0 hr dX11_laysWord_47, fun _ h => absurd h List.not_mem_nil⟩⟩⟩⟩⟩⟩⟩⟩⟩⟩⟩⟩⟩⟩⟩⟩⟩⟩⟩⟩⟩⟩⟩⟩⟩⟩⟩⟩⟩⟩
def fX11_laysWord : Mf := mf 3 (fun K => tl K lX11_laysWord)
theorem kX11_laysWord (l : Launch) : Okm l yX11_laysWord cX11_laysWord 3 none 0 fX11_laysWord := Okm_tl (own := RX11) (by decide +kernel) rfl (fun C0 hr => hX11_laysWord_0 l C0 hr)
theorem dX11_feed_0 : decode cX11_feed 0 = .ok (.aload_n 0, 1) := by decide +kernel
theorem dX11_feed_1 : decode cX11_feed 1 = .ok (.iconst 0, 1) := by decide +kernel
theorem dX11_feed_2 : decode cX11_feed 2 = .ok (.putfield 47, 3) := by decide +kernel
theorem dX11_feed_5 : decode cX11_feed 5 = .ok (.aload_n 0, 1) := by decide +kernel
theorem dX11_feed_6 : decode cX11_feed 6 = .ok (.getfield 53, 3) := by decide +kernel
theorem dX11_feed_9 : decode cX11_feed 9 = .ok (.sipush 780, 3) := by decide +kernel
theorem dX11_feed_12 : decode cX11_feed 12 = .ok (.if_icmp .le 5, 3) := by decide +kernel
theorem dX11_feed_15 : decode cX11_feed 15 = .ok (.iconst (-1), 1) := by decide +kernel
theorem dX11_feed_16 : decode cX11_feed 16 = .ok (.ireturn, 1) := by decide +kernel
theorem dX11_feed_17 : decode cX11_feed 17 = .ok (.aload_n 0, 1) := by decide +kernel
theorem dX11_feed_18 : decode cX11_feed 18 = .ok (.iload_n 1, 1) := by decide +kernel
theorem dX11_feed_19 : decode cX11_feed 19 = .ok (.invokevirtual 56, 3) := by decide +kernel
theorem dX11_feed_22 : decode cX11_feed 22 = .ok (.aload_n 0, 1) := by decide +kernel
theorem dX11_feed_23 : decode cX11_feed 23 = .ok (.iload_n 2, 1) := by decide +kernel
theorem dX11_feed_24 : decode cX11_feed 24 = .ok (.invokevirtual 56, 3) := by decide +kernel
theorem dX11_feed_27 : decode cX11_feed 27 = .ok (.aload_n 0, 1) := by decide +kernel
theorem dX11_feed_28 : decode cX11_feed 28 = .ok (.iload_n 3, 1) := by decide +kernel
theorem dX11_feed_29 : decode cX11_feed 29 = .ok (.invokevirtual 56, 3) := by decide +kernel
theorem dX11_feed_32 : decode cX11_feed 32 = .ok (.aload_n 0, 1) := by decide +kernel
theorem dX11_feed_33 : decode cX11_feed 33 = .ok (.iload 4, 2) := by decide +kernel
theorem dX11_feed_35 : decode cX11_feed 35 = .ok (.invokevirtual 56, 3) := by decide +kernel
theorem dX11_feed_38 : decode cX11_feed 38 = .ok (.aload_n 0, 1) := by decide +kernel
theorem dX11_feed_39 : decode cX11_feed 39 = .ok (.iload 5, 2) := by decide +kernel
theorem dX11_feed_41 : decode cX11_feed 41 = .ok (.invokevirtual 56, 3) := by decide +kernel
theorem dX11_feed_44 : decode cX11_feed 44 = .ok (.aload_n 0, 1) := by decide +kernel
theorem dX11_feed_45 : decode cX11_feed 45 = .ok (.getfield 53, 3) := by decide +kernel
theorem dX11_feed_48 : decode cX11_feed 48 = .ok (.ireturn, 1) := by decide +kernel
def lX11_feed : List (Nat × (Op ⊕ Nat)) := [(0, .inl (o_aload 0 1)), (1, .inl (o_pushI (nI 0) 2)), (2, .inl (o_putI 11 0 5)), (5, .inl (o_aload 0 6)), (6, .inl (o_get 11 5 9)), (9, .inl (o_pushI (nI 780) 12)), (12, .inl (o_icmp_le 17 15)), (15, .inl (o_pushI ((-1)) 16)), (16, .inr 0), (17, .inl (o_aload 0 18)), (18, .inl (o_iload 1 19)), (19, .inl (o_callV fX11_laysWord 1 11 22)), (22, .inl (o_aload 0 23)), (23, .inl (o_iload 2 24)), (24, .inl (o_callV fX11_laysWord 1 11 27)), (27, .inl (o_aload 0 28)), (28, .inl (o_iload 3 29)), (29, .inl (o_callV fX11_laysWord 1 11 32)), (32, .inl (o_aload 0 33)), (33, .inl (o_iload 4 35)), (35, .inl (o_callV fX11_laysWord 1 11 38)), (38, .inl (o_aload 0 39)), (39, .inl (o_iload 5 41)), (41, .inl (o_callV fX11_laysWord 1 11 44)), (44, .inl (o_aload 0 45)), (45, .inl (o_get 11 5 48)), (48, .inr 0)]
theorem qX11_feed : yX11_feed.cls = RX11 ∧ yX11_feed.cls ≠ "java/lang/invoke/MethodHandle" ∧ yX11_feed.cls ≠ "java/lang/invoke/VarHandle" ∧ (parseMethodDescriptor yX11_feed.desc).map (fun d => d.parameters.length) = some 5 := by decide +kernel
set_option maxRecDepth 10000 in
theorem hX11_feed_0 (l : Launch) {p : Program} {e : Env} {s : State} {m : MethodId} {args : Array Value} {below : List Frame} {meth : Method} {c : Code} {D : va_G} {ad adV : Nat → Nat} {cA : Nat → ClassId} {K : Kt} (C0 : Cx p s m args meth c D ad adV cA cX11_feed 6 RX11) (hr : meth.sig.returnType = (some .int)) : ∀ q ∈ lX11_feed, Sd p l e (rmd 1) s m args below meth c (MQ below (QQ D ad cA K) args s 0 0 (AA ad)) D ad cA 6 q.1 (opOf K q.2) := List.forall_mem_cons.mpr ⟨s_aload_n C0 dX11_feed_0 rfl, List.forall_mem_cons.mpr ⟨s_iconst C0 dX11_feed_1 rfl, List.forall_mem_cons.mpr ⟨s_putI (ci := 11) (k := 0) C0 dX11_feed_2 inX11 tyX11_ok nmX11 rfl (by decide) rfl rfl tw6_11, List.forall_mem_cons.mpr ⟨s_aload_n C0 dX11_feed_5 rfl, List.forall_mem_cons.mpr ⟨s_get (ci := 11) (k := 5) C0 dX11_feed_6 inX11 rfl (by decide) tw6_16, List.forall_mem_cons.mpr ⟨s_sipush C0 dX11_feed_9 (by decide +kernel), List.forall_mem_cons.mpr ⟨s_icmp_le C0 dX11_feed_12 rfl, List.forall_mem_cons.mpr ⟨s_iconst C0 dX11_feed_15 rfl, List.forall_mem_cons.mpr ⟨s_iret C0 hr dX11_feed_16, List.forall_mem_cons.mpr ⟨s_aload_n C0 dX11_feed_17 rfl, List.forall_mem_cons.mpr ⟨s_iload_n C0 dX11_feed_18 rfl, List.forall_mem_cons.mpr ⟨s_callV (ci := 11) C0 (kX11_laysWord l) dX11_feed_19 rfl qX11_laysWord tw6_104 tw6_106 twp_40 tw1_12 tw6_107 rfl (by decide) (by decide), List.forall_mem_cons.mpr ⟨s_aload_n C0 dX11_feed_22 rfl, List.forall_mem_cons.mpr ⟨s_iload_n C0 dX11_feed_23 rfl, List.forall_mem_cons.mpr ⟨s_callV (ci := 11) C0 (kX11_laysWord l) dX11_feed_24 rfl qX11_laysWord tw6_104 tw6_106 twp_40 tw1_12 tw6_107 rfl (by decide) (by decide), List.forall_mem_cons.mpr ⟨s_aload_n C0 dX11_feed_27 rfl, List.forall_mem_cons.mpr ⟨s_iload_n C0 dX11_feed_28 rfl, List.forall_mem_cons.mpr ⟨s_callV (ci := 11) C0 (kX11_laysWord l) dX11_feed_29 rfl qX11_laysWord tw6_104 tw6_106 twp_40 tw1_12 tw6_107 rfl (by decide) (by decide), List.forall_mem_cons.mpr ⟨s_aload_n C0 dX11_feed_32 rfl, List.forall_mem_cons.mpr ⟨s_iload C0 dX11_feed_33, List.forall_mem_cons.mpr ⟨s_callV (ci := 11) C0 (kX11_laysWord l) dX11_feed_35 rfl qX11_laysWord tw6_104 tw6_106 twp_40 tw1_12 tw6_107 rfl (by decide) (by decide), List.forall_mem_cons.mpr ⟨s_aload_n C0 dX11_feed_38 rfl, List.forall_mem_cons.mpr ⟨s_iload C0 dX11_feed_39, List.forall_mem_cons.mpr ⟨s_callV (ci := 11) C0 (kX11_laysWord l) dX11_feed_41 rfl qX11_laysWord tw6_104 tw6_106 twp_40 tw1_12 tw6_107 rfl (by decide) (by decide), List.forall_mem_cons.mpr ⟨s_aload_n C0 dX11_feed_44 rfl, List.forall_mem_cons.mpr ⟨s_get (ci := 11) (k := 5) C0 dX11_feed_45 inX11 rfl (by decide) tw6_16, List.forall_mem_cons.mpr ⟨s_iret C0 hr dX11_feed_48, fun _ h => absurd h List.not_mem_nil⟩⟩⟩⟩⟩⟩⟩⟩⟩⟩⟩⟩⟩⟩⟩⟩⟩⟩⟩⟩⟩⟩⟩⟩⟩⟩⟩
def fX11_feed : Mf := mf 6 (fun K => tl K lX11_feed)
theorem kX11_feed (l : Launch) : Okm l yX11_feed cX11_feed 6 (some .int) 1 fX11_feed := Okm_tl (own := RX11) (by decide +kernel) rfl (fun C0 hr => hX11_feed_0 l C0 hr)
theorem dX11_see_0 : decode cX11_see 0 = .ok (.iload_n 1, 1) := by decide +kernel
theorem dX11_see_1 : decode cX11_see 1 = .ok (.aload_n 0, 1) := by decide +kernel
theorem dX11_see_2 : decode cX11_see 2 = .ok (.getfield 60, 3) := by decide +kernel
theorem dX11_see_5 : decode cX11_see 5 = .ok (.if_icmp .ge 12, 3) := by decide +kernel
theorem dX11_see_8 : decode cX11_see 8 = .ok (.aload_n 0, 1) := by decide +kernel
theorem dX11_see_9 : decode cX11_see 9 = .ok (.getfield 13, 3) := by decide +kernel
theorem dX11_see_12 : decode cX11_see 12 = .ok (.iload_n 1, 1) := by decide +kernel
theorem dX11_see_13 : decode cX11_see 13 = .ok (.iaload, 1) := by decide +kernel
theorem dX11_see_14 : decode cX11_see 14 = .ok (.goto 4, 3) := by decide +kernel
theorem dX11_see_17 : decode cX11_see 17 = .ok (.iconst (-1), 1) := by decide +kernel
theorem dX11_see_18 : decode cX11_see 18 = .ok (.ireturn, 1) := by decide +kernel
def lX11_see : List (Nat × (Op ⊕ Nat)) := [(0, .inl (o_iload 1 1)), (1, .inl (o_aload 0 2)), (2, .inl (o_get 11 11 5)), (5, .inl (o_icmp_ge 17 8)), (8, .inl (o_aload 0 9)), (9, .inl (o_get 11 4 12)), (12, .inl (o_iload 1 13)), (13, .inl (o_iald 14)), (14, .inl (o_goto 18)), (17, .inl (o_pushI ((-1)) 18)), (18, .inr 0)]
theorem qX11_see : yX11_see.cls = RX11 ∧ yX11_see.cls ≠ "java/lang/invoke/MethodHandle" ∧ yX11_see.cls ≠ "java/lang/invoke/VarHandle" ∧ (parseMethodDescriptor yX11_see.desc).map (fun d => d.parameters.length) = some 1 := by decide +kernel
set_option maxRecDepth 10000 in
theorem hX11_see_0 (l : Launch) {p : Program} {e : Env} {s : State} {m : MethodId} {args : Array Value} {below : List Frame} {meth : Method} {c : Code} {D : va_G} {ad adV : Nat → Nat} {cA : Nat → ClassId} {K : Kt} (C0 : Cx p s m args meth c D ad adV cA cX11_see 2 RX11) (hr : meth.sig.returnType = (some .int)) : ∀ q ∈ lX11_see, Sd p l e (rmd 0) s m args below meth c (MQ below (QQ D ad cA K) args s 0 0 (AA ad)) D ad cA 2 q.1 (opOf K q.2) := List.forall_mem_cons.mpr ⟨s_iload_n C0 dX11_see_0 rfl, List.forall_mem_cons.mpr ⟨s_aload_n C0 dX11_see_1 rfl, List.forall_mem_cons.mpr ⟨s_get (ci := 11) (k := 11) C0 dX11_see_2 inX11 rfl (by decide) tw6_22, List.forall_mem_cons.mpr ⟨s_icmp_ge C0 dX11_see_5 rfl, List.forall_mem_cons.mpr ⟨s_aload_n C0 dX11_see_8 rfl, List.forall_mem_cons.mpr ⟨s_get (ci := 11) (k := 4) C0 dX11_see_9 inX11 rfl (by decide) tw6_15, List.forall_mem_cons.mpr ⟨s_iload_n C0 dX11_see_12 rfl, List.forall_mem_cons.mpr ⟨s_iald C0 dX11_see_13, List.forall_mem_cons.mpr ⟨s_goto C0 dX11_see_14 rfl, List.forall_mem_cons.mpr ⟨s_iconst C0 dX11_see_17 rfl, List.forall_mem_cons.mpr ⟨s_iret C0 hr dX11_see_18, fun _ h => absurd h List.not_mem_nil⟩⟩⟩⟩⟩⟩⟩⟩⟩⟩⟩
def fX11_see : Mf := mf 2 (fun K => tl K lX11_see)
theorem kX11_see (l : Launch) : Okm l yX11_see cX11_see 2 (some .int) 0 fX11_see := Okm_tl (own := RX11) (by decide +kernel) rfl (fun C0 hr => hX11_see_0 l C0 hr)
theorem dX11_goesOn_0 : decode cX11_goesOn 0 = .ok (.aload_n 0, 1) := by decide +kernel
theorem dX11_goesOn_1 : decode cX11_goesOn 1 = .ok (.aload_n 0, 1) := by decide +kernel
theorem dX11_goesOn_2 : decode cX11_goesOn 2 = .ok (.getfield 63, 3) := by decide +kernel
theorem dX11_goesOn_5 : decode cX11_goesOn 5 = .ok (.invokevirtual 66, 3) := by decide +kernel
theorem dX11_goesOn_8 : decode cX11_goesOn 8 = .ok (.bipush 32, 2) := by decide +kernel
theorem dX11_goesOn_10 : decode cX11_goesOn 10 = .ok (.if_icmp .ne 16, 3) := by decide +kernel
theorem dX11_goesOn_13 : decode cX11_goesOn 13 = .ok (.aload_n 0, 1) := by decide +kernel
theorem dX11_goesOn_14 : decode cX11_goesOn 14 = .ok (.dup, 1) := by decide +kernel
theorem dX11_goesOn_15 : decode cX11_goesOn 15 = .ok (.getfield 63, 3) := by decide +kernel
theorem dX11_goesOn_18 : decode cX11_goesOn 18 = .ok (.iconst 1, 1) := by decide +kernel
theorem dX11_goesOn_19 : decode cX11_goesOn 19 = .ok (.iadd, 1) := by decide +kernel
theorem dX11_goesOn_20 : decode cX11_goesOn 20 = .ok (.putfield 63, 3) := by decide +kernel
theorem dX11_goesOn_23 : decode cX11_goesOn 23 = .ok (.goto (-23), 3) := by decide +kernel
theorem dX11_goesOn_26 : decode cX11_goesOn 26 = .ok (.aload_n 0, 1) := by decide +kernel
theorem dX11_goesOn_27 : decode cX11_goesOn 27 = .ok (.aload_n 0, 1) := by decide +kernel
theorem dX11_goesOn_28 : decode cX11_goesOn 28 = .ok (.getfield 63, 3) := by decide +kernel
theorem dX11_goesOn_31 : decode cX11_goesOn 31 = .ok (.putfield 70, 3) := by decide +kernel
theorem dX11_goesOn_34 : decode cX11_goesOn 34 = .ok (.aload_n 0, 1) := by decide +kernel
theorem dX11_goesOn_35 : decode cX11_goesOn 35 = .ok (.aload_n 0, 1) := by decide +kernel
theorem dX11_goesOn_36 : decode cX11_goesOn 36 = .ok (.getfield 63, 3) := by decide +kernel
theorem dX11_goesOn_39 : decode cX11_goesOn 39 = .ok (.invokevirtual 66, 3) := by decide +kernel
theorem dX11_goesOn_42 : decode cX11_goesOn 42 = .ok (.istore_n 1, 1) := by decide +kernel
theorem dX11_goesOn_43 : decode cX11_goesOn 43 = .ok (.iload_n 1, 1) := by decide +kernel
theorem dX11_goesOn_44 : decode cX11_goesOn 44 = .ok (.iconst (-1), 1) := by decide +kernel
theorem dX11_goesOn_45 : decode cX11_goesOn 45 = .ok (.if_icmp .ne 9, 3) := by decide +kernel
theorem dX11_goesOn_48 : decode cX11_goesOn 48 = .ok (.aload_n 0, 1) := by decide +kernel
theorem dX11_goesOn_49 : decode cX11_goesOn 49 = .ok (.iconst 0, 1) := by decide +kernel
theorem dX11_goesOn_50 : decode cX11_goesOn 50 = .ok (.putfield 73, 3) := by decide +kernel
theorem dX11_goesOn_53 : decode cX11_goesOn 53 = .ok (.return_, 1) := by decide +kernel
theorem dX11_goesOn_54 : decode cX11_goesOn 54 = .ok (.iload_n 1, 1) := by decide +kernel
theorem dX11_goesOn_55 : decode cX11_goesOn 55 = .ok (.bipush 97, 2) := by decide +kernel
theorem dX11_goesOn_57 : decode cX11_goesOn 57 = .ok (.bipush 122, 2) := by decide +kernel
theorem dX11_goesOn_59 : decode cX11_goesOn 59 = .ok (.invokestatic 76, 3) := by decide +kernel
theorem dX11_goesOn_62 : decode cX11_goesOn 62 = .ok (.ifCond .eq 58, 3) := by decide +kernel
theorem dX11_goesOn_65 : decode cX11_goesOn 65 = .ok (.aload_n 0, 1) := by decide +kernel
theorem dX11_goesOn_66 : decode cX11_goesOn 66 = .ok (.aload_n 0, 1) := by decide +kernel
theorem dX11_goesOn_67 : decode cX11_goesOn 67 = .ok (.getfield 63, 3) := by decide +kernel
theorem dX11_goesOn_70 : decode cX11_goesOn 70 = .ok (.invokevirtual 66, 3) := by decide +kernel
theorem dX11_goesOn_73 : decode cX11_goesOn 73 = .ok (.bipush 97, 2) := by decide +kernel
theorem dX11_goesOn_75 : decode cX11_goesOn 75 = .ok (.bipush 122, 2) := by decide +kernel
theorem dX11_goesOn_77 : decode cX11_goesOn 77 = .ok (.invokestatic 76, 3) := by decide +kernel
theorem dX11_goesOn_80 : decode cX11_goesOn 80 = .ok (.ifCond .eq 16, 3) := by decide +kernel
theorem dX11_goesOn_83 : decode cX11_goesOn 83 = .ok (.aload_n 0, 1) := by decide +kernel
theorem dX11_goesOn_84 : decode cX11_goesOn 84 = .ok (.dup, 1) := by decide +kernel
theorem dX11_goesOn_85 : decode cX11_goesOn 85 = .ok (.getfield 63, 3) := by decide +kernel
theorem dX11_goesOn_88 : decode cX11_goesOn 88 = .ok (.iconst 1, 1) := by decide +kernel
theorem dX11_goesOn_89 : decode cX11_goesOn 89 = .ok (.iadd, 1) := by decide +kernel
theorem dX11_goesOn_90 : decode cX11_goesOn 90 = .ok (.putfield 63, 3) := by decide +kernel
theorem dX11_goesOn_93 : decode cX11_goesOn 93 = .ok (.goto (-28), 3) := by decide +kernel
theorem dX11_goesOn_96 : decode cX11_goesOn 96 = .ok (.aload_n 0, 1) := by decide +kernel
theorem dX11_goesOn_97 : decode cX11_goesOn 97 = .ok (.aload_n 0, 1) := by decide +kernel
theorem dX11_goesOn_98 : decode cX11_goesOn 98 = .ok (.getfield 63, 3) := by decide +kernel
theorem dX11_goesOn_101 : decode cX11_goesOn 101 = .ok (.aload_n 0, 1) := by decide +kernel
theorem dX11_goesOn_102 : decode cX11_goesOn 102 = .ok (.getfield 70, 3) := by decide +kernel
theorem dX11_goesOn_105 : decode cX11_goesOn 105 = .ok (.isub, 1) := by decide +kernel
theorem dX11_goesOn_106 : decode cX11_goesOn 106 = .ok (.bipush 7, 2) := by decide +kernel
theorem dX11_goesOn_108 : decode cX11_goesOn 108 = .ok (.if_icmp .le 7, 3) := by decide +kernel
theorem dX11_goesOn_111 : decode cX11_goesOn 111 = .ok (.iconst 1, 1) := by decide +kernel
theorem dX11_goesOn_112 : decode cX11_goesOn 112 = .ok (.goto 4, 3) := by decide +kernel
theorem dX11_goesOn_115 : decode cX11_goesOn 115 = .ok (.iconst 2, 1) := by decide +kernel
theorem dX11_goesOn_116 : decode cX11_goesOn 116 = .ok (.putfield 73, 3) := by decide +kernel
theorem dX11_goesOn_119 : decode cX11_goesOn 119 = .ok (.return_, 1) := by decide +kernel
theorem dX11_goesOn_120 : decode cX11_goesOn 120 = .ok (.iload_n 1, 1) := by decide +kernel
theorem dX11_goesOn_121 : decode cX11_goesOn 121 = .ok (.bipush 48, 2) := by decide +kernel
theorem dX11_goesOn_123 : decode cX11_goesOn 123 = .ok (.bipush 57, 2) := by decide +kernel
theorem dX11_goesOn_125 : decode cX11_goesOn 125 = .ok (.invokestatic 76, 3) := by decide +kernel
theorem dX11_goesOn_128 : decode cX11_goesOn 128 = .ok (.ifCond .eq 105, 3) := by decide +kernel
theorem dX11_goesOn_131 : decode cX11_goesOn 131 = .ok (.aload_n 0, 1) := by decide +kernel
theorem dX11_goesOn_132 : decode cX11_goesOn 132 = .ok (.iconst 0, 1) := by decide +kernel
theorem dX11_goesOn_133 : decode cX11_goesOn 133 = .ok (.putfield 80, 3) := by decide +kernel
theorem dX11_goesOn_136 : decode cX11_goesOn 136 = .ok (.aload_n 0, 1) := by decide +kernel
theorem dX11_goesOn_137 : decode cX11_goesOn 137 = .ok (.aload_n 0, 1) := by decide +kernel
theorem dX11_goesOn_138 : decode cX11_goesOn 138 = .ok (.getfield 63, 3) := by decide +kernel
theorem dX11_goesOn_141 : decode cX11_goesOn 141 = .ok (.invokevirtual 66, 3) := by decide +kernel
theorem dX11_goesOn_144 : decode cX11_goesOn 144 = .ok (.bipush 48, 2) := by decide +kernel
theorem dX11_goesOn_146 : decode cX11_goesOn 146 = .ok (.bipush 57, 2) := by decide +kernel
theorem dX11_goesOn_148 : decode cX11_goesOn 148 = .ok (.invokestatic 76, 3) := by decide +kernel
theorem dX11_goesOn_151 : decode cX11_goesOn 151 = .ok (.ifCond .eq 59, 3) := by decide +kernel
theorem dX11_goesOn_154 : decode cX11_goesOn 154 = .ok (.aload_n 0, 1) := by decide +kernel
theorem dX11_goesOn_155 : decode cX11_goesOn 155 = .ok (.aload_n 0, 1) := by decide +kernel
theorem dX11_goesOn_156 : decode cX11_goesOn 156 = .ok (.getfield 63, 3) := by decide +kernel
theorem dX11_goesOn_159 : decode cX11_goesOn 159 = .ok (.aload_n 0, 1) := by decide +kernel
theorem dX11_goesOn_160 : decode cX11_goesOn 160 = .ok (.getfield 70, 3) := by decide +kernel
theorem dX11_goesOn_163 : decode cX11_goesOn 163 = .ok (.isub, 1) := by decide +kernel
theorem dX11_goesOn_164 : decode cX11_goesOn 164 = .ok (.iconst 3, 1) := by decide +kernel
theorem dX11_goesOn_165 : decode cX11_goesOn 165 = .ok (.if_icmp .ge 25, 3) := by decide +kernel
theorem dX11_goesOn_168 : decode cX11_goesOn 168 = .ok (.bipush 10, 2) := by decide +kernel
theorem dX11_goesOn_170 : decode cX11_goesOn 170 = .ok (.aload_n 0, 1) := by decide +kernel
theorem dX11_goesOn_171 : decode cX11_goesOn 171 = .ok (.getfield 80, 3) := by decide +kernel
theorem dX11_goesOn_174 : decode cX11_goesOn 174 = .ok (.imul, 1) := by decide +kernel
theorem dX11_goesOn_175 : decode cX11_goesOn 175 = .ok (.aload_n 0, 1) := by decide +kernel
theorem dX11_goesOn_176 : decode cX11_goesOn 176 = .ok (.aload_n 0, 1) := by decide +kernel
theorem dX11_goesOn_177 : decode cX11_goesOn 177 = .ok (.getfield 63, 3) := by decide +kernel
theorem dX11_goesOn_180 : decode cX11_goesOn 180 = .ok (.invokevirtual 66, 3) := by decide +kernel
theorem dX11_goesOn_183 : decode cX11_goesOn 183 = .ok (.iadd, 1) := by decide +kernel
theorem dX11_goesOn_184 : decode cX11_goesOn 184 = .ok (.bipush 48, 2) := by decide +kernel
theorem dX11_goesOn_186 : decode cX11_goesOn 186 = .ok (.isub, 1) := by decide +kernel
theorem dX11_goesOn_187 : decode cX11_goesOn 187 = .ok (.goto 7, 3) := by decide +kernel
theorem dX11_goesOn_190 : decode cX11_goesOn 190 = .ok (.aload_n 0, 1) := by decide +kernel
theorem dX11_goesOn_191 : decode cX11_goesOn 191 = .ok (.getfield 80, 3) := by decide +kernel
theorem dX11_goesOn_194 : decode cX11_goesOn 194 = .ok (.putfield 80, 3) := by decide +kernel
theorem dX11_goesOn_197 : decode cX11_goesOn 197 = .ok (.aload_n 0, 1) := by decide +kernel
theorem dX11_goesOn_198 : decode cX11_goesOn 198 = .ok (.dup, 1) := by decide +kernel
theorem dX11_goesOn_199 : decode cX11_goesOn 199 = .ok (.getfield 63, 3) := by decide +kernel
theorem dX11_goesOn_202 : decode cX11_goesOn 202 = .ok (.iconst 1, 1) := by decide +kernel
theorem dX11_goesOn_203 : decode cX11_goesOn 203 = .ok (.iadd, 1) := by decide +kernel
theorem dX11_goesOn_204 : decode cX11_goesOn 204 = .ok (.putfield 63, 3) := by decide +kernel
theorem dX11_goesOn_207 : decode cX11_goesOn 207 = .ok (.goto (-71), 3) := by decide +kernel
theorem dX11_goesOn_210 : decode cX11_goesOn 210 = .ok (.aload_n 0, 1) := by decide +kernel
theorem dX11_goesOn_211 : decode cX11_goesOn 211 = .ok (.aload_n 0, 1) := by decide +kernel
theorem dX11_goesOn_212 : decode cX11_goesOn 212 = .ok (.getfield 63, 3) := by decide +kernel
theorem dX11_goesOn_215 : decode cX11_goesOn 215 = .ok (.aload_n 0, 1) := by decide +kernel
theorem dX11_goesOn_216 : decode cX11_goesOn 216 = .ok (.getfield 70, 3) := by decide +kernel
theorem dX11_goesOn_219 : decode cX11_goesOn 219 = .ok (.isub, 1) := by decide +kernel
theorem dX11_goesOn_220 : decode cX11_goesOn 220 = .ok (.iconst 3, 1) := by decide +kernel
theorem dX11_goesOn_221 : decode cX11_goesOn 221 = .ok (.if_icmp .le 7, 3) := by decide +kernel
theorem dX11_goesOn_224 : decode cX11_goesOn 224 = .ok (.iconst 1, 1) := by decide +kernel
theorem dX11_goesOn_225 : decode cX11_goesOn 225 = .ok (.goto 4, 3) := by decide +kernel
theorem dX11_goesOn_228 : decode cX11_goesOn 228 = .ok (.iconst 3, 1) := by decide +kernel
theorem dX11_goesOn_229 : decode cX11_goesOn 229 = .ok (.putfield 73, 3) := by decide +kernel
theorem dX11_goesOn_232 : decode cX11_goesOn 232 = .ok (.return_, 1) := by decide +kernel
theorem dX11_goesOn_233 : decode cX11_goesOn 233 = .ok (.aload_n 0, 1) := by decide +kernel
theorem dX11_goesOn_234 : decode cX11_goesOn 234 = .ok (.dup, 1) := by decide +kernel
theorem dX11_goesOn_235 : decode cX11_goesOn 235 = .ok (.getfield 63, 3) := by decide +kernel
theorem dX11_goesOn_238 : decode cX11_goesOn 238 = .ok (.iconst 1, 1) := by decide +kernel
theorem dX11_goesOn_239 : decode cX11_goesOn 239 = .ok (.iadd, 1) := by decide +kernel
theorem dX11_goesOn_240 : decode cX11_goesOn 240 = .ok (.putfield 63, 3) := by decide +kernel
theorem dX11_goesOn_243 : decode cX11_goesOn 243 = .ok (.aload_n 0, 1) := by decide +kernel
theorem dX11_goesOn_244 : decode cX11_goesOn 244 = .ok (.iload_n 1, 1) := by decide +kernel
theorem dX11_goesOn_245 : decode cX11_goesOn 245 = .ok (.bipush 59, 2) := by decide +kernel
theorem dX11_goesOn_247 : decode cX11_goesOn 247 = .ok (.if_icmp .ne 7, 3) := by decide +kernel
theorem dX11_goesOn_250 : decode cX11_goesOn 250 = .ok (.iload_n 1, 1) := by decide +kernel
theorem dX11_goesOn_251 : decode cX11_goesOn 251 = .ok (.goto 4, 3) := by decide +kernel
theorem dX11_goesOn_254 : decode cX11_goesOn 254 = .ok (.iconst 1, 1) := by decide +kernel
theorem dX11_goesOn_255 : decode cX11_goesOn 255 = .ok (.putfield 73, 3) := by decide +kernel
theorem dX11_goesOn_258 : decode cX11_goesOn 258 = .ok (.return_, 1) := by decide +kernel
def lX11_goesOn_0 : List (Nat × (Op ⊕ Nat)) := [(0, .inl (o_aload 0 1)), (1, .inl (o_aload 0 2)), (2, .inl (o_get 11 13 5)), (5, .inl (o_callV fX11_see 1 11 8)), (8, .inl (o_pushI (nI 32) 10)), (10, .inl (o_icmp_ne 26 13)), (13, .inl (o_aload 0 14)), (14, .inl (o_dup 15)), (15, .inl (o_get 11 13 18)), (18, .inl (o_pushI (nI 1) 19)), (19, .inl (o_iadd 20)), (20, .inl (o_putI 11 13 23)), (23, .inl (o_goto 0)), (26, .inl (o_aload 0 27)), (27, .inl (o_aload 0 28)), (28, .inl (o_get 11 13 31)), (31, .inl (o_putI 11 12 34)), (34, .inl (o_aload 0 35)), (35, .inl (o_aload 0 36)), (36, .inl (o_get 11 13 39)), (39, .inl (o_callV fX11_see 1 11 42)), (42, .inl (o_istore 1 43)), (43, .inl (o_iload 1 44)), (44, .inl (o_pushI ((-1)) 45)), (45, .inl (o_icmp_ne 54 48)), (48, .inl (o_aload 0 49)), (49, .inl (o_pushI (nI 0) 50)), (50, .inl (o_putI 11 14 53)), (53, .inr 3), (54, .inl (o_iload 1 55)), (55, .inl (o_pushI (nI 97) 57)), (57, .inl (o_pushI (nI 122) 59)), (59, .inl (o_callS fX11_in 3 62)), (62, .inl (o_if_eq 120 65)), (65, .inl (o_aload 0 66)), (66, .inl (o_aload 0 67)), (67, .inl (o_get 11 13 70)), (70, .inl (o_callV fX11_see 1 11 73)), (73, .inl (o_pushI (nI 97) 75)), (75, .inl (o_pushI (nI 122) 77))]
def lX11_goesOn_1 : List (Nat × (Op ⊕ Nat)) := [(77, .inl (o_callS fX11_in 3 80)), (80, .inl (o_if_eq 96 83)), (83, .inl (o_aload 0 84)), (84, .inl (o_dup 85)), (85, .inl (o_get 11 13 88)), (88, .inl (o_pushI (nI 1) 89)), (89, .inl (o_iadd 90)), (90, .inl (o_putI 11 13 93)), (93, .inl (o_goto 65)), (96, .inl (o_aload 0 97)), (97, .inl (o_aload 0 98)), (98, .inl (o_get 11 13 101)), (101, .inl (o_aload 0 102)), (102, .inl (o_get 11 12 105)), (105, .inl (o_isub 106)), (106, .inl (o_pushI (nI 7) 108)), (108, .inl (o_icmp_le 115 111)), (111, .inl (o_pushI (nI 1) 112)), (112, .inl (o_goto 116)), (115, .inl (o_pushI (nI 2) 116)), (116, .inl (o_putI 11 14 119)), (119, .inr 3), (120, .inl (o_iload 1 121)), (121, .inl (o_pushI (nI 48) 123)), (123, .inl (o_pushI (nI 57) 125)), (125, .inl (o_callS fX11_in 3 128)), (128, .inl (o_if_eq 233 131)), (131, .inl (o_aload 0 132)), (132, .inl (o_pushI (nI 0) 133)), (133, .inl (o_putI 11 15 136)), (136, .inl (o_aload 0 137)), (137, .inl (o_aload 0 138)), (138, .inl (o_get 11 13 141)), (141, .inl (o_callV fX11_see 1 11 144)), (144, .inl (o_pushI (nI 48) 146)), (146, .inl (o_pushI (nI 57) 148)), (148, .inl (o_callS fX11_in 3 151)), (151, .inl (o_if_eq 210 154)), (154, .inl (o_aload 0 155)), (155, .inl (o_aload 0 156))]
def lX11_goesOn_2 : List (Nat × (Op ⊕ Nat)) := [(156, .inl (o_get 11 13 159)), (159, .inl (o_aload 0 160)), (160, .inl (o_get 11 12 163)), (163, .inl (o_isub 164)), (164, .inl (o_pushI (nI 3) 165)), (165, .inl (o_icmp_ge 190 168)), (168, .inl (o_pushI (nI 10) 170)), (170, .inl (o_aload 0 171)), (171, .inl (o_get 11 15 174)), (174, .inl (o_imul 175)), (175, .inl (o_aload 0 176)), (176, .inl (o_aload 0 177)), (177, .inl (o_get 11 13 180)), (180, .inl (o_callV fX11_see 1 11 183)), (183, .inl (o_iadd 184)), (184, .inl (o_pushI (nI 48) 186)), (186, .inl (o_isub 187)), (187, .inl (o_goto 194)), (190, .inl (o_aload 0 191)), (191, .inl (o_get 11 15 194)), (194, .inl (o_putI 11 15 197)), (197, .inl (o_aload 0 198)), (198, .inl (o_dup 199)), (199, .inl (o_get 11 13 202)), (202, .inl (o_pushI (nI 1) 203)), (203, .inl (o_iadd 204)), (204, .inl (o_putI 11 13 207)), (207, .inl (o_goto 136)), (210, .inl (o_aload 0 211)), (211, .inl (o_aload 0 212)), (212, .inl (o_get 11 13 215)), (215, .inl (o_aload 0 216)), (216, .inl (o_get 11 12 219)), (219, .inl (o_isub 220)), (220, .inl (o_pushI (nI 3) 221)), (221, .inl (o_icmp_le 228 224)), (224, .inl (o_pushI (nI 1) 225)), (225, .inl (o_goto 229)), (228, .inl (o_pushI (nI 3) 229)), (229, .inl (o_putI 11 14 232))]
def lX11_goesOn_3 : List (Nat × (Op ⊕ Nat)) := [(232, .inr 3), (233, .inl (o_aload 0 234)), (234, .inl (o_dup 235)), (235, .inl (o_get 11 13 238)), (238, .inl (o_pushI (nI 1) 239)), (239, .inl (o_iadd 240)), (240, .inl (o_putI 11 13 243)), (243, .inl (o_aload 0 244)), (244, .inl (o_iload 1 245)), (245, .inl (o_pushI (nI 59) 247)), (247, .inl (o_icmp_ne 254 250)), (250, .inl (o_iload 1 251)), (251, .inl (o_goto 255)), (254, .inl (o_pushI (nI 1) 255)), (255, .inl (o_putI 11 14 258)), (258, .inr 3)]
def lX11_goesOn : List (Nat × (Op ⊕ Nat)) := lX11_goesOn_0 ++ (lX11_goesOn_1 ++ (lX11_goesOn_2 ++ (lX11_goesOn_3)))
theorem qX11_goesOn : yX11_goesOn.cls = RX11 ∧ yX11_goesOn.cls ≠ "java/lang/invoke/MethodHandle" ∧ yX11_goesOn.cls ≠ "java/lang/invoke/VarHandle" ∧ (parseMethodDescriptor yX11_goesOn.desc).map (fun d => d.parameters.length) = some 0 := by decide +kernel
set_option maxRecDepth 10000 in
theorem hX11_goesOn_0 (l : Launch) {p : Program} {e : Env} {s : State} {m : MethodId} {args : Array Value} {below : List Frame} {meth : Method} {c : Code} {D : va_G} {ad adV : Nat → Nat} {cA : Nat → ClassId} {K : Kt} (C0 : Cx p s m args meth c D ad adV cA cX11_goesOn 2 RX11) (hr : meth.sig.returnType = none) : ∀ q ∈ lX11_goesOn_0, Sd p l e (rmd 1) s m args below meth c (MQ below (QQ D ad cA K) args s 0 0 (AA ad)) D ad cA 2 q.1 (opOf K q.2) := List.forall_mem_cons.mpr ⟨s_aload_n C0 dX11_goesOn_0 rfl, List.forall_mem_cons.mpr ⟨s_aload_n C0 dX11_goesOn_1 rfl, List.forall_mem_cons.mpr ⟨s_get (ci := 11) (k := 13) C0 dX11_goesOn_2 inX11 rfl (by decide) tw6_24, List.forall_mem_cons.mpr ⟨s_callV (ci := 11) C0 (kX11_see l) dX11_goesOn_5 rfl qX11_see tw6_130 tw6_132 twp_44 tw1_12 tw6_133 rfl (by decide) (by decide), List.forall_mem_cons.mpr ⟨s_bipush C0 dX11_goesOn_8 (by decide +kernel), List.forall_mem_cons.mpr ⟨s_icmp_ne C0 dX11_goesOn_10 rfl, List.forall_mem_cons.mpr ⟨s_aload_n C0 dX11_goesOn_13 rfl, List.forall_mem_cons.mpr ⟨s_dup C0 dX11_goesOn_14, List.forall_mem_cons.mpr ⟨s_get (ci := 11) (k := 13) C0 dX11_goesOn_15 inX11 rfl (by decide) tw6_24, List.forall_mem_cons.mpr ⟨s_iconst C0 dX11_goesOn_18 rfl, List.forall_mem_cons.mpr ⟨s_iadd C0 dX11_goesOn_19, List.forall_mem_cons.mpr ⟨s_putI (ci := 11) (k := 13) C0 dX11_goesOn_20 inX11 tyX11_ok nmX11 rfl (by decide) rfl rfl tw6_24, List.forall_mem_cons.mpr ⟨s_goto C0 dX11_goesOn_23 rfl, List.forall_mem_cons.mpr ⟨s_aload_n C0 dX11_goesOn_26 rfl, List.forall_mem_cons.mpr ⟨s_aload_n C0 dX11_goesOn_27 rfl, List.forall_mem_cons.mpr ⟨s_get (ci := 11) (k := 13) C0 dX11_goesOn_28 inX11 rfl (by decide) tw6_24, List.forall_mem_cons.mpr ⟨s_putI (ci := 11) (k := 12) C0 dX11_goesOn_31 inX11 tyX11_ok nmX11 rfl (by decide) rfl rfl tw6_23, List.forall_mem_cons.mpr ⟨s_aload_n C0 dX11_goesOn_34 rfl, List.forall_mem_cons.mpr ⟨s_aload_n C0 dX11_goesOn_35 rfl, List.forall_mem_cons.mpr ⟨s_get (ci := 11) (k := 13) C0 dX11_goesOn_36 inX11 rfl (by decide) tw6_24, List.forall_mem_cons.mpr ⟨s_callV (ci := 11) C0 (kX11_see l) dX11_goesOn_39 rfl qX11_see tw6_130 tw6_132 twp_44 tw1_12 tw6_133 rfl (by decide) (by decide), List.forall_mem_cons.mpr ⟨s_istore_n C0 dX11_goesOn_42 rfl (by decide), List.forall_mem_cons.mpr ⟨s_iload_n C0 dX11_goesOn_43 rfl, List.forall_mem_cons.mpr ⟨s_iconst C0 dX11_goesOn_44 rfl, List.forall_mem_cons.mpr ⟨s_icmp_ne C0 dX11_goesOn_45 rfl, List.forall_mem_cons.mpr ⟨s_aload_n C0 dX11_goesOn_48 rfl, List.forall_mem_cons.mpr ⟨s_iconst C0 dX11_goesOn_49 rfl, List.forall_mem_cons.mpr ⟨s_putI (ci := 11) (k := 14) C0 dX11_goesOn_50 inX11 tyX11_ok nmX11 rfl (by decide) rfl rfl tw6_25, List.forall_mem_cons.mpr ⟨s_vret C0 hr dX11_goesOn_53, List.forall_mem_cons.mpr ⟨s_iload_n C0 dX11_goesOn_54 rfl, List.forall_mem_cons.mpr ⟨s_bipush C0 dX11_goesOn_55 (by decide +kernel), List.forall_mem_cons.mpr ⟨s_bipush C0 dX11_goesOn_57 (by decide +kernel), List.forall_mem_cons.mpr ⟨s_callS C0 (kX11_in l) dX11_goesOn_59 qX11_in tw6_112 tw6_113 tw1_12 tw6_114 rfl (by decide) (by decide), List.forall_mem_cons.mpr ⟨s_if_eq C0 dX11_goesOn_62 rfl, List.forall_mem_cons.mpr ⟨s_aload_n C0 dX11_goesOn_65 rfl, List.forall_mem_cons.mpr ⟨s_aload_n C0 dX11_goesOn_66 rfl, List.forall_mem_cons.mpr ⟨s_get (ci := 11) (k := 13) C0 dX11_goesOn_67 inX11 rfl (by decide) tw6_24, List.forall_mem_cons.mpr ⟨s_callV (ci := 11) C0 (kX11_see l) dX11_goesOn_70 rfl qX11_see tw6_130 tw6_132 twp_44 tw1_12 tw6_133 rfl (by decide) (by decide), List.forall_mem_cons.mpr ⟨s_bipush C0 dX11_goesOn_73 (by decide +kernel), List.forall_mem_cons.mpr ⟨s_bipush C0 dX11_goesOn_75 (by decide +kernel), fun _ h => absurd h List.not_mem_nil⟩⟩⟩⟩⟩⟩⟩⟩⟩⟩⟩⟩⟩⟩⟩⟩⟩⟩⟩⟩⟩⟩⟩⟩⟩⟩⟩⟩⟩⟩⟩⟩⟩⟩⟩⟩⟩⟩⟩⟩
set_option maxRecDepth 10000 in
theorem hX11_goesOn_1 (l : Launch) {p : Program} {e : Env} {s : State} {m : MethodId} {args : Array Value} {below : List Frame} {meth : Method} {c : Code} {D : va_G} {ad adV : Nat → Nat} {cA : Nat → ClassId} {K : Kt} (C0 : Cx p s m args meth c D ad adV cA cX11_goesOn 2 RX11) (hr : meth.sig.returnType = none) : ∀ q ∈ lX11_goesOn_1, Sd p l e (rmd 1) s m args below meth c (MQ below (QQ D ad cA K) args s 0 0 (AA ad)) D ad cA 2 q.1 (opOf K q.2) := List.forall_mem_cons.mpr ⟨s_callS C0 (kX11_in l) dX11_goesOn_77 qX11_in tw6_112 tw6_113 tw1_12 tw6_114 rfl (by decide) (by decide), List.forall_mem_cons.mpr ⟨s_if_eq C0 dX11_goesOn_80 rfl, List.forall_mem_cons.mpr ⟨s_aload_n C0 dX11_goesOn_83 rfl, List.forall_mem_cons.mpr ⟨s_dup C0 dX11_goesOn_84, List.forall_mem_cons.mpr ⟨s_get (ci := 11) (k := 13) C0 dX11_goesOn_85 inX11 rfl (by decide) tw6_24, List.forall_mem_cons.mpr ⟨s_iconst C0 dX11_goesOn_88 rfl, List.forall_mem_cons.mpr ⟨s_iadd C0 dX11_goesOn_89, List.forall_mem_cons.mpr ⟨s_putI (ci := 11) (k := 13) C0 dX11_goesOn_90 inX11 tyX11_ok nmX11 rfl (by decide) rfl rfl tw6_24, List.forall_mem_cons.mpr ⟨s_goto C0 dX11_goesOn_93 rfl, List.forall_mem_cons.mpr ⟨s_aload_n C0 dX11_goesOn_96 rfl, List.forall_mem_cons.mpr ⟨s_aload_n C0 dX11_goesOn_97 rfl, List.forall_mem_cons.mpr ⟨s_get (ci := 11) (k := 13) C0 dX11_goesOn_98 inX11 rfl (by decide) tw6_24, List.forall_mem_cons.mpr ⟨s_aload_n C0 dX11_goesOn_101 rfl, List.forall_mem_cons.mpr ⟨s_get (ci := 11) (k := 12) C0 dX11_goesOn_102 inX11 rfl (by decide) tw6_23, List.forall_mem_cons.mpr ⟨s_isub C0 dX11_goesOn_105, List.forall_mem_cons.mpr ⟨s_bipush C0 dX11_goesOn_106 (by decide +kernel), List.forall_mem_cons.mpr ⟨s_icmp_le C0 dX11_goesOn_108 rfl, List.forall_mem_cons.mpr ⟨s_iconst C0 dX11_goesOn_111 rfl, List.forall_mem_cons.mpr ⟨s_goto C0 dX11_goesOn_112 rfl, List.forall_mem_cons.mpr ⟨s_iconst C0 dX11_goesOn_115 rfl, List.forall_mem_cons.mpr ⟨s_putI (ci := 11) (k := 14) C0 dX11_goesOn_116 inX11 tyX11_ok nmX11 rfl (by decide) rfl rfl tw6_25, List.forall_mem_cons.mpr ⟨s_vret C0 hr dX11_goesOn_119, List.forall_mem_cons.mpr ⟨s_iload_n C0 dX11_goesOn_120 rfl, List.forall_mem_cons.mpr ⟨s_bipush C0 dX11_goesOn_121 (by decide +kernel), List.forall_mem_cons.mpr ⟨s_bipush C0 dX11_goesOn_123 (by decide +kernel), List.forall_mem_cons.mpr ⟨s_callS C0 (kX11_in l) dX11_goesOn_125 qX11_in tw6_112 tw6_113 tw1_12 tw6_114 rfl (by decide) (by decide), List.forall_mem_cons.mpr ⟨s_if_eq C0 dX11_goesOn_128 rfl, List.forall_mem_cons.mpr ⟨s_aload_n C0 dX11_goesOn_131 rfl, List.forall_mem_cons.mpr ⟨s_iconst C0 dX11_goesOn_132 rfl, List.forall_mem_cons.mpr ⟨s_putI (ci := 11) (k := 15) C0 dX11_goesOn_133 inX11 tyX11_ok nmX11 rfl (by decide) rfl rfl tw6_26, List.forall_mem_cons.mpr ⟨s_aload_n C0 dX11_goesOn_136 rfl, List.forall_mem_cons.mpr ⟨s_aload_n C0 dX11_goesOn_137 rfl, List.forall_mem_cons.mpr ⟨s_get (ci := 11) (k := 13) C0 dX11_goesOn_138 inX11 rfl (by decide) tw6_24, List.forall_mem_cons.mpr ⟨s_callV (ci := 11) C0 (kX11_see l) dX11_goesOn_141 rfl qX11_see tw6_130 tw6_132 twp_44 tw1_12 tw6_133 rfl (by decide) (by decide), List.forall_mem_cons.mpr ⟨s_bipush C0 dX11_goesOn_144 (by decide +kernel), List.forall_mem_cons.mpr ⟨s_bipush C0 dX11_goesOn_146 (by decide +kernel), List.forall_mem_cons.mpr ⟨s_callS C0 (kX11_in l) dX11_goesOn_148 qX11_in tw6_112 tw6_113 tw1_12 tw6_114 rfl (by decide) (by decide), List.forall_mem_cons.mpr ⟨s_if_eq C0 dX11_goesOn_151 rfl, List.forall_mem_cons.mpr ⟨s_aload_n C0 dX11_goesOn_154 rfl, List.forall_mem_cons.mpr ⟨s_aload_n C0 dX11_goesOn_155 rfl, fun _ h => absurd h List.not_mem_nil⟩⟩⟩⟩⟩⟩⟩⟩⟩⟩⟩⟩⟩⟩⟩⟩⟩⟩⟩⟩⟩⟩⟩⟩⟩⟩⟩⟩⟩⟩⟩⟩⟩⟩⟩⟩⟩⟩⟩⟩
set_option maxRecDepth 10000 in
theorem hX11_goesOn_2 (l : Launch) {p : Program} {e : Env} {s : State} {m : MethodId} {args : Array Value} {below : List Frame} {meth : Method} {c : Code} {D : va_G} {ad adV : Nat → Nat} {cA : Nat → ClassId} {K : Kt} (C0 : Cx p s m args meth c D ad adV cA cX11_goesOn 2 RX11) (hr : meth.sig.returnType = none) : ∀ q ∈ lX11_goesOn_2, Sd p l e (rmd 1) s m args below meth c (MQ below (QQ D ad cA K) args s 0 0 (AA ad)) D ad cA 2 q.1 (opOf K q.2) := List.forall_mem_cons.mpr ⟨s_get (ci := 11) (k := 13) C0 dX11_goesOn_156 inX11 rfl (by decide) tw6_24, List.forall_mem_cons.mpr ⟨s_aload_n C0 dX11_goesOn_159 rfl, List.forall_mem_cons.mpr ⟨s_get (ci := 11) (k := 12) C0 dX11_goesOn_160 inX11 rfl (by decide) tw6_23, List.forall_mem_cons.mpr ⟨s_isub C0 dX11_goesOn_163, List.forall_mem_cons.mpr ⟨s_iconst C0 dX11_goesOn_164 rfl, List.forall_mem_cons.mpr ⟨s_icmp_ge C0 dX11_goesOn_165 rfl, List.forall_mem_cons.mpr ⟨s_bipush C0 dX11_goesOn_168 (by decide +kernel), List.forall_mem_cons.mpr ⟨s_aload_n C0 dX11_goesOn_170 rfl, List.forall_mem_cons.mpr ⟨s_get (ci := 11) (k := 15) C0 dX11_goesOn_171 inX11 rfl (by decide) tw6_26, List.forall_mem_cons.mpr ⟨s_imul C0 dX11_goesOn_174, List.forall_mem_cons.mpr ⟨s_aload_n C0 dX11_goesOn_175 rfl, List.forall_mem_cons.mpr ⟨s_aload_n C0 dX11_goesOn_176 rfl, List.forall_mem_cons.mpr ⟨s_get (ci := 11) (k := 13) C0 dX11_goesOn_177 inX11 rfl (by decide) tw6_24, List.forall_mem_cons.mpr ⟨s_callV (ci := 11) C0 (kX11_see l) dX11_goesOn_180 rfl qX11_see tw6_130 tw6_132 twp_44 tw1_12 tw6_133 rfl (by decide) (by decide), List.forall_mem_cons.mpr ⟨s_iadd C0 dX11_goesOn_183, List.forall_mem_cons.mpr ⟨s_bipush C0 dX11_goesOn_184 (by decide +kernel), List.forall_mem_cons.mpr ⟨s_isub C0 dX11_goesOn_186, List.forall_mem_cons.mpr ⟨s_goto C0 dX11_goesOn_187 rfl, List.forall_mem_cons.mpr ⟨s_aload_n C0 dX11_goesOn_190 rfl, List.forall_mem_cons.mpr ⟨s_get (ci := 11) (k := 15) C0 dX11_goesOn_191 inX11 rfl (by decide) tw6_26, List.forall_mem_cons.mpr ⟨s_putI (ci := 11) (k := 15) C0 dX11_goesOn_194 inX11 tyX11_ok nmX11 rfl (by decide) rfl rfl tw6_26, List.forall_mem_cons.mpr ⟨s_aload_n C0 dX11_goesOn_197 rfl, List.forall_mem_cons.mpr ⟨s_dup C0 dX11_goesOn_198, List.forall_mem_cons.mpr ⟨s_get (ci := 11) (k := 13) C0 dX11_goesOn_199 inX11 rfl (by decide) tw6_24, List.forall_mem_cons.mpr ⟨s_iconst C0 dX11_goesOn_202 rfl, List.forall_mem_cons.mpr ⟨s_iadd C0 dX11_goesOn_203, List.forall_mem_cons.mpr ⟨s_putI (ci := 11) (k := 13) C0 dX11_goesOn_204 inX11 tyX11_ok nmX11 rfl (by decide) rfl rfl tw6_24, List.forall_mem_cons.mpr ⟨s_goto C0 dX11_goesOn_207 rfl, List.forall_mem_cons.mpr ⟨s_aload_n C0 dX11_goesOn_210 rfl, List.forall_mem_cons.mpr ⟨s_aload_n C0 dX11_goesOn_211 rfl, List.forall_mem_cons.mpr ⟨s_get (ci := 11) (k := 13) C0 dX11_goesOn_212 inX11 rfl (by decide) tw6_24, List.forall_mem_cons.mpr ⟨s_aload_n C0 dX11_goesOn_215 rfl, List.forall_mem_cons.mpr ⟨s_get (ci := 11) (k := 12) C0 dX11_goesOn_216 inX11 rfl (by decide) tw6_23, List.forall_mem_cons.mpr ⟨s_isub C0 dX11_goesOn_219, List.forall_mem_cons.mpr ⟨s_iconst C0 dX11_goesOn_220 rfl, List.forall_mem_cons.mpr ⟨s_icmp_le C0 dX11_goesOn_221 rfl, List.forall_mem_cons.mpr ⟨s_iconst C0 dX11_goesOn_224 rfl, List.forall_mem_cons.mpr ⟨s_goto C0 dX11_goesOn_225 rfl, List.forall_mem_cons.mpr ⟨s_iconst C0 dX11_goesOn_228 rfl, List.forall_mem_cons.mpr ⟨s_putI (ci := 11) (k := 14) C0 dX11_goesOn_229 inX11 tyX11_ok nmX11 rfl (by decide) rfl rfl tw6_25, fun _ h => absurd h List.not_mem_nil⟩⟩⟩⟩⟩⟩⟩⟩⟩⟩⟩⟩⟩⟩⟩⟩⟩⟩⟩⟩⟩⟩⟩⟩⟩⟩⟩⟩⟩⟩⟩⟩⟩⟩⟩⟩⟩⟩⟩⟩
set_option maxRecDepth 10000 in
theorem hX11_goesOn_3 (l : Launch) {p : Program} {e : Env} {s : State} {m : MethodId} {args : Array Value} {below : List Frame} {meth : Method} {c : Code} {D : va_G} {ad adV : Nat → Nat} {cA : Nat → ClassId} {K : Kt} (C0 : Cx p s m args meth c D ad adV cA cX11_goesOn 2 RX11) (hr : meth.sig.returnType = none) : ∀ q ∈ lX11_goesOn_3, Sd p l e (rmd 1) s m args below meth c (MQ below (QQ D ad cA K) args s 0 0 (AA ad)) D ad cA 2 q.1 (opOf K q.2) := List.forall_mem_cons.mpr ⟨s_vret C0 hr dX11_goesOn_232, List.forall_mem_cons.mpr ⟨s_aload_n C0 dX11_goesOn_233 rfl, List.forall_mem_cons.mpr ⟨s_dup C0 dX11_goesOn_234, List.forall_mem_cons.mpr ⟨s_get (ci := 11) (k := 13) C0 dX11_goesOn_235 inX11 rfl (by decide) tw6_24, List.forall_mem_cons.mpr ⟨s_iconst C0 dX11_goesOn_238 rfl, List.forall_mem_cons.mpr ⟨s_iadd C0 dX11_goesOn_239, List.forall_mem_cons.mpr ⟨s_putI (ci := 11) (k := 13) C0 dX11_goesOn_240 inX11 tyX11_ok nmX11 rfl (by decide) rfl rfl tw6_24, List.forall_mem_cons.mpr ⟨s_aload_n C0 dX11_goesOn_243 rfl, List.forall_mem_cons.mpr ⟨s_iload_n C0 dX11_goesOn_244 rfl, List.forall_mem_cons.mpr ⟨s_bipush C0 dX11_goesOn_245 (by decide +kernel), List.forall_mem_cons.mpr ⟨s_icmp_ne C0 dX11_goesOn_247 rfl, List.forall_mem_cons.mpr ⟨s_iload_n C0 dX11_goesOn_250 rfl, List.forall_mem_cons.mpr ⟨s_goto C0 dX11_goesOn_251 rfl, List.forall_mem_cons.mpr ⟨s_iconst C0 dX11_goesOn_254 rfl, List.forall_mem_cons.mpr ⟨s_putI (ci := 11) (k := 14) C0 dX11_goesOn_255 inX11 tyX11_ok nmX11 rfl (by decide) rfl rfl tw6_25, List.forall_mem_cons.mpr ⟨s_vret C0 hr dX11_goesOn_258, fun _ h => absurd h List.not_mem_nil⟩⟩⟩⟩⟩⟩⟩⟩⟩⟩⟩⟩⟩⟩⟩⟩
def fX11_goesOn : Mf := mf 2 (fun K => tl K lX11_goesOn)
theorem kX11_goesOn (l : Launch) : Okm l yX11_goesOn cX11_goesOn 2 none 1 fX11_goesOn := Okm_tl (own := RX11) (by decide +kernel) rfl (fun C0 hr => List.forall_mem_append.mpr ⟨hX11_goesOn_0 l C0 hr, List.forall_mem_append.mpr ⟨hX11_goesOn_1 l C0 hr, List.forall_mem_append.mpr ⟨hX11_goesOn_2 l C0 hr, hX11_goesOn_3 l C0 hr⟩⟩⟩)
theorem dX11_isWord_0 : decode cX11_isWord 0 = .ok (.aload_n 0, 1) := by decide +kernel
theorem dX11_isWord_1 : decode cX11_isWord 1 = .ok (.getfield 73, 3) := by decide +kernel
theorem dX11_isWord_4 : decode cX11_isWord 4 = .ok (.iconst 2, 1) := by decide +kernel
theorem dX11_isWord_5 : decode cX11_isWord 5 = .ok (.if_icmp .ne 19, 3) := by decide +kernel
theorem dX11_isWord_8 : decode cX11_isWord 8 = .ok (.aload_n 0, 1) := by decide +kernel
theorem dX11_isWord_9 : decode cX11_isWord 9 = .ok (.getfield 63, 3) := by decide +kernel
theorem dX11_isWord_12 : decode cX11_isWord 12 = .ok (.aload_n 0, 1) := by decide +kernel
theorem dX11_isWord_13 : decode cX11_isWord 13 = .ok (.getfield 70, 3) := by decide +kernel
theorem dX11_isWord_16 : decode cX11_isWord 16 = .ok (.isub, 1) := by decide +kernel
theorem dX11_isWord_17 : decode cX11_isWord 17 = .ok (.aload_n 1, 1) := by decide +kernel
theorem dX11_isWord_18 : decode cX11_isWord 18 = .ok (.invokevirtual 83, 3) := by decide +kernel
theorem dX11_isWord_21 : decode cX11_isWord 21 = .ok (.if_icmp .eq 5, 3) := by decide +kernel
theorem dX11_isWord_24 : decode cX11_isWord 24 = .ok (.iconst 0, 1) := by decide +kernel
theorem dX11_isWord_25 : decode cX11_isWord 25 = .ok (.ireturn, 1) := by decide +kernel
theorem dX11_isWord_26 : decode cX11_isWord 26 = .ok (.iconst 0, 1) := by decide +kernel
theorem dX11_isWord_27 : decode cX11_isWord 27 = .ok (.istore_n 2, 1) := by decide +kernel
theorem dX11_isWord_28 : decode cX11_isWord 28 = .ok (.iload_n 2, 1) := by decide +kernel
theorem dX11_isWord_29 : decode cX11_isWord 29 = .ok (.aload_n 1, 1) := by decide +kernel
theorem dX11_isWord_30 : decode cX11_isWord 30 = .ok (.invokevirtual 83, 3) := by decide +kernel
theorem dX11_isWord_33 : decode cX11_isWord 33 = .ok (.if_icmp .ge 30, 3) := by decide +kernel
theorem dX11_isWord_36 : decode cX11_isWord 36 = .ok (.aload_n 0, 1) := by decide +kernel
theorem dX11_isWord_37 : decode cX11_isWord 37 = .ok (.getfield 13, 3) := by decide +kernel
theorem dX11_isWord_40 : decode cX11_isWord 40 = .ok (.aload_n 0, 1) := by decide +kernel
theorem dX11_isWord_41 : decode cX11_isWord 41 = .ok (.getfield 70, 3) := by decide +kernel
theorem dX11_isWord_44 : decode cX11_isWord 44 = .ok (.iload_n 2, 1) := by decide +kernel
theorem dX11_isWord_45 : decode cX11_isWord 45 = .ok (.iadd, 1) := by decide +kernel
theorem dX11_isWord_46 : decode cX11_isWord 46 = .ok (.iaload, 1) := by decide +kernel
theorem dX11_isWord_47 : decode cX11_isWord 47 = .ok (.aload_n 1, 1) := by decide +kernel
theorem dX11_isWord_48 : decode cX11_isWord 48 = .ok (.iload_n 2, 1) := by decide +kernel
theorem dX11_isWord_49 : decode cX11_isWord 49 = .ok (.invokevirtual 89, 3) := by decide +kernel
theorem dX11_isWord_52 : decode cX11_isWord 52 = .ok (.if_icmp .eq 5, 3) := by decide +kernel
theorem dX11_isWord_55 : decode cX11_isWord 55 = .ok (.iconst 0, 1) := by decide +kernel
theorem dX11_isWord_56 : decode cX11_isWord 56 = .ok (.ireturn, 1) := by decide +kernel
theorem dX11_isWord_57 : decode cX11_isWord 57 = .ok (.iinc 2 1, 3) := by decide +kernel
theorem dX11_isWord_60 : decode cX11_isWord 60 = .ok (.goto (-32), 3) := by decide +kernel
theorem dX11_isWord_63 : decode cX11_isWord 63 = .ok (.iconst 1, 1) := by decide +kernel
theorem dX11_isWord_64 : decode cX11_isWord 64 = .ok (.ireturn, 1) := by decide +kernel
def lX11_isWord : List (Nat × (Op ⊕ Nat)) := [(0, .inl (o_aload 0 1)), (1, .inl (o_get 11 14 4)), (4, .inl (o_pushI (nI 2) 5)), (5, .inl (o_icmp_ne 24 8)), (8, .inl (o_aload 0 9)), (9, .inl (o_get 11 13 12)), (12, .inl (o_aload 0 13)), (13, .inl (o_get 11 12 16)), (16, .inl (o_isub 17)), (17, .inl (o_aload 1 18)), (18, .inl (o_callT fJ0_length_8abf5 0 21)), (21, .inl (o_icmp_eq 26 24)), (24, .inl (o_pushI (nI 0) 25)), (25, .inr 1), (26, .inl (o_pushI (nI 0) 27)), (27, .inl (o_istore 2 28)), (28, .inl (o_iload 2 29)), (29, .inl (o_aload 1 30)), (30, .inl (o_callT fJ0_length_8abf5 0 33)), (33, .inl (o_icmp_ge 63 36)), (36, .inl (o_aload 0 37)), (37, .inl (o_get 11 4 40)), (40, .inl (o_aload 0 41)), (41, .inl (o_get 11 12 44)), (44, .inl (o_iload 2 45)), (45, .inl (o_iadd 46)), (46, .inl (o_iald 47)), (47, .inl (o_aload 1 48)), (48, .inl (o_iload 2 49)), (49, .inl (o_callT fJ0_charAt_5068e 1 52)), (52, .inl (o_icmp_eq 57 55)), (55, .inl (o_pushI (nI 0) 56)), (56, .inr 1), (57, .inl (o_iinc 2 (nI 1) 60)), (60, .inl (o_goto 28)), (63, .inl (o_pushI (nI 1) 64)), (64, .inr 1)]
theorem qX11_isWord : yX11_isWord.cls = RX11 ∧ yX11_isWord.cls ≠ "java/lang/invoke/MethodHandle" ∧ yX11_isWord.cls ≠ "java/lang/invoke/VarHandle" ∧ (parseMethodDescriptor yX11_isWord.desc).map (fun d => d.parameters.length) = some 1 := by decide +kernel
set_option maxRecDepth 10000 in
theorem hX11_isWord_0 (l : Launch) {p : Program} {e : Env} {s : State} {m : MethodId} {args : Array Value} {below : List Frame} {meth : Method} {c : Code} {D : va_G} {ad adV : Nat → Nat} {cA : Nat → ClassId} {K : Kt} (C0 : Cx p s m args meth c D ad adV cA cX11_isWord 3 RX11) (hr : meth.sig.returnType = (some .boolean)) : ∀ q ∈ lX11_isWord, Sd p l e (rmd 5) s m args below meth c (MQ below (QQ D ad cA K) args s 0 0 (AA ad)) D ad cA 3 q.1 (opOf K q.2) := List.forall_mem_cons.mpr ⟨s_aload_n C0 dX11_isWord_0 rfl, List.forall_mem_cons.mpr ⟨s_get (ci := 11) (k := 14) C0 dX11_isWord_1 inX11 rfl (by decide) tw6_25, List.forall_mem_cons.mpr ⟨s_iconst C0 dX11_isWord_4 rfl, List.forall_mem_cons.mpr ⟨s_icmp_ne C0 dX11_isWord_5 rfl, List.forall_mem_cons.mpr ⟨s_aload_n C0 dX11_isWord_8 rfl, List.forall_mem_cons.mpr ⟨s_get (ci := 11) (k := 13) C0 dX11_isWord_9 inX11 rfl (by decide) tw6_24, List.forall_mem_cons.mpr ⟨s_aload_n C0 dX11_isWord_12 rfl, List.forall_mem_cons.mpr ⟨s_get (ci := 11) (k := 12) C0 dX11_isWord_13 inX11 rfl (by decide) tw6_23, List.forall_mem_cons.mpr ⟨s_isub C0 dX11_isWord_16, List.forall_mem_cons.mpr ⟨s_aload_n C0 dX11_isWord_17 rfl, List.forall_mem_cons.mpr ⟨s_callT C0 (kJ0_length_8abf5 l) dX11_isWord_18 qJ0_length_8abf5 tw6_143 tw2_228 tw2_229 tw1_15 tw2_230 rfl (by decide) (by decide), List.forall_mem_cons.mpr ⟨s_icmp_eq C0 dX11_isWord_21 rfl, List.forall_mem_cons.mpr ⟨s_iconst C0 dX11_isWord_24 rfl, List.forall_mem_cons.mpr ⟨s_zret C0 hr dX11_isWord_25, List.forall_mem_cons.mpr ⟨s_iconst C0 dX11_isWord_26 rfl, List.forall_mem_cons.mpr ⟨s_istore_n C0 dX11_isWord_27 rfl (by decide), List.forall_mem_cons.mpr ⟨s_iload_n C0 dX11_isWord_28 rfl, List.forall_mem_cons.mpr ⟨s_aload_n C0 dX11_isWord_29 rfl, List.forall_mem_cons.mpr ⟨s_callT C0 (kJ0_length_8abf5 l) dX11_isWord_30 qJ0_length_8abf5 tw6_143 tw2_228 tw2_229 tw1_15 tw2_230 rfl (by decide) (by decide), List.forall_mem_cons.mpr ⟨s_icmp_ge C0 dX11_isWord_33 rfl, List.forall_mem_cons.mpr ⟨s_aload_n C0 dX11_isWord_36 rfl, List.forall_mem_cons.mpr ⟨s_get (ci := 11) (k := 4) C0 dX11_isWord_37 inX11 rfl (by decide) tw6_15, List.forall_mem_cons.mpr ⟨s_aload_n C0 dX11_isWord_40 rfl, List.forall_mem_cons.mpr ⟨s_get (ci := 11) (k := 12) C0 dX11_isWord_41 inX11 rfl (by decide) tw6_23, List.forall_mem_cons.mpr ⟨s_iload_n C0 dX11_isWord_44 rfl, List.forall_mem_cons.mpr ⟨s_iadd C0 dX11_isWord_45, List.forall_mem_cons.mpr ⟨s_iald C0 dX11_isWord_46, List.forall_mem_cons.mpr ⟨s_aload_n C0 dX11_isWord_47 rfl, List.forall_mem_cons.mpr ⟨s_iload_n C0 dX11_isWord_48 rfl, List.forall_mem_cons.mpr ⟨s_callT C0 (kJ0_charAt_5068e l) dX11_isWord_49 qJ0_charAt_5068e tw6_144 tw2_238 tw2_239 tw1_15 tw3_0 rfl (by decide) (by decide), List.forall_mem_cons.mpr ⟨s_icmp_eq C0 dX11_isWord_52 rfl, List.forall_mem_cons.mpr ⟨s_iconst C0 dX11_isWord_55 rfl, List.forall_mem_cons.mpr ⟨s_zret C0 hr dX11_isWord_56, List.forall_mem_cons.mpr ⟨s_iinc C0 dX11_isWord_57 rfl (by decide), List.forall_mem_cons.mpr ⟨s_goto C0 dX11_isWord_60 rfl, List.forall_mem_cons.mpr ⟨s_iconst C0 dX11_isWord_63 rfl, List.forall_mem_cons.mpr ⟨s_zret C0 hr dX11_isWord_64, fun _ h => absurd h List.not_mem_nil⟩⟩⟩⟩⟩⟩⟩⟩⟩⟩⟩⟩⟩⟩⟩⟩⟩⟩⟩⟩⟩⟩⟩⟩⟩⟩⟩⟩⟩⟩⟩⟩⟩⟩⟩⟩⟩
def fX11_isWord : Mf := mf 3 (fun K => tl K lX11_isWord)
theorem kX11_isWord (l : Launch) : Okm l yX11_isWord cX11_isWord 3 (some .boolean) 5 fX11_isWord := Okm_tl (own := RX11) (by decide +kernel) rfl (fun C0 hr => hX11_isWord_0 l C0 hr)
theorem dX11_errs_0 : decode cX11_errs 0 = .ok (.aload_n 0, 1) := by decide +kernel
theorem dX11_errs_1 : decode cX11_errs 1 = .ok (.iload_n 1, 1) := by decide +kernel
theorem dX11_errs_2 : decode cX11_errs 2 = .ok (.putfield 93, 3) := by decide +kernel
theorem dX11_errs_5 : decode cX11_errs 5 = .ok (.aload_n 0, 1) := by decide +kernel
theorem dX11_errs_6 : decode cX11_errs 6 = .ok (.aload_n 0, 1) := by decide +kernel
theorem dX11_errs_7 : decode cX11_errs 7 = .ok (.getfield 70, 3) := by decide +kernel
theorem dX11_errs_10 : decode cX11_errs 10 = .ok (.putfield 96, 3) := by decide +kernel
theorem dX11_errs_13 : decode cX11_errs 13 = .ok (.iconst 0, 1) := by decide +kernel
theorem dX11_errs_14 : decode cX11_errs 14 = .ok (.ireturn, 1) := by decide +kernel
def lX11_errs : List (Nat × (Op ⊕ Nat)) := [(0, .inl (o_aload 0 1)), (1, .inl (o_iload 1 2)), (2, .inl (o_putI 11 17 5)), (5, .inl (o_aload 0 6)), (6, .inl (o_aload 0 7)), (7, .inl (o_get 11 12 10)), (10, .inl (o_putI 11 18 13)), (13, .inl (o_pushI (nI 0) 14)), (14, .inr 1)]
theorem qX11_errs : yX11_errs.cls = RX11 ∧ yX11_errs.cls ≠ "java/lang/invoke/MethodHandle" ∧ yX11_errs.cls ≠ "java/lang/invoke/VarHandle" ∧ (parseMethodDescriptor yX11_errs.desc).map (fun d => d.parameters.length) = some 1 := by decide +kernel
set_option maxRecDepth 10000 in
theorem hX11_errs_0 (l : Launch) {p : Program} {e : Env} {s : State} {m : MethodId} {args : Array Value} {below : List Frame} {meth : Method} {c : Code} {D : va_G} {ad adV : Nat → Nat} {cA : Nat → ClassId} {K : Kt} (C0 : Cx p s m args meth c D ad adV cA cX11_errs 2 RX11) (hr : meth.sig.returnType = (some .boolean)) : ∀ q ∈ lX11_errs, Sd p l e (rmd 0) s m args below meth c (MQ below (QQ D ad cA K) args s 0 0 (AA ad)) D ad cA 2 q.1 (opOf K q.2) := List.forall_mem_cons.mpr ⟨s_aload_n C0 dX11_errs_0 rfl, List.forall_mem_cons.mpr ⟨s_iload_n C0 dX11_errs_1 rfl, List.forall_mem_cons.mpr ⟨s_putI (ci := 11) (k := 17) C0 dX11_errs_2 inX11 tyX11_ok nmX11 rfl (by decide) rfl rfl tw6_28, List.forall_mem_cons.mpr ⟨s_aload_n C0 dX11_errs_5 rfl, List.forall_mem_cons.mpr ⟨s_aload_n C0 dX11_errs_6 rfl, List.forall_mem_cons.mpr ⟨s_get (ci := 11) (k := 12) C0 dX11_errs_7 inX11 rfl (by decide) tw6_23, List.forall_mem_cons.mpr ⟨s_putI (ci := 11) (k := 18) C0 dX11_errs_10 inX11 tyX11_ok nmX11 rfl (by decide) rfl rfl tw6_29, List.forall_mem_cons.mpr ⟨s_iconst C0 dX11_errs_13 rfl, List.forall_mem_cons.mpr ⟨s_zret C0 hr dX11_errs_14, fun _ h => absurd h List.not_mem_nil⟩⟩⟩⟩⟩⟩⟩⟩⟩
def fX11_errs : Mf := mf 2 (fun K => tl K lX11_errs)
theorem kX11_errs (l : Launch) : Okm l yX11_errs cX11_errs 2 (some .boolean) 0 fX11_errs := Okm_tl (own := RX11) (by decide +kernel) rfl (fun C0 hr => hX11_errs_0 l C0 hr)
theorem dX11_isName_0 : decode cX11_isName 0 = .ok (.aload_n 0, 1) := by decide +kernel
theorem dX11_isName_1 : decode cX11_isName 1 = .ok (.getfield 73, 3) := by decide +kernel
theorem dX11_isName_4 : decode cX11_isName 4 = .ok (.iconst 2, 1) := by decide +kernel
theorem dX11_isName_5 : decode cX11_isName 5 = .ok (.if_icmp .ne 79, 3) := by decide +kernel
theorem dX11_isName_8 : decode cX11_isName 8 = .ok (.aload_n 0, 1) := by decide +kernel
theorem dX11_isName_9 : decode cX11_isName 9 = .ok (.ldc 99, 2) := by decide +kernel
theorem dX11_isName_11 : decode cX11_isName 11 = .ok (.invokevirtual 101, 3) := by decide +kernel
theorem dX11_isName_14 : decode cX11_isName 14 = .ok (.ifCond .ne 70, 3) := by decide +kernel
theorem dX11_isName_17 : decode cX11_isName 17 = .ok (.aload_n 0, 1) := by decide +kernel
theorem dX11_isName_18 : decode cX11_isName 18 = .ok (.ldc 105, 2) := by decide +kernel
theorem dX11_isName_20 : decode cX11_isName 20 = .ok (.invokevirtual 101, 3) := by decide +kernel
theorem dX11_isName_23 : decode cX11_isName 23 = .ok (.ifCond .ne 61, 3) := by decide +kernel
theorem dX11_isName_26 : decode cX11_isName 26 = .ok (.aload_n 0, 1) := by decide +kernel
theorem dX11_isName_27 : decode cX11_isName 27 = .ok (.ldc 107, 2) := by decide +kernel
theorem dX11_isName_29 : decode cX11_isName 29 = .ok (.invokevirtual 101, 3) := by decide +kernel
theorem dX11_isName_32 : decode cX11_isName 32 = .ok (.ifCond .ne 52, 3) := by decide +kernel
theorem dX11_isName_35 : decode cX11_isName 35 = .ok (.aload_n 0, 1) := by decide +kernel
theorem dX11_isName_36 : decode cX11_isName 36 = .ok (.ldc 109, 2) := by decide +kernel
theorem dX11_isName_38 : decode cX11_isName 38 = .ok (.invokevirtual 101, 3) := by decide +kernel
theorem dX11_isName_41 : decode cX11_isName 41 = .ok (.ifCond .ne 43, 3) := by decide +kernel
theorem dX11_isName_44 : decode cX11_isName 44 = .ok (.aload_n 0, 1) := by decide +kernel
theorem dX11_isName_45 : decode cX11_isName 45 = .ok (.ldc 111, 2) := by decide +kernel
theorem dX11_isName_47 : decode cX11_isName 47 = .ok (.invokevirtual 101, 3) := by decide +kernel
theorem dX11_isName_50 : decode cX11_isName 50 = .ok (.ifCond .ne 34, 3) := by decide +kernel
theorem dX11_isName_53 : decode cX11_isName 53 = .ok (.aload_n 0, 1) := by decide +kernel
theorem dX11_isName_54 : decode cX11_isName 54 = .ok (.ldc 113, 2) := by decide +kernel
theorem dX11_isName_56 : decode cX11_isName 56 = .ok (.invokevirtual 101, 3) := by decide +kernel
theorem dX11_isName_59 : decode cX11_isName 59 = .ok (.ifCond .ne 25, 3) := by decide +kernel
theorem dX11_isName_62 : decode cX11_isName 62 = .ok (.aload_n 0, 1) := by decide +kernel
theorem dX11_isName_63 : decode cX11_isName 63 = .ok (.ldc 115, 2) := by decide +kernel
theorem dX11_isName_65 : decode cX11_isName 65 = .ok (.invokevirtual 101, 3) := by decide +kernel
theorem dX11_isName_68 : decode cX11_isName 68 = .ok (.ifCond .ne 16, 3) := by decide +kernel
theorem dX11_isName_71 : decode cX11_isName 71 = .ok (.aload_n 0, 1) := by decide +kernel
theorem dX11_isName_72 : decode cX11_isName 72 = .ok (.ldc 117, 2) := by decide +kernel
theorem dX11_isName_74 : decode cX11_isName 74 = .ok (.invokevirtual 101, 3) := by decide +kernel
theorem dX11_isName_77 : decode cX11_isName 77 = .ok (.ifCond .ne 7, 3) := by decide +kernel
theorem dX11_isName_80 : decode cX11_isName 80 = .ok (.iconst 1, 1) := by decide +kernel
theorem dX11_isName_81 : decode cX11_isName 81 = .ok (.goto 4, 3) := by decide +kernel
theorem dX11_isName_84 : decode cX11_isName 84 = .ok (.iconst 0, 1) := by decide +kernel
theorem dX11_isName_85 : decode cX11_isName 85 = .ok (.ireturn, 1) := by decide +kernel
def lX11_isName : List (Nat × (Op ⊕ Nat)) := [(0, .inl (o_aload 0 1)), (1, .inl (o_get 11 14 4)), (4, .inl (o_pushI (nI 2) 5)), (5, .inl (o_icmp_ne 84 8)), (8, .inl (o_aload 0 9)), (9, .inl (o_pushR 200 11)), (11, .inl (o_callV fX11_isWord 1 11 14)), (14, .inl (o_if_ne 84 17)), (17, .inl (o_aload 0 18)), (18, .inl (o_pushR 201 20)), (20, .inl (o_callV fX11_isWord 1 11 23)), (23, .inl (o_if_ne 84 26)), (26, .inl (o_aload 0 27)), (27, .inl (o_pushR 202 29)), (29, .inl (o_callV fX11_isWord 1 11 32)), (32, .inl (o_if_ne 84 35)), (35, .inl (o_aload 0 36)), (36, .inl (o_pushR 203 38)), (38, .inl (o_callV fX11_isWord 1 11 41)), (41, .inl (o_if_ne 84 44)), (44, .inl (o_aload 0 45)), (45, .inl (o_pushR 204 47)), (47, .inl (o_callV fX11_isWord 1 11 50)), (50, .inl (o_if_ne 84 53)), (53, .inl (o_aload 0 54)), (54, .inl (o_pushR 205 56)), (56, .inl (o_callV fX11_isWord 1 11 59)), (59, .inl (o_if_ne 84 62)), (62, .inl (o_aload 0 63)), (63, .inl (o_pushR 206 65)), (65, .inl (o_callV fX11_isWord 1 11 68)), (68, .inl (o_if_ne 84 71)), (71, .inl (o_aload 0 72)), (72, .inl (o_pushR 207 74)), (74, .inl (o_callV fX11_isWord 1 11 77)), (77, .inl (o_if_ne 84 80)), (80, .inl (o_pushI (nI 1) 81)), (81, .inl (o_goto 85)), (84, .inl (o_pushI (nI 0) 85)), (85, .inr 1)]
theorem qX11_isName : yX11_isName.cls = RX11 ∧ yX11_isName.cls ≠ "java/lang/invoke/MethodHandle" ∧ yX11_isName.cls ≠ "java/lang/invoke/VarHandle" ∧ (parseMethodDescriptor yX11_isName.desc).map (fun d => d.parameters.length) = some 0 := by decide +kernel
set_option maxRecDepth 10000 in
theorem hX11_isName_0 (l : Launch) {p : Program} {e : Env} {s : State} {m : MethodId} {args : Array Value} {below : List Frame} {meth : Method} {c : Code} {D : va_G} {ad adV : Nat → Nat} {cA : Nat → ClassId} {K : Kt} (C0 : Cx p s m args meth c D ad adV cA cX11_isName 1 RX11) (hr : meth.sig.returnType = (some .boolean)) : ∀ q ∈ lX11_isName, Sd p l e (rmd 6) s m args below meth c (MQ below (QQ D ad cA K) args s 0 0 (AA ad)) D ad cA 1 q.1 (opOf K q.2) := List.forall_mem_cons.mpr ⟨s_aload_n C0 dX11_isName_0 rfl, List.forall_mem_cons.mpr ⟨s_get (ci := 11) (k := 14) C0 dX11_isName_1 inX11 rfl (by decide) tw6_25, List.forall_mem_cons.mpr ⟨s_iconst C0 dX11_isName_4 rfl, List.forall_mem_cons.mpr ⟨s_icmp_ne C0 dX11_isName_5 rfl, List.forall_mem_cons.mpr ⟨s_aload_n C0 dX11_isName_8 rfl, List.forall_mem_cons.mpr ⟨s_ldcS (tx := "arm") (k := 0) C0 dX11_isName_9 (List.mem_of_getElem? (i := 8) rfl), List.forall_mem_cons.mpr ⟨s_callV (ci := 11) C0 (kX11_isWord l) dX11_isName_11 rfl qX11_isWord tw6_139 tw6_141 twp_46 tw1_12 tw6_142 rfl (by decide) (by decide), List.forall_mem_cons.mpr ⟨s_if_ne C0 dX11_isName_14 rfl, List.forall_mem_cons.mpr ⟨s_aload_n C0 dX11_isName_17 rfl, List.forall_mem_cons.mpr ⟨s_ldcS (tx := "left") (k := 1) C0 dX11_isName_18 (List.mem_of_getElem? (i := 9) rfl), List.forall_mem_cons.mpr ⟨s_callV (ci := 11) C0 (kX11_isWord l) dX11_isName_20 rfl qX11_isWord tw6_139 tw6_141 twp_46 tw1_12 tw6_142 rfl (by decide) (by decide), List.forall_mem_cons.mpr ⟨s_if_ne C0 dX11_isName_23 rfl, List.forall_mem_cons.mpr ⟨s_aload_n C0 dX11_isName_26 rfl, List.forall_mem_cons.mpr ⟨s_ldcS (tx := "right") (k := 2) C0 dX11_isName_27 (List.mem_of_getElem? (i := 10) rfl), List.forall_mem_cons.mpr ⟨s_callV (ci := 11) C0 (kX11_isWord l) dX11_isName_29 rfl qX11_isWord tw6_139 tw6_141 twp_46 tw1_12 tw6_142 rfl (by decide) (by decide), List.forall_mem_cons.mpr ⟨s_if_ne C0 dX11_isName_32 rfl, List.forall_mem_cons.mpr ⟨s_aload_n C0 dX11_isName_35 rfl, List.forall_mem_cons.mpr ⟨s_ldcS (tx := "game") (k := 3) C0 dX11_isName_36 (List.mem_of_getElem? (i := 11) rfl), List.forall_mem_cons.mpr ⟨s_callV (ci := 11) C0 (kX11_isWord l) dX11_isName_38 rfl qX11_isWord tw6_139 tw6_141 twp_46 tw1_12 tw6_142 rfl (by decide) (by decide), List.forall_mem_cons.mpr ⟨s_if_ne C0 dX11_isName_41 rfl, List.forall_mem_cons.mpr ⟨s_aload_n C0 dX11_isName_44 rfl, List.forall_mem_cons.mpr ⟨s_ldcS (tx := "rest") (k := 4) C0 dX11_isName_45 (List.mem_of_getElem? (i := 12) rfl), List.forall_mem_cons.mpr ⟨s_callV (ci := 11) C0 (kX11_isWord l) dX11_isName_47 rfl qX11_isWord tw6_139 tw6_141 twp_46 tw1_12 tw6_142 rfl (by decide) (by decide), List.forall_mem_cons.mpr ⟨s_if_ne C0 dX11_isName_50 rfl, List.forall_mem_cons.mpr ⟨s_aload_n C0 dX11_isName_53 rfl, List.forall_mem_cons.mpr ⟨s_ldcS (tx := "week") (k := 5) C0 dX11_isName_54 (List.mem_of_getElem? (i := 13) rfl), List.forall_mem_cons.mpr ⟨s_callV (ci := 11) C0 (kX11_isWord l) dX11_isName_56 rfl qX11_isWord tw6_139 tw6_141 twp_46 tw1_12 tw6_142 rfl (by decide) (by decide), List.forall_mem_cons.mpr ⟨s_if_ne C0 dX11_isName_59 rfl, List.forall_mem_cons.mpr ⟨s_aload_n C0 dX11_isName_62 rfl, List.forall_mem_cons.mpr ⟨s_ldcS (tx := "edge") (k := 6) C0 dX11_isName_63 (List.mem_of_getElem? (i := 14) rfl), List.forall_mem_cons.mpr ⟨s_callV (ci := 11) C0 (kX11_isWord l) dX11_isName_65 rfl qX11_isWord tw6_139 tw6_141 twp_46 tw1_12 tw6_142 rfl (by decide) (by decide), List.forall_mem_cons.mpr ⟨s_if_ne C0 dX11_isName_68 rfl, List.forall_mem_cons.mpr ⟨s_aload_n C0 dX11_isName_71 rfl, List.forall_mem_cons.mpr ⟨s_ldcS (tx := "out") (k := 7) C0 dX11_isName_72 (List.mem_of_getElem? (i := 15) rfl), List.forall_mem_cons.mpr ⟨s_callV (ci := 11) C0 (kX11_isWord l) dX11_isName_74 rfl qX11_isWord tw6_139 tw6_141 twp_46 tw1_12 tw6_142 rfl (by decide) (by decide), List.forall_mem_cons.mpr ⟨s_if_ne C0 dX11_isName_77 rfl, List.forall_mem_cons.mpr ⟨s_iconst C0 dX11_isName_80 rfl, List.forall_mem_cons.mpr ⟨s_goto C0 dX11_isName_81 rfl, List.forall_mem_cons.mpr ⟨s_iconst C0 dX11_isName_84 rfl, List.forall_mem_cons.mpr ⟨s_zret C0 hr dX11_isName_85, fun _ h => absurd h List.not_mem_nil⟩⟩⟩⟩⟩⟩⟩⟩⟩⟩⟩⟩⟩⟩⟩⟩⟩⟩⟩⟩⟩⟩⟩⟩⟩⟩⟩⟩⟩⟩⟩⟩⟩⟩⟩⟩⟩⟩⟩⟩
def fX11_isName : Mf := mf 1 (fun K => tl K lX11_isName)
theorem kX11_isName (l : Launch) : Okm l yX11_isName cX11_isName 1 (some .boolean) 6 fX11_isName := Okm_tl (own := RX11) (by decide +kernel) rfl (fun C0 hr => hX11_isName_0 l C0 hr)
theorem dX11_isAt_0 : decode cX11_isAt 0 = .ok (.iload 4, 2) := by decide +kernel
theorem dX11_isAt_2 : decode cX11_isAt 2 = .ok (.iload_n 3, 1) := by decide +kernel
theorem dX11_isAt_3 : decode cX11_isAt 3 = .ok (.isub, 1) := by decide +kernel
theorem dX11_isAt_4 : decode cX11_isAt 4 = .ok (.bipush 7, 2) := by decide +kernel
theorem dX11_isAt_6 : decode cX11_isAt 6 = .ok (.if_icmp .gt 7, 3) := by decide +kernel
theorem dX11_isAt_9 : decode cX11_isAt 9 = .ok (.iconst 1, 1) := by decide +kernel
theorem dX11_isAt_10 : decode cX11_isAt 10 = .ok (.goto 4, 3) := by decide +kernel
theorem dX11_isAt_13 : decode cX11_isAt 13 = .ok (.iconst 0, 1) := by decide +kernel
theorem dX11_isAt_14 : decode cX11_isAt 14 = .ok (.istore 5, 2) := by decide +kernel
theorem dX11_isAt_16 : decode cX11_isAt 16 = .ok (.iconst 0, 1) := by decide +kernel
theorem dX11_isAt_17 : decode cX11_isAt 17 = .ok (.istore 6, 2) := by decide +kernel
theorem dX11_isAt_19 : decode cX11_isAt 19 = .ok (.iload 6, 2) := by decide +kernel
theorem dX11_isAt_21 : decode cX11_isAt 21 = .ok (.bipush 7, 2) := by decide +kernel
theorem dX11_isAt_23 : decode cX11_isAt 23 = .ok (.if_icmp .ge 84, 3) := by decide +kernel
theorem dX11_isAt_26 : decode cX11_isAt 26 = .ok (.iload_n 3, 1) := by decide +kernel
theorem dX11_isAt_27 : decode cX11_isAt 27 = .ok (.iload 6, 2) := by decide +kernel
theorem dX11_isAt_29 : decode cX11_isAt 29 = .ok (.iadd, 1) := by decide +kernel
theorem dX11_isAt_30 : decode cX11_isAt 30 = .ok (.iload 4, 2) := by decide +kernel
theorem dX11_isAt_32 : decode cX11_isAt 32 = .ok (.if_icmp .ge 7, 3) := by decide +kernel
theorem dX11_isAt_35 : decode cX11_isAt 35 = .ok (.iconst 1, 1) := by decide +kernel
theorem dX11_isAt_36 : decode cX11_isAt 36 = .ok (.goto 4, 3) := by decide +kernel
theorem dX11_isAt_39 : decode cX11_isAt 39 = .ok (.iconst 0, 1) := by decide +kernel
theorem dX11_isAt_40 : decode cX11_isAt 40 = .ok (.istore 7, 2) := by decide +kernel
theorem dX11_isAt_42 : decode cX11_isAt 42 = .ok (.iload 5, 2) := by decide +kernel
theorem dX11_isAt_44 : decode cX11_isAt 44 = .ok (.ifCond .eq 54, 3) := by decide +kernel
theorem dX11_isAt_47 : decode cX11_isAt 47 = .ok (.iload 7, 2) := by decide +kernel
theorem dX11_isAt_49 : decode cX11_isAt 49 = .ok (.ifCond .eq 36, 3) := by decide +kernel
theorem dX11_isAt_52 : decode cX11_isAt 52 = .ok (.aload_n 0, 1) := by decide +kernel
theorem dX11_isAt_53 : decode cX11_isAt 53 = .ok (.getfield 13, 3) := by decide +kernel
theorem dX11_isAt_56 : decode cX11_isAt 56 = .ok (.iload_n 3, 1) := by decide +kernel
theorem dX11_isAt_57 : decode cX11_isAt 57 = .ok (.iload 6, 2) := by decide +kernel
theorem dX11_isAt_59 : decode cX11_isAt 59 = .ok (.iadd, 1) := by decide +kernel
theorem dX11_isAt_60 : decode cX11_isAt 60 = .ok (.iaload, 1) := by decide +kernel
theorem dX11_isAt_61 : decode cX11_isAt 61 = .ok (.ifCond .eq 37, 3) := by decide +kernel
theorem dX11_isAt_64 : decode cX11_isAt 64 = .ok (.aload_n 1, 1) := by decide +kernel
theorem dX11_isAt_65 : decode cX11_isAt 65 = .ok (.iload_n 2, 1) := by decide +kernel
theorem dX11_isAt_66 : decode cX11_isAt 66 = .ok (.iload 6, 2) := by decide +kernel
theorem dX11_isAt_68 : decode cX11_isAt 68 = .ok (.iadd, 1) := by decide +kernel
theorem dX11_isAt_69 : decode cX11_isAt 69 = .ok (.iaload, 1) := by decide +kernel
theorem dX11_isAt_70 : decode cX11_isAt 70 = .ok (.aload_n 0, 1) := by decide +kernel
theorem dX11_isAt_71 : decode cX11_isAt 71 = .ok (.getfield 13, 3) := by decide +kernel
theorem dX11_isAt_74 : decode cX11_isAt 74 = .ok (.iload_n 3, 1) := by decide +kernel
theorem dX11_isAt_75 : decode cX11_isAt 75 = .ok (.iload 6, 2) := by decide +kernel
theorem dX11_isAt_77 : decode cX11_isAt 77 = .ok (.iadd, 1) := by decide +kernel
theorem dX11_isAt_78 : decode cX11_isAt 78 = .ok (.iaload, 1) := by decide +kernel
theorem dX11_isAt_79 : decode cX11_isAt 79 = .ok (.if_icmp .ne 19, 3) := by decide +kernel
theorem dX11_isAt_82 : decode cX11_isAt 82 = .ok (.goto 12, 3) := by decide +kernel
theorem dX11_isAt_85 : decode cX11_isAt 85 = .ok (.aload_n 1, 1) := by decide +kernel
theorem dX11_isAt_86 : decode cX11_isAt 86 = .ok (.iload_n 2, 1) := by decide +kernel
theorem dX11_isAt_87 : decode cX11_isAt 87 = .ok (.iload 6, 2) := by decide +kernel
theorem dX11_isAt_89 : decode cX11_isAt 89 = .ok (.iadd, 1) := by decide +kernel
theorem dX11_isAt_90 : decode cX11_isAt 90 = .ok (.iaload, 1) := by decide +kernel
theorem dX11_isAt_91 : decode cX11_isAt 91 = .ok (.ifCond .ne 7, 3) := by decide +kernel
theorem dX11_isAt_94 : decode cX11_isAt 94 = .ok (.iconst 1, 1) := by decide +kernel
theorem dX11_isAt_95 : decode cX11_isAt 95 = .ok (.goto 4, 3) := by decide +kernel
theorem dX11_isAt_98 : decode cX11_isAt 98 = .ok (.iconst 0, 1) := by decide +kernel
theorem dX11_isAt_99 : decode cX11_isAt 99 = .ok (.istore 5, 2) := by decide +kernel
theorem dX11_isAt_101 : decode cX11_isAt 101 = .ok (.iinc 6 1, 3) := by decide +kernel
theorem dX11_isAt_104 : decode cX11_isAt 104 = .ok (.goto (-85), 3) := by decide +kernel
theorem dX11_isAt_107 : decode cX11_isAt 107 = .ok (.iload 5, 2) := by decide +kernel
theorem dX11_isAt_109 : decode cX11_isAt 109 = .ok (.ireturn, 1) := by decide +kernel
def lX11_isAt_0 : List (Nat × (Op ⊕ Nat)) := [(0, .inl (o_iload 4 2)), (2, .inl (o_iload 3 3)), (3, .inl (o_isub 4)), (4, .inl (o_pushI (nI 7) 6)), (6, .inl (o_icmp_gt 13 9)), (9, .inl (o_pushI (nI 1) 10)), (10, .inl (o_goto 14)), (13, .inl (o_pushI (nI 0) 14)), (14, .inl (o_istore 5 16)), (16, .inl (o_pushI (nI 0) 17)), (17, .inl (o_istore 6 19)), (19, .inl (o_iload 6 21)), (21, .inl (o_pushI (nI 7) 23)), (23, .inl (o_icmp_ge 107 26)), (26, .inl (o_iload 3 27)), (27, .inl (o_iload 6 29)), (29, .inl (o_iadd 30)), (30, .inl (o_iload 4 32)), (32, .inl (o_icmp_ge 39 35)), (35, .inl (o_pushI (nI 1) 36)), (36, .inl (o_goto 40)), (39, .inl (o_pushI (nI 0) 40)), (40, .inl (o_istore 7 42)), (42, .inl (o_iload 5 44)), (44, .inl (o_if_eq 98 47)), (47, .inl (o_iload 7 49)), (49, .inl (o_if_eq 85 52)), (52, .inl (o_aload 0 53)), (53, .inl (o_get 11 4 56)), (56, .inl (o_iload 3 57)), (57, .inl (o_iload 6 59)), (59, .inl (o_iadd 60)), (60, .inl (o_iald 61)), (61, .inl (o_if_eq 98 64)), (64, .inl (o_aload 1 65)), (65, .inl (o_iload 2 66)), (66, .inl (o_iload 6 68)), (68, .inl (o_iadd 69)), (69, .inl (o_iald 70)), (70, .inl (o_aload 0 71))]
def lX11_isAt_1 : List (Nat × (Op ⊕ Nat)) := [(71, .inl (o_get 11 4 74)), (74, .inl (o_iload 3 75)), (75, .inl (o_iload 6 77)), (77, .inl (o_iadd 78)), (78, .inl (o_iald 79)), (79, .inl (o_icmp_ne 98 82)), (82, .inl (o_goto 94)), (85, .inl (o_aload 1 86)), (86, .inl (o_iload 2 87)), (87, .inl (o_iload 6 89)), (89, .inl (o_iadd 90)), (90, .inl (o_iald 91)), (91, .inl (o_if_ne 98 94)), (94, .inl (o_pushI (nI 1) 95)), (95, .inl (o_goto 99)), (98, .inl (o_pushI (nI 0) 99)), (99, .inl (o_istore 5 101)), (101, .inl (o_iinc 6 (nI 1) 104)), (104, .inl (o_goto 19)), (107, .inl (o_iload 5 109)), (109, .inr 1)]
def lX11_isAt : List (Nat × (Op ⊕ Nat)) := lX11_isAt_0 ++ (lX11_isAt_1)
theorem qX11_isAt : yX11_isAt.cls = RX11 ∧ yX11_isAt.cls ≠ "java/lang/invoke/MethodHandle" ∧ yX11_isAt.cls ≠ "java/lang/invoke/VarHandle" ∧ (parseMethodDescriptor yX11_isAt.desc).map (fun d => d.parameters.length) = some 4 := by decide +kernel
set_option maxRecDepth 10000 in
theorem hX11_isAt_0 (l : Launch) {p : Program} {e : Env} {s : State} {m : MethodId} {args : Array Value} {below : List Frame} {meth : Method} {c : Code} {D : va_G} {ad adV : Nat → Nat} {cA : Nat → ClassId} {K : Kt} (C0 : Cx p s m args meth c D ad adV cA cX11_isAt 8 RX11) (hr : meth.sig.returnType = (some .boolean)) : ∀ q ∈ lX11_isAt_0, Sd p l e (rmd 0) s m args below meth c (MQ below (QQ D ad cA K) args s 0 0 (AA ad)) D ad cA 8 q.1 (opOf K q.2) := List.forall_mem_cons.mpr ⟨s_iload C0 dX11_isAt_0, List.forall_mem_cons.mpr ⟨s_iload_n C0 dX11_isAt_2 rfl, List.forall_mem_cons.mpr ⟨s_isub C0 dX11_isAt_3, List.forall_mem_cons.mpr ⟨s_bipush C0 dX11_isAt_4 (by decide +kernel), List.forall_mem_cons.mpr ⟨s_icmp_gt C0 dX11_isAt_6 rfl, List.forall_mem_cons.mpr ⟨s_iconst C0 dX11_isAt_9 rfl, List.forall_mem_cons.mpr ⟨s_goto C0 dX11_isAt_10 rfl, List.forall_mem_cons.mpr ⟨s_iconst C0 dX11_isAt_13 rfl, List.forall_mem_cons.mpr ⟨s_istore C0 dX11_isAt_14 (by decide), List.forall_mem_cons.mpr ⟨s_iconst C0 dX11_isAt_16 rfl, List.forall_mem_cons.mpr ⟨s_istore C0 dX11_isAt_17 (by decide), List.forall_mem_cons.mpr ⟨s_iload C0 dX11_isAt_19, List.forall_mem_cons.mpr ⟨s_bipush C0 dX11_isAt_21 (by decide +kernel), List.forall_mem_cons.mpr ⟨s_icmp_ge C0 dX11_isAt_23 rfl, List.forall_mem_cons.mpr ⟨s_iload_n C0 dX11_isAt_26 rfl, List.forall_mem_cons.mpr ⟨s_iload C0 dX11_isAt_27, List.forall_mem_cons.mpr ⟨s_iadd C0 dX11_isAt_29, List.forall_mem_cons.mpr ⟨s_iload C0 dX11_isAt_30, List.forall_mem_cons.mpr ⟨s_icmp_ge C0 dX11_isAt_32 rfl, List.forall_mem_cons.mpr ⟨s_iconst C0 dX11_isAt_35 rfl, List.forall_mem_cons.mpr ⟨s_goto C0 dX11_isAt_36 rfl, List.forall_mem_cons.mpr ⟨s_iconst C0 dX11_isAt_39 rfl, List.forall_mem_cons.mpr ⟨s_istore C0 dX11_isAt_40 (by decide), List.forall_mem_cons.mpr ⟨s_iload C0 dX11_isAt_42, List.forall_mem_cons.mpr ⟨s_if_eq C0 dX11_isAt_44 rfl, List.forall_mem_cons.mpr ⟨s_iload C0 dX11_isAt_47, List.forall_mem_cons.mpr ⟨s_if_eq C0 dX11_isAt_49 rfl, List.forall_mem_cons.mpr ⟨s_aload_n C0 dX11_isAt_52 rfl, List.forall_mem_cons.mpr ⟨s_get (ci := 11) (k := 4) C0 dX11_isAt_53 inX11 rfl (by decide) tw6_15, List.forall_mem_cons.mpr ⟨s_iload_n C0 dX11_isAt_56 rfl, List.forall_mem_cons.mpr ⟨s_iload C0 dX11_isAt_57, List.forall_mem_cons.mpr ⟨s_iadd C0 dX11_isAt_59, List.forall_mem_cons.mpr ⟨s_iald C0 dX11_isAt_60, List.forall_mem_cons.mpr ⟨s_if_eq C0 dX11_isAt_61 rfl, List.forall_mem_cons.mpr ⟨s_aload_n C0 dX11_isAt_64 rfl, List.forall_mem_cons.mpr ⟨s_iload_n C0 dX11_isAt_65 rfl, List.forall_mem_cons.mpr ⟨s_iload C0 dX11_isAt_66, List.forall_mem_cons.mpr ⟨s_iadd C0 dX11_isAt_68, List.forall_mem_cons.mpr ⟨s_iald C0 dX11_isAt_69, List.forall_mem_cons.mpr ⟨s_aload_n C0 dX11_isAt_70 rfl, fun _ h => absurd h List.not_mem_nil⟩⟩⟩⟩⟩⟩⟩⟩⟩⟩⟩⟩⟩⟩⟩⟩⟩⟩⟩⟩⟩⟩⟩⟩⟩⟩⟩⟩⟩⟩⟩⟩⟩⟩⟩⟩⟩⟩⟩⟩
set_option maxRecDepth 10000 in
theorem hX11_isAt_1 (l : Launch) {p : Program} {e : Env} {s : State} {m : MethodId} {args : Array Value} {below : List Frame} {meth : Method} {c : Code} {D : va_G} {ad adV : Nat → Nat} {cA : Nat → ClassId} {K : Kt} (C0 : Cx p s m args meth c D ad adV cA cX11_isAt 8 RX11) (hr : meth.sig.returnType = (some .boolean)) : ∀ q ∈ lX11_isAt_1, Sd p l e (rmd 0) s m args below meth c (MQ below (QQ D ad cA K) args s 0 0 (AA ad)) D ad cA 8 q.1 (opOf K q.2) := List.forall_mem_cons.mpr ⟨s_get (ci := 11) (k := 4) C0 dX11_isAt_71 inX11 rfl (by decide) tw6_15, List.forall_mem_cons.mpr ⟨s_iload_n C0 dX11_isAt_74 rfl, List.forall_mem_cons.mpr ⟨s_iload C0 dX11_isAt_75, List.forall_mem_cons.mpr ⟨s_iadd C0 dX11_isAt_77, List.forall_mem_cons.mpr ⟨s_iald C0 dX11_isAt_78, List.forall_mem_cons.mpr ⟨s_icmp_ne C0 dX11_isAt_79 rfl, List.forall_mem_cons.mpr ⟨s_goto C0 dX11_isAt_82 rfl, List.forall_mem_cons.mpr ⟨s_aload_n C0 dX11_isAt_85 rfl, List.forall_mem_cons.mpr ⟨s_iload_n C0 dX11_isAt_86 rfl, List.forall_mem_cons.mpr ⟨s_iload C0 dX11_isAt_87, List.forall_mem_cons.mpr ⟨s_iadd C0 dX11_isAt_89, List.forall_mem_cons.mpr ⟨s_iald C0 dX11_isAt_90, List.forall_mem_cons.mpr ⟨s_if_ne C0 dX11_isAt_91 rfl, List.forall_mem_cons.mpr ⟨s_iconst C0 dX11_isAt_94 rfl, List.forall_mem_cons.mpr ⟨s_goto C0 dX11_isAt_95 rfl, List.forall_mem_cons.mpr ⟨s_iconst C0 dX11_isAt_98 rfl, List.forall_mem_cons.mpr ⟨s_istore C0 dX11_isAt_99 (by decide), List.forall_mem_cons.mpr ⟨s_iinc C0 dX11_isAt_101 rfl (by decide), List.forall_mem_cons.mpr ⟨s_goto C0 dX11_isAt_104 rfl, List.forall_mem_cons.mpr ⟨s_iload C0 dX11_isAt_107, List.forall_mem_cons.mpr ⟨s_zret C0 hr dX11_isAt_109, fun _ h => absurd h List.not_mem_nil⟩⟩⟩⟩⟩⟩⟩⟩⟩⟩⟩⟩⟩⟩⟩⟩⟩⟩⟩⟩⟩
def fX11_isAt : Mf := mf 8 (fun K => tl K lX11_isAt)
theorem kX11_isAt (l : Launch) : Okm l yX11_isAt cX11_isAt 8 (some .boolean) 0 fX11_isAt := Okm_tl (own := RX11) (by decide +kernel) rfl (fun C0 hr => List.forall_mem_append.mpr ⟨hX11_isAt_0 l C0 hr, hX11_isAt_1 l C0 hr⟩)
theorem dX11_takes_0 : decode cX11_takes 0 = .ok (.aload_n 0, 1) := by decide +kernel
theorem dX11_takes_1 : decode cX11_takes 1 = .ok (.getfield 73, 3) := by decide +kernel
theorem dX11_takes_4 : decode cX11_takes 4 = .ok (.iconst 3, 1) := by decide +kernel
theorem dX11_takes_5 : decode cX11_takes 5 = .ok (.if_icmp .eq 9, 3) := by decide +kernel
theorem dX11_takes_8 : decode cX11_takes 8 = .ok (.aload_n 0, 1) := by decide +kernel
theorem dX11_takes_9 : decode cX11_takes 9 = .ok (.iconst 1, 1) := by decide +kernel
theorem dX11_takes_10 : decode cX11_takes 10 = .ok (.invokevirtual 119, 3) := by decide +kernel
theorem dX11_takes_13 : decode cX11_takes 13 = .ok (.ireturn, 1) := by decide +kernel
theorem dX11_takes_14 : decode cX11_takes 14 = .ok (.aload_n 0, 1) := by decide +kernel
theorem dX11_takes_15 : decode cX11_takes 15 = .ok (.getfield 80, 3) := by decide +kernel
theorem dX11_takes_18 : decode cX11_takes 18 = .ok (.iload_n 2, 1) := by decide +kernel
theorem dX11_takes_19 : decode cX11_takes 19 = .ok (.iload_n 3, 1) := by decide +kernel
theorem dX11_takes_20 : decode cX11_takes 20 = .ok (.invokestatic 76, 3) := by decide +kernel
theorem dX11_takes_23 : decode cX11_takes 23 = .ok (.ifCond .ne 9, 3) := by decide +kernel
theorem dX11_takes_26 : decode cX11_takes 26 = .ok (.aload_n 0, 1) := by decide +kernel
theorem dX11_takes_27 : decode cX11_takes 27 = .ok (.iconst 2, 1) := by decide +kernel
theorem dX11_takes_28 : decode cX11_takes 28 = .ok (.invokevirtual 119, 3) := by decide +kernel
theorem dX11_takes_31 : decode cX11_takes 31 = .ok (.ireturn, 1) := by decide +kernel
theorem dX11_takes_32 : decode cX11_takes 32 = .ok (.aload_n 0, 1) := by decide +kernel
theorem dX11_takes_33 : decode cX11_takes 33 = .ok (.getfield 20, 3) := by decide +kernel
theorem dX11_takes_36 : decode cX11_takes 36 = .ok (.iload_n 1, 1) := by decide +kernel
theorem dX11_takes_37 : decode cX11_takes 37 = .ok (.aload_n 0, 1) := by decide +kernel
theorem dX11_takes_38 : decode cX11_takes 38 = .ok (.getfield 80, 3) := by decide +kernel
theorem dX11_takes_41 : decode cX11_takes 41 = .ok (.iastore, 1) := by decide +kernel
theorem dX11_takes_42 : decode cX11_takes 42 = .ok (.aload_n 0, 1) := by decide +kernel
theorem dX11_takes_43 : decode cX11_takes 43 = .ok (.invokevirtual 123, 3) := by decide +kernel
theorem dX11_takes_46 : decode cX11_takes 46 = .ok (.iconst 1, 1) := by decide +kernel
theorem dX11_takes_47 : decode cX11_takes 47 = .ok (.ireturn, 1) := by decide +kernel
def lX11_takes : List (Nat × (Op ⊕ Nat)) := [(0, .inl (o_aload 0 1)), (1, .inl (o_get 11 14 4)), (4, .inl (o_pushI (nI 3) 5)), (5, .inl (o_icmp_eq 14 8)), (8, .inl (o_aload 0 9)), (9, .inl (o_pushI (nI 1) 10)), (10, .inl (o_callV fX11_errs 1 11 13)), (13, .inr 1), (14, .inl (o_aload 0 15)), (15, .inl (o_get 11 15 18)), (18, .inl (o_iload 2 19)), (19, .inl (o_iload 3 20)), (20, .inl (o_callS fX11_in 3 23)), (23, .inl (o_if_ne 32 26)), (26, .inl (o_aload 0 27)), (27, .inl (o_pushI (nI 2) 28)), (28, .inl (o_callV fX11_errs 1 11 31)), (31, .inr 1), (32, .inl (o_aload 0 33)), (33, .inl (o_get 11 8 36)), (36, .inl (o_iload 1 37)), (37, .inl (o_aload 0 38)), (38, .inl (o_get 11 15 41)), (41, .inl (o_iast 42)), (42, .inl (o_aload 0 43)), (43, .inl (o_callV fX11_goesOn 0 11 46)), (46, .inl (o_pushI (nI 1) 47)), (47, .inr 1)]
theorem qX11_takes : yX11_takes.cls = RX11 ∧ yX11_takes.cls ≠ "java/lang/invoke/MethodHandle" ∧ yX11_takes.cls ≠ "java/lang/invoke/VarHandle" ∧ (parseMethodDescriptor yX11_takes.desc).map (fun d => d.parameters.length) = some 3 := by decide +kernel
set_option maxRecDepth 10000 in
theorem hX11_takes_0 (l : Launch) {p : Program} {e : Env} {s : State} {m : MethodId} {args : Array Value} {below : List Frame} {meth : Method} {c : Code} {D : va_G} {ad adV : Nat → Nat} {cA : Nat → ClassId} {K : Kt} (C0 : Cx p s m args meth c D ad adV cA cX11_takes 4 RX11) (hr : meth.sig.returnType = (some .boolean)) : ∀ q ∈ lX11_takes, Sd p l e (rmd 2) s m args below meth c (MQ below (QQ D ad cA K) args s 0 0 (AA ad)) D ad cA 4 q.1 (opOf K q.2) := List.forall_mem_cons.mpr ⟨s_aload_n C0 dX11_takes_0 rfl, List.forall_mem_cons.mpr ⟨s_get (ci := 11) (k := 14) C0 dX11_takes_1 inX11 rfl (by decide) tw6_25, List.forall_mem_cons.mpr ⟨s_iconst C0 dX11_takes_4 rfl, List.forall_mem_cons.mpr ⟨s_icmp_eq C0 dX11_takes_5 rfl, List.forall_mem_cons.mpr ⟨s_aload_n C0 dX11_takes_8 rfl, List.forall_mem_cons.mpr ⟨s_iconst C0 dX11_takes_9 rfl, List.forall_mem_cons.mpr ⟨s_callV (ci := 11) C0 (kX11_errs l) dX11_takes_10 rfl qX11_errs tw6_149 tw6_151 twp_48 tw1_12 tw6_152 rfl (by decide) (by decide), List.forall_mem_cons.mpr ⟨s_zret C0 hr dX11_takes_13, List.forall_mem_cons.mpr ⟨s_aload_n C0 dX11_takes_14 rfl, List.forall_mem_cons.mpr ⟨s_get (ci := 11) (k := 15) C0 dX11_takes_15 inX11 rfl (by decide) tw6_26, List.forall_mem_cons.mpr ⟨s_iload_n C0 dX11_takes_18 rfl, List.forall_mem_cons.mpr ⟨s_iload_n C0 dX11_takes_19 rfl, List.forall_mem_cons.mpr ⟨s_callS C0 (kX11_in l) dX11_takes_20 qX11_in tw6_112 tw6_113 tw1_12 tw6_114 rfl (by decide) (by decide), List.forall_mem_cons.mpr ⟨s_if_ne C0 dX11_takes_23 rfl, List.forall_mem_cons.mpr ⟨s_aload_n C0 dX11_takes_26 rfl, List.forall_mem_cons.mpr ⟨s_iconst C0 dX11_takes_27 rfl, List.forall_mem_cons.mpr ⟨s_callV (ci := 11) C0 (kX11_errs l) dX11_takes_28 rfl qX11_errs tw6_149 tw6_151 twp_48 tw1_12 tw6_152 rfl (by decide) (by decide), List.forall_mem_cons.mpr ⟨s_zret C0 hr dX11_takes_31, List.forall_mem_cons.mpr ⟨s_aload_n C0 dX11_takes_32 rfl, List.forall_mem_cons.mpr ⟨s_get (ci := 11) (k := 8) C0 dX11_takes_33 inX11 rfl (by decide) tw6_19, List.forall_mem_cons.mpr ⟨s_iload_n C0 dX11_takes_36 rfl, List.forall_mem_cons.mpr ⟨s_aload_n C0 dX11_takes_37 rfl, List.forall_mem_cons.mpr ⟨s_get (ci := 11) (k := 15) C0 dX11_takes_38 inX11 rfl (by decide) tw6_26, List.forall_mem_cons.mpr ⟨s_iast C0 dX11_takes_41, List.forall_mem_cons.mpr ⟨s_aload_n C0 dX11_takes_42 rfl, List.forall_mem_cons.mpr ⟨s_callV (ci := 11) C0 (kX11_goesOn l) dX11_takes_43 rfl qX11_goesOn tw6_126 tw6_128 twp_43 tw1_12 tw6_129 rfl (by decide) (by decide), List.forall_mem_cons.mpr ⟨s_iconst C0 dX11_takes_46 rfl, List.forall_mem_cons.mpr ⟨s_zret C0 hr dX11_takes_47, fun _ h => absurd h List.not_mem_nil⟩⟩⟩⟩⟩⟩⟩⟩⟩⟩⟩⟩⟩⟩⟩⟩⟩⟩⟩⟩⟩⟩⟩⟩⟩⟩⟩⟩
def fX11_takes : Mf := mf 4 (fun K => tl K lX11_takes)
theorem kX11_takes (l : Launch) : Okm l yX11_takes cX11_takes 4 (some .boolean) 2 fX11_takes := Okm_tl (own := RX11) (by decide +kernel) rfl (fun C0 hr => hX11_takes_0 l C0 hr)
theorem dX11_readArm_0 : decode cX11_readArm 0 = .ok (.aload_n 0, 1) := by decide +kernel
theorem dX11_readArm_1 : decode cX11_readArm 1 = .ok (.getfield 20, 3) := by decide +kernel
theorem dX11_readArm_4 : decode cX11_readArm 4 = .ok (.iconst 0, 1) := by decide +kernel
theorem dX11_readArm_5 : decode cX11_readArm 5 = .ok (.iaload, 1) := by decide +kernel
theorem dX11_readArm_6 : decode cX11_readArm 6 = .ok (.istore_n 1, 1) := by decide +kernel
theorem dX11_readArm_7 : decode cX11_readArm 7 = .ok (.iload_n 1, 1) := by decide +kernel
theorem dX11_readArm_8 : decode cX11_readArm 8 = .ok (.bipush 8, 2) := by decide +kernel
theorem dX11_readArm_10 : decode cX11_readArm 10 = .ok (.if_icmp .ne 9, 3) := by decide +kernel
theorem dX11_readArm_13 : decode cX11_readArm 13 = .ok (.aload_n 0, 1) := by decide +kernel
theorem dX11_readArm_14 : decode cX11_readArm 14 = .ok (.iconst 4, 1) := by decide +kernel
theorem dX11_readArm_15 : decode cX11_readArm 15 = .ok (.invokevirtual 119, 3) := by decide +kernel
theorem dX11_readArm_18 : decode cX11_readArm 18 = .ok (.ireturn, 1) := by decide +kernel
theorem dX11_readArm_19 : decode cX11_readArm 19 = .ok (.aload_n 0, 1) := by decide +kernel
theorem dX11_readArm_20 : decode cX11_readArm 20 = .ok (.invokevirtual 123, 3) := by decide +kernel
theorem dX11_readArm_23 : decode cX11_readArm 23 = .ok (.aload_n 0, 1) := by decide +kernel
theorem dX11_readArm_24 : decode cX11_readArm 24 = .ok (.invokevirtual 126, 3) := by decide +kernel
theorem dX11_readArm_27 : decode cX11_readArm 27 = .ok (.ifCond .ne 9, 3) := by decide +kernel
theorem dX11_readArm_30 : decode cX11_readArm 30 = .ok (.aload_n 0, 1) := by decide +kernel
theorem dX11_readArm_31 : decode cX11_readArm 31 = .ok (.iconst 1, 1) := by decide +kernel
theorem dX11_readArm_32 : decode cX11_readArm 32 = .ok (.invokevirtual 119, 3) := by decide +kernel
theorem dX11_readArm_35 : decode cX11_readArm 35 = .ok (.ireturn, 1) := by decide +kernel
theorem dX11_readArm_36 : decode cX11_readArm 36 = .ok (.iconst 0, 1) := by decide +kernel
theorem dX11_readArm_37 : decode cX11_readArm 37 = .ok (.istore_n 2, 1) := by decide +kernel
theorem dX11_readArm_38 : decode cX11_readArm 38 = .ok (.iload_n 2, 1) := by decide +kernel
theorem dX11_readArm_39 : decode cX11_readArm 39 = .ok (.iload_n 1, 1) := by decide +kernel
theorem dX11_readArm_40 : decode cX11_readArm 40 = .ok (.if_icmp .ge 38, 3) := by decide +kernel
theorem dX11_readArm_43 : decode cX11_readArm 43 = .ok (.aload_n 0, 1) := by decide +kernel
theorem dX11_readArm_44 : decode cX11_readArm 44 = .ok (.aload_n 0, 1) := by decide +kernel
theorem dX11_readArm_45 : decode cX11_readArm 45 = .ok (.getfield 26, 3) := by decide +kernel
theorem dX11_readArm_48 : decode cX11_readArm 48 = .ok (.bipush 7, 2) := by decide +kernel
theorem dX11_readArm_50 : decode cX11_readArm 50 = .ok (.iload_n 2, 1) := by decide +kernel
theorem dX11_readArm_51 : decode cX11_readArm 51 = .ok (.imul, 1) := by decide +kernel
theorem dX11_readArm_52 : decode cX11_readArm 52 = .ok (.aload_n 0, 1) := by decide +kernel
theorem dX11_readArm_53 : decode cX11_readArm 53 = .ok (.getfield 70, 3) := by decide +kernel
theorem dX11_readArm_56 : decode cX11_readArm 56 = .ok (.aload_n 0, 1) := by decide +kernel
theorem dX11_readArm_57 : decode cX11_readArm 57 = .ok (.getfield 63, 3) := by decide +kernel
theorem dX11_readArm_60 : decode cX11_readArm 60 = .ok (.invokevirtual 130, 3) := by decide +kernel
theorem dX11_readArm_63 : decode cX11_readArm 63 = .ok (.ifCond .eq 9, 3) := by decide +kernel
theorem dX11_readArm_66 : decode cX11_readArm 66 = .ok (.aload_n 0, 1) := by decide +kernel
theorem dX11_readArm_67 : decode cX11_readArm 67 = .ok (.iconst 3, 1) := by decide +kernel
theorem dX11_readArm_68 : decode cX11_readArm 68 = .ok (.invokevirtual 119, 3) := by decide +kernel
theorem dX11_readArm_71 : decode cX11_readArm 71 = .ok (.ireturn, 1) := by decide +kernel
theorem dX11_readArm_72 : decode cX11_readArm 72 = .ok (.iinc 2 1, 3) := by decide +kernel
theorem dX11_readArm_75 : decode cX11_readArm 75 = .ok (.goto (-37), 3) := by decide +kernel
theorem dX11_readArm_78 : decode cX11_readArm 78 = .ok (.iconst 0, 1) := by decide +kernel
theorem dX11_readArm_79 : decode cX11_readArm 79 = .ok (.istore_n 2, 1) := by decide +kernel
theorem dX11_readArm_80 : decode cX11_readArm 80 = .ok (.iload_n 2, 1) := by decide +kernel
theorem dX11_readArm_81 : decode cX11_readArm 81 = .ok (.bipush 7, 2) := by decide +kernel
theorem dX11_readArm_83 : decode cX11_readArm 83 = .ok (.if_icmp .ge 48, 3) := by decide +kernel
theorem dX11_readArm_86 : decode cX11_readArm 86 = .ok (.aload_n 0, 1) := by decide +kernel
theorem dX11_readArm_87 : decode cX11_readArm 87 = .ok (.getfield 26, 3) := by decide +kernel
theorem dX11_readArm_90 : decode cX11_readArm 90 = .ok (.bipush 7, 2) := by decide +kernel
theorem dX11_readArm_92 : decode cX11_readArm 92 = .ok (.iload_n 1, 1) := by decide +kernel
theorem dX11_readArm_93 : decode cX11_readArm 93 = .ok (.imul, 1) := by decide +kernel
theorem dX11_readArm_94 : decode cX11_readArm 94 = .ok (.iload_n 2, 1) := by decide +kernel
theorem dX11_readArm_95 : decode cX11_readArm 95 = .ok (.iadd, 1) := by decide +kernel
theorem dX11_readArm_96 : decode cX11_readArm 96 = .ok (.aload_n 0, 1) := by decide +kernel
theorem dX11_readArm_97 : decode cX11_readArm 97 = .ok (.getfield 70, 3) := by decide +kernel
theorem dX11_readArm_100 : decode cX11_readArm 100 = .ok (.iload_n 2, 1) := by decide +kernel
theorem dX11_readArm_101 : decode cX11_readArm 101 = .ok (.iadd, 1) := by decide +kernel
theorem dX11_readArm_102 : decode cX11_readArm 102 = .ok (.aload_n 0, 1) := by decide +kernel
theorem dX11_readArm_103 : decode cX11_readArm 103 = .ok (.getfield 63, 3) := by decide +kernel
theorem dX11_readArm_106 : decode cX11_readArm 106 = .ok (.if_icmp .ge 17, 3) := by decide +kernel
theorem dX11_readArm_109 : decode cX11_readArm 109 = .ok (.aload_n 0, 1) := by decide +kernel
theorem dX11_readArm_110 : decode cX11_readArm 110 = .ok (.getfield 13, 3) := by decide +kernel
theorem dX11_readArm_113 : decode cX11_readArm 113 = .ok (.aload_n 0, 1) := by decide +kernel
theorem dX11_readArm_114 : decode cX11_readArm 114 = .ok (.getfield 70, 3) := by decide +kernel
theorem dX11_readArm_117 : decode cX11_readArm 117 = .ok (.iload_n 2, 1) := by decide +kernel
theorem dX11_readArm_118 : decode cX11_readArm 118 = .ok (.iadd, 1) := by decide +kernel
theorem dX11_readArm_119 : decode cX11_readArm 119 = .ok (.iaload, 1) := by decide +kernel
theorem dX11_readArm_120 : decode cX11_readArm 120 = .ok (.goto 4, 3) := by decide +kernel
theorem dX11_readArm_123 : decode cX11_readArm 123 = .ok (.iconst 0, 1) := by decide +kernel
theorem dX11_readArm_124 : decode cX11_readArm 124 = .ok (.iastore, 1) := by decide +kernel
theorem dX11_readArm_125 : decode cX11_readArm 125 = .ok (.iinc 2 1, 3) := by decide +kernel
theorem dX11_readArm_128 : decode cX11_readArm 128 = .ok (.goto (-48), 3) := by decide +kernel
theorem dX11_readArm_131 : decode cX11_readArm 131 = .ok (.aload_n 0, 1) := by decide +kernel
theorem dX11_readArm_132 : decode cX11_readArm 132 = .ok (.invokevirtual 123, 3) := by decide +kernel
theorem dX11_readArm_135 : decode cX11_readArm 135 = .ok (.aload_n 0, 1) := by decide +kernel
theorem dX11_readArm_136 : decode cX11_readArm 136 = .ok (.ldc 105, 2) := by decide +kernel
theorem dX11_readArm_138 : decode cX11_readArm 138 = .ok (.invokevirtual 101, 3) := by decide +kernel
theorem dX11_readArm_141 : decode cX11_readArm 141 = .ok (.ifCond .ne 18, 3) := by decide +kernel
theorem dX11_readArm_144 : decode cX11_readArm 144 = .ok (.aload_n 0, 1) := by decide +kernel
theorem dX11_readArm_145 : decode cX11_readArm 145 = .ok (.ldc 107, 2) := by decide +kernel
theorem dX11_readArm_147 : decode cX11_readArm 147 = .ok (.invokevirtual 101, 3) := by decide +kernel
theorem dX11_readArm_150 : decode cX11_readArm 150 = .ok (.ifCond .ne 9, 3) := by decide +kernel
theorem dX11_readArm_153 : decode cX11_readArm 153 = .ok (.aload_n 0, 1) := by decide +kernel
theorem dX11_readArm_154 : decode cX11_readArm 154 = .ok (.iconst 1, 1) := by decide +kernel
theorem dX11_readArm_155 : decode cX11_readArm 155 = .ok (.invokevirtual 119, 3) := by decide +kernel
theorem dX11_readArm_158 : decode cX11_readArm 158 = .ok (.ireturn, 1) := by decide +kernel
theorem dX11_readArm_159 : decode cX11_readArm 159 = .ok (.aload_n 0, 1) := by decide +kernel
theorem dX11_readArm_160 : decode cX11_readArm 160 = .ok (.getfield 20, 3) := by decide +kernel
theorem dX11_readArm_163 : decode cX11_readArm 163 = .ok (.bipush 6, 2) := by decide +kernel
theorem dX11_readArm_165 : decode cX11_readArm 165 = .ok (.iload_n 1, 1) := by decide +kernel
theorem dX11_readArm_166 : decode cX11_readArm 166 = .ok (.iadd, 1) := by decide +kernel
theorem dX11_readArm_167 : decode cX11_readArm 167 = .ok (.aload_n 0, 1) := by decide +kernel
theorem dX11_readArm_168 : decode cX11_readArm 168 = .ok (.ldc 105, 2) := by decide +kernel
theorem dX11_readArm_170 : decode cX11_readArm 170 = .ok (.invokevirtual 101, 3) := by decide +kernel
theorem dX11_readArm_173 : decode cX11_readArm 173 = .ok (.ifCond .eq 7, 3) := by decide +kernel
theorem dX11_readArm_176 : decode cX11_readArm 176 = .ok (.iconst 0, 1) := by decide +kernel
theorem dX11_readArm_177 : decode cX11_readArm 177 = .ok (.goto 4, 3) := by decide +kernel
theorem dX11_readArm_180 : decode cX11_readArm 180 = .ok (.iconst 1, 1) := by decide +kernel
theorem dX11_readArm_181 : decode cX11_readArm 181 = .ok (.iastore, 1) := by decide +kernel
theorem dX11_readArm_182 : decode cX11_readArm 182 = .ok (.aload_n 0, 1) := by decide +kernel
theorem dX11_readArm_183 : decode cX11_readArm 183 = .ok (.invokevirtual 123, 3) := by decide +kernel
theorem dX11_readArm_186 : decode cX11_readArm 186 = .ok (.aload_n 0, 1) := by decide +kernel
theorem dX11_readArm_187 : decode cX11_readArm 187 = .ok (.getfield 20, 3) := by decide +kernel
theorem dX11_readArm_190 : decode cX11_readArm 190 = .ok (.iconst 0, 1) := by decide +kernel
theorem dX11_readArm_191 : decode cX11_readArm 191 = .ok (.dup2, 1) := by decide +kernel
theorem dX11_readArm_192 : decode cX11_readArm 192 = .ok (.iaload, 1) := by decide +kernel
theorem dX11_readArm_193 : decode cX11_readArm 193 = .ok (.iconst 1, 1) := by decide +kernel
theorem dX11_readArm_194 : decode cX11_readArm 194 = .ok (.iadd, 1) := by decide +kernel
theorem dX11_readArm_195 : decode cX11_readArm 195 = .ok (.iastore, 1) := by decide +kernel
theorem dX11_readArm_196 : decode cX11_readArm 196 = .ok (.aload_n 0, 1) := by decide +kernel
theorem dX11_readArm_197 : decode cX11_readArm 197 = .ok (.bipush 14, 2) := by decide +kernel
theorem dX11_readArm_199 : decode cX11_readArm 199 = .ok (.iload_n 1, 1) := by decide +kernel
theorem dX11_readArm_200 : decode cX11_readArm 200 = .ok (.iadd, 1) := by decide +kernel
theorem dX11_readArm_201 : decode cX11_readArm 201 = .ok (.iconst 1, 1) := by decide +kernel
theorem dX11_readArm_202 : decode cX11_readArm 202 = .ok (.bipush 99, 2) := by decide +kernel
theorem dX11_readArm_204 : decode cX11_readArm 204 = .ok (.invokevirtual 134, 3) := by decide +kernel
theorem dX11_readArm_207 : decode cX11_readArm 207 = .ok (.ifCond .eq 56, 3) := by decide +kernel
theorem dX11_readArm_210 : decode cX11_readArm 210 = .ok (.aload_n 0, 1) := by decide +kernel
theorem dX11_readArm_211 : decode cX11_readArm 211 = .ok (.bipush 22, 2) := by decide +kernel
theorem dX11_readArm_213 : decode cX11_readArm 213 = .ok (.iload_n 1, 1) := by decide +kernel
theorem dX11_readArm_214 : decode cX11_readArm 214 = .ok (.iadd, 1) := by decide +kernel
theorem dX11_readArm_215 : decode cX11_readArm 215 = .ok (.iconst 1, 1) := by decide +kernel
theorem dX11_readArm_216 : decode cX11_readArm 216 = .ok (.bipush 120, 2) := by decide +kernel
theorem dX11_readArm_218 : decode cX11_readArm 218 = .ok (.invokevirtual 134, 3) := by decide +kernel
theorem dX11_readArm_221 : decode cX11_readArm 221 = .ok (.ifCond .eq 42, 3) := by decide +kernel
theorem dX11_readArm_224 : decode cX11_readArm 224 = .ok (.aload_n 0, 1) := by decide +kernel
theorem dX11_readArm_225 : decode cX11_readArm 225 = .ok (.bipush 30, 2) := by decide +kernel
theorem dX11_readArm_227 : decode cX11_readArm 227 = .ok (.iload_n 1, 1) := by decide +kernel
theorem dX11_readArm_228 : decode cX11_readArm 228 = .ok (.iadd, 1) := by decide +kernel
theorem dX11_readArm_229 : decode cX11_readArm 229 = .ok (.iconst 0, 1) := by decide +kernel
theorem dX11_readArm_230 : decode cX11_readArm 230 = .ok (.aload_n 0, 1) := by decide +kernel
theorem dX11_readArm_231 : decode cX11_readArm 231 = .ok (.getfield 20, 3) := by decide +kernel
theorem dX11_readArm_234 : decode cX11_readArm 234 = .ok (.bipush 22, 2) := by decide +kernel
theorem dX11_readArm_236 : decode cX11_readArm 236 = .ok (.iload_n 1, 1) := by decide +kernel
theorem dX11_readArm_237 : decode cX11_readArm 237 = .ok (.iadd, 1) := by decide +kernel
theorem dX11_readArm_238 : decode cX11_readArm 238 = .ok (.iaload, 1) := by decide +kernel
theorem dX11_readArm_239 : decode cX11_readArm 239 = .ok (.invokevirtual 134, 3) := by decide +kernel
theorem dX11_readArm_242 : decode cX11_readArm 242 = .ok (.ifCond .eq 21, 3) := by decide +kernel
theorem dX11_readArm_245 : decode cX11_readArm 245 = .ok (.aload_n 0, 1) := by decide +kernel
theorem dX11_readArm_246 : decode cX11_readArm 246 = .ok (.bipush 38, 2) := by decide +kernel
theorem dX11_readArm_248 : decode cX11_readArm 248 = .ok (.iload_n 1, 1) := by decide +kernel
theorem dX11_readArm_249 : decode cX11_readArm 249 = .ok (.iadd, 1) := by decide +kernel
theorem dX11_readArm_250 : decode cX11_readArm 250 = .ok (.iconst 0, 1) := by decide +kernel
theorem dX11_readArm_251 : decode cX11_readArm 251 = .ok (.bipush 9, 2) := by decide +kernel
theorem dX11_readArm_253 : decode cX11_readArm 253 = .ok (.invokevirtual 134, 3) := by decide +kernel
theorem dX11_readArm_256 : decode cX11_readArm 256 = .ok (.ifCond .eq 7, 3) := by decide +kernel
theorem dX11_readArm_259 : decode cX11_readArm 259 = .ok (.iconst 1, 1) := by decide +kernel
theorem dX11_readArm_260 : decode cX11_readArm 260 = .ok (.goto 4, 3) := by decide +kernel
theorem dX11_readArm_263 : decode cX11_readArm 263 = .ok (.iconst 0, 1) := by decide +kernel
theorem dX11_readArm_264 : decode cX11_readArm 264 = .ok (.ireturn, 1) := by decide +kernel
def lX11_readArm_0 : List (Nat × (Op ⊕ Nat)) := [(0, .inl (o_aload 0 1)), (1, .inl (o_get 11 8 4)), (4, .inl (o_pushI (nI 0) 5)), (5, .inl (o_iald 6)), (6, .inl (o_istore 1 7)), (7, .inl (o_iload 1 8)), (8, .inl (o_pushI (nI 8) 10)), (10, .inl (o_icmp_ne 19 13)), (13, .inl (o_aload 0 14)), (14, .inl (o_pushI (nI 4) 15)), (15, .inl (o_callV fX11_errs 1 11 18)), (18, .inr 1), (19, .inl (o_aload 0 20)), (20, .inl (o_callV fX11_goesOn 0 11 23)), (23, .inl (o_aload 0 24)), (24, .inl (o_callV fX11_isName 0 11 27)), (27, .inl (o_if_ne 36 30)), (30, .inl (o_aload 0 31)), (31, .inl (o_pushI (nI 1) 32)), (32, .inl (o_callV fX11_errs 1 11 35)), (35, .inr 1), (36, .inl (o_pushI (nI 0) 37)), (37, .inl (o_istore 2 38)), (38, .inl (o_iload 2 39)), (39, .inl (o_iload 1 40)), (40, .inl (o_icmp_ge 78 43)), (43, .inl (o_aload 0 44)), (44, .inl (o_aload 0 45)), (45, .inl (o_get 11 10 48)), (48, .inl (o_pushI (nI 7) 50)), (50, .inl (o_iload 2 51)), (51, .inl (o_imul 52)), (52, .inl (o_aload 0 53)), (53, .inl (o_get 11 12 56)), (56, .inl (o_aload 0 57)), (57, .inl (o_get 11 13 60)), (60, .inl (o_callV fX11_isAt 4 11 63)), (63, .inl (o_if_eq 72 66)), (66, .inl (o_aload 0 67)), (67, .inl (o_pushI (nI 3) 68))]
def lX11_readArm_1 : List (Nat × (Op ⊕ Nat)) := [(68, .inl (o_callV fX11_errs 1 11 71)), (71, .inr 1), (72, .inl (o_iinc 2 (nI 1) 75)), (75, .inl (o_goto 38)), (78, .inl (o_pushI (nI 0) 79)), (79, .inl (o_istore 2 80)), (80, .inl (o_iload 2 81)), (81, .inl (o_pushI (nI 7) 83)), (83, .inl (o_icmp_ge 131 86)), (86, .inl (o_aload 0 87)), (87, .inl (o_get 11 10 90)), (90, .inl (o_pushI (nI 7) 92)), (92, .inl (o_iload 1 93)), (93, .inl (o_imul 94)), (94, .inl (o_iload 2 95)), (95, .inl (o_iadd 96)), (96, .inl (o_aload 0 97)), (97, .inl (o_get 11 12 100)), (100, .inl (o_iload 2 101)), (101, .inl (o_iadd 102)), (102, .inl (o_aload 0 103)), (103, .inl (o_get 11 13 106)), (106, .inl (o_icmp_ge 123 109)), (109, .inl (o_aload 0 110)), (110, .inl (o_get 11 4 113)), (113, .inl (o_aload 0 114)), (114, .inl (o_get 11 12 117)), (117, .inl (o_iload 2 118)), (118, .inl (o_iadd 119)), (119, .inl (o_iald 120)), (120, .inl (o_goto 124)), (123, .inl (o_pushI (nI 0) 124)), (124, .inl (o_iast 125)), (125, .inl (o_iinc 2 (nI 1) 128)), (128, .inl (o_goto 80)), (131, .inl (o_aload 0 132)), (132, .inl (o_callV fX11_goesOn 0 11 135)), (135, .inl (o_aload 0 136)), (136, .inl (o_pushR 201 138)), (138, .inl (o_callV fX11_isWord 1 11 141))]
def lX11_readArm_2 : List (Nat × (Op ⊕ Nat)) := [(141, .inl (o_if_ne 159 144)), (144, .inl (o_aload 0 145)), (145, .inl (o_pushR 202 147)), (147, .inl (o_callV fX11_isWord 1 11 150)), (150, .inl (o_if_ne 159 153)), (153, .inl (o_aload 0 154)), (154, .inl (o_pushI (nI 1) 155)), (155, .inl (o_callV fX11_errs 1 11 158)), (158, .inr 1), (159, .inl (o_aload 0 160)), (160, .inl (o_get 11 8 163)), (163, .inl (o_pushI (nI 6) 165)), (165, .inl (o_iload 1 166)), (166, .inl (o_iadd 167)), (167, .inl (o_aload 0 168)), (168, .inl (o_pushR 201 170)), (170, .inl (o_callV fX11_isWord 1 11 173)), (173, .inl (o_if_eq 180 176)), (176, .inl (o_pushI (nI 0) 177)), (177, .inl (o_goto 181)), (180, .inl (o_pushI (nI 1) 181)), (181, .inl (o_iast 182)), (182, .inl (o_aload 0 183)), (183, .inl (o_callV fX11_goesOn 0 11 186)), (186, .inl (o_aload 0 187)), (187, .inl (o_get 11 8 190)), (190, .inl (o_pushI (nI 0) 191)), (191, .inl (o_dup2 192)), (192, .inl (o_iald 193)), (193, .inl (o_pushI (nI 1) 194)), (194, .inl (o_iadd 195)), (195, .inl (o_iast 196)), (196, .inl (o_aload 0 197)), (197, .inl (o_pushI (nI 14) 199)), (199, .inl (o_iload 1 200)), (200, .inl (o_iadd 201)), (201, .inl (o_pushI (nI 1) 202)), (202, .inl (o_pushI (nI 99) 204)), (204, .inl (o_callV fX11_takes 3 11 207)), (207, .inl (o_if_eq 263 210))]
def lX11_readArm_3 : List (Nat × (Op ⊕ Nat)) := [(210, .inl (o_aload 0 211)), (211, .inl (o_pushI (nI 22) 213)), (213, .inl (o_iload 1 214)), (214, .inl (o_iadd 215)), (215, .inl (o_pushI (nI 1) 216)), (216, .inl (o_pushI (nI 120) 218)), (218, .inl (o_callV fX11_takes 3 11 221)), (221, .inl (o_if_eq 263 224)), (224, .inl (o_aload 0 225)), (225, .inl (o_pushI (nI 30) 227)), (227, .inl (o_iload 1 228)), (228, .inl (o_iadd 229)), (229, .inl (o_pushI (nI 0) 230)), (230, .inl (o_aload 0 231)), (231, .inl (o_get 11 8 234)), (234, .inl (o_pushI (nI 22) 236)), (236, .inl (o_iload 1 237)), (237, .inl (o_iadd 238)), (238, .inl (o_iald 239)), (239, .inl (o_callV fX11_takes 3 11 242)), (242, .inl (o_if_eq 263 245)), (245, .inl (o_aload 0 246)), (246, .inl (o_pushI (nI 38) 248)), (248, .inl (o_iload 1 249)), (249, .inl (o_iadd 250)), (250, .inl (o_pushI (nI 0) 251)), (251, .inl (o_pushI (nI 9) 253)), (253, .inl (o_callV fX11_takes 3 11 256)), (256, .inl (o_if_eq 263 259)), (259, .inl (o_pushI (nI 1) 260)), (260, .inl (o_goto 264)), (263, .inl (o_pushI (nI 0) 264)), (264, .inr 1)]
def lX11_readArm : List (Nat × (Op ⊕ Nat)) := lX11_readArm_0 ++ (lX11_readArm_1 ++ (lX11_readArm_2 ++ (lX11_readArm_3)))
theorem qX11_readArm : yX11_readArm.cls = RX11 ∧ yX11_readArm.cls ≠ "java/lang/invoke/MethodHandle" ∧ yX11_readArm.cls ≠ "java/lang/invoke/VarHandle" ∧ (parseMethodDescriptor yX11_readArm.desc).map (fun d => d.parameters.length) = some 0 := by decide +kernel
set_option maxRecDepth 10000 in
theorem hX11_readArm_0 (l : Launch) {p : Program} {e : Env} {s : State} {m : MethodId} {args : Array Value} {below : List Frame} {meth : Method} {c : Code} {D : va_G} {ad adV : Nat → Nat} {cA : Nat → ClassId} {K : Kt} (C0 : Cx p s m args meth c D ad adV cA cX11_readArm 3 RX11) (hr : meth.sig.returnType = (some .boolean)) : ∀ q ∈ lX11_readArm_0, Sd p l e (rmd 7) s m args below meth c (MQ below (QQ D ad cA K) args s 0 0 (AA ad)) D ad cA 3 q.1 (opOf K q.2) := List.forall_mem_cons.mpr ⟨s_aload_n C0 dX11_readArm_0 rfl, List.forall_mem_cons.mpr ⟨s_get (ci := 11) (k := 8) C0 dX11_readArm_1 inX11 rfl (by decide) tw6_19, List.forall_mem_cons.mpr ⟨s_iconst C0 dX11_readArm_4 rfl, List.forall_mem_cons.mpr ⟨s_iald C0 dX11_readArm_5, List.forall_mem_cons.mpr ⟨s_istore_n C0 dX11_readArm_6 rfl (by decide), List.forall_mem_cons.mpr ⟨s_iload_n C0 dX11_readArm_7 rfl, List.forall_mem_cons.mpr ⟨s_bipush C0 dX11_readArm_8 (by decide +kernel), List.forall_mem_cons.mpr ⟨s_icmp_ne C0 dX11_readArm_10 rfl, List.forall_mem_cons.mpr ⟨s_aload_n C0 dX11_readArm_13 rfl, List.forall_mem_cons.mpr ⟨s_iconst C0 dX11_readArm_14 rfl, List.forall_mem_cons.mpr ⟨s_callV (ci := 11) C0 (kX11_errs l) dX11_readArm_15 rfl qX11_errs tw6_149 tw6_151 twp_48 tw1_12 tw6_152 rfl (by decide) (by decide), List.forall_mem_cons.mpr ⟨s_zret C0 hr dX11_readArm_18, List.forall_mem_cons.mpr ⟨s_aload_n C0 dX11_readArm_19 rfl, List.forall_mem_cons.mpr ⟨s_callV (ci := 11) C0 (kX11_goesOn l) dX11_readArm_20 rfl qX11_goesOn tw6_126 tw6_128 twp_43 tw1_12 tw6_129 rfl (by decide) (by decide), List.forall_mem_cons.mpr ⟨s_aload_n C0 dX11_readArm_23 rfl, List.forall_mem_cons.mpr ⟨s_callV (ci := 11) C0 (kX11_isName l) dX11_readArm_24 rfl qX11_isName tw6_153 tw6_155 twp_49 tw1_12 tw6_156 rfl (by decide) (by decide), List.forall_mem_cons.mpr ⟨s_if_ne C0 dX11_readArm_27 rfl, List.forall_mem_cons.mpr ⟨s_aload_n C0 dX11_readArm_30 rfl, List.forall_mem_cons.mpr ⟨s_iconst C0 dX11_readArm_31 rfl, List.forall_mem_cons.mpr ⟨s_callV (ci := 11) C0 (kX11_errs l) dX11_readArm_32 rfl qX11_errs tw6_149 tw6_151 twp_48 tw1_12 tw6_152 rfl (by decide) (by decide), List.forall_mem_cons.mpr ⟨s_zret C0 hr dX11_readArm_35, List.forall_mem_cons.mpr ⟨s_iconst C0 dX11_readArm_36 rfl, List.forall_mem_cons.mpr ⟨s_istore_n C0 dX11_readArm_37 rfl (by decide), List.forall_mem_cons.mpr ⟨s_iload_n C0 dX11_readArm_38 rfl, List.forall_mem_cons.mpr ⟨s_iload_n C0 dX11_readArm_39 rfl, List.forall_mem_cons.mpr ⟨s_icmp_ge C0 dX11_readArm_40 rfl, List.forall_mem_cons.mpr ⟨s_aload_n C0 dX11_readArm_43 rfl, List.forall_mem_cons.mpr ⟨s_aload_n C0 dX11_readArm_44 rfl, List.forall_mem_cons.mpr ⟨s_get (ci := 11) (k := 10) C0 dX11_readArm_45 inX11 rfl (by decide) tw6_21, List.forall_mem_cons.mpr ⟨s_bipush C0 dX11_readArm_48 (by decide +kernel), List.forall_mem_cons.mpr ⟨s_iload_n C0 dX11_readArm_50 rfl, List.forall_mem_cons.mpr ⟨s_imul C0 dX11_readArm_51, List.forall_mem_cons.mpr ⟨s_aload_n C0 dX11_readArm_52 rfl, List.forall_mem_cons.mpr ⟨s_get (ci := 11) (k := 12) C0 dX11_readArm_53 inX11 rfl (by decide) tw6_23, List.forall_mem_cons.mpr ⟨s_aload_n C0 dX11_readArm_56 rfl, List.forall_mem_cons.mpr ⟨s_get (ci := 11) (k := 13) C0 dX11_readArm_57 inX11 rfl (by decide) tw6_24, List.forall_mem_cons.mpr ⟨s_callV (ci := 11) C0 (kX11_isAt l) dX11_readArm_60 rfl qX11_isAt tw6_164 tw6_166 twp_50 tw1_12 tw6_167 rfl (by decide) (by decide), List.forall_mem_cons.mpr ⟨s_if_eq C0 dX11_readArm_63 rfl, List.forall_mem_cons.mpr ⟨s_aload_n C0 dX11_readArm_66 rfl, List.forall_mem_cons.mpr ⟨s_iconst C0 dX11_readArm_67 rfl, fun _ h => absurd h List.not_mem_nil⟩⟩⟩⟩⟩⟩⟩⟩⟩⟩⟩⟩⟩⟩⟩⟩⟩⟩⟩⟩⟩⟩⟩⟩⟩⟩⟩⟩⟩⟩⟩⟩⟩⟩⟩⟩⟩⟩⟩⟩
set_option maxRecDepth 10000 in
theorem hX11_readArm_1 (l : Launch) {p : Program} {e : Env} {s : State} {m : MethodId} {args : Array Value} {below : List Frame} {meth : Method} {c : Code} {D : va_G} {ad adV : Nat → Nat} {cA : Nat → ClassId} {K : Kt} (C0 : Cx p s m args meth c D ad adV cA cX11_readArm 3 RX11) (hr : meth.sig.returnType = (some .boolean)) : ∀ q ∈ lX11_readArm_1, Sd p l e (rmd 7) s m args below meth c (MQ below (QQ D ad cA K) args s 0 0 (AA ad)) D ad cA 3 q.1 (opOf K q.2) := List.forall_mem_cons.mpr ⟨s_callV (ci := 11) C0 (kX11_errs l) dX11_readArm_68 rfl qX11_errs tw6_149 tw6_151 twp_48 tw1_12 tw6_152 rfl (by decide) (by decide), List.forall_mem_cons.mpr ⟨s_zret C0 hr dX11_readArm_71, List.forall_mem_cons.mpr ⟨s_iinc C0 dX11_readArm_72 rfl (by decide), List.forall_mem_cons.mpr ⟨s_goto C0 dX11_readArm_75 rfl, List.forall_mem_cons.mpr ⟨s_iconst C0 dX11_readArm_78 rfl, List.forall_mem_cons.mpr ⟨s_istore_n C0 dX11_readArm_79 rfl (by decide), List.forall_mem_cons.mpr ⟨s_iload_n C0 dX11_readArm_80 rfl, List.forall_mem_cons.mpr ⟨s_bipush C0 dX11_readArm_81 (by decide +kernel), List.forall_mem_cons.mpr ⟨s_icmp_ge C0 dX11_readArm_83 rfl, List.forall_mem_cons.mpr ⟨s_aload_n C0 dX11_readArm_86 rfl, List.forall_mem_cons.mpr ⟨s_get (ci := 11) (k := 10) C0 dX11_readArm_87 inX11 rfl (by decide) tw6_21, List.forall_mem_cons.mpr ⟨s_bipush C0 dX11_readArm_90 (by decide +kernel), List.forall_mem_cons.mpr ⟨s_iload_n C0 dX11_readArm_92 rfl, List.forall_mem_cons.mpr ⟨s_imul C0 dX11_readArm_93, List.forall_mem_cons.mpr ⟨s_iload_n C0 dX11_readArm_94 rfl, List.forall_mem_cons.mpr ⟨s_iadd C0 dX11_readArm_95, List.forall_mem_cons.mpr ⟨s_aload_n C0 dX11_readArm_96 rfl, List.forall_mem_cons.mpr ⟨s_get (ci := 11) (k := 12) C0 dX11_readArm_97 inX11 rfl (by decide) tw6_23, List.forall_mem_cons.mpr ⟨s_iload_n C0 dX11_readArm_100 rfl, List.forall_mem_cons.mpr ⟨s_iadd C0 dX11_readArm_101, List.forall_mem_cons.mpr ⟨s_aload_n C0 dX11_readArm_102 rfl, List.forall_mem_cons.mpr ⟨s_get (ci := 11) (k := 13) C0 dX11_readArm_103 inX11 rfl (by decide) tw6_24, List.forall_mem_cons.mpr ⟨s_icmp_ge C0 dX11_readArm_106 rfl, List.forall_mem_cons.mpr ⟨s_aload_n C0 dX11_readArm_109 rfl, List.forall_mem_cons.mpr ⟨s_get (ci := 11) (k := 4) C0 dX11_readArm_110 inX11 rfl (by decide) tw6_15, List.forall_mem_cons.mpr ⟨s_aload_n C0 dX11_readArm_113 rfl, List.forall_mem_cons.mpr ⟨s_get (ci := 11) (k := 12) C0 dX11_readArm_114 inX11 rfl (by decide) tw6_23, List.forall_mem_cons.mpr ⟨s_iload_n C0 dX11_readArm_117 rfl, List.forall_mem_cons.mpr ⟨s_iadd C0 dX11_readArm_118, List.forall_mem_cons.mpr ⟨s_iald C0 dX11_readArm_119, List.forall_mem_cons.mpr ⟨s_goto C0 dX11_readArm_120 rfl, List.forall_mem_cons.mpr ⟨s_iconst C0 dX11_readArm_123 rfl, List.forall_mem_cons.mpr ⟨s_iast C0 dX11_readArm_124, List.forall_mem_cons.mpr ⟨s_iinc C0 dX11_readArm_125 rfl (by decide), List.forall_mem_cons.mpr ⟨s_goto C0 dX11_readArm_128 rfl, List.forall_mem_cons.mpr ⟨s_aload_n C0 dX11_readArm_131 rfl, List.forall_mem_cons.mpr ⟨s_callV (ci := 11) C0 (kX11_goesOn l) dX11_readArm_132 rfl qX11_goesOn tw6_126 tw6_128 twp_43 tw1_12 tw6_129 rfl (by decide) (by decide), List.forall_mem_cons.mpr ⟨s_aload_n C0 dX11_readArm_135 rfl, List.forall_mem_cons.mpr ⟨s_ldcS (tx := "left") (k := 1) C0 dX11_readArm_136 (List.mem_of_getElem? (i := 9) rfl), List.forall_mem_cons.mpr ⟨s_callV (ci := 11) C0 (kX11_isWord l) dX11_readArm_138 rfl qX11_isWord tw6_139 tw6_141 twp_46 tw1_12 tw6_142 rfl (by decide) (by decide), fun _ h => absurd h List.not_mem_nil⟩⟩⟩⟩⟩⟩⟩⟩⟩⟩⟩⟩⟩⟩⟩⟩⟩⟩⟩⟩⟩⟩⟩⟩⟩⟩⟩⟩⟩⟩⟩⟩⟩⟩⟩⟩⟩⟩⟩⟩
set_option maxRecDepth 10000 in
theorem hX11_readArm_2 (l : Launch) {p : Program} {e : Env} {s : State} {m : MethodId} {args : Array Value} {below : List Frame} {meth : Method} {c : Code} {D : va_G} {ad adV : Nat → Nat} {cA : Nat → ClassId} {K : Kt} (C0 : Cx p s m args meth c D ad adV cA cX11_readArm 3 RX11) (hr : meth.sig.returnType = (some .boolean)) : ∀ q ∈ lX11_readArm_2, Sd p l e (rmd 7) s m args below meth c (MQ below (QQ D ad cA K) args s 0 0 (AA ad)) D ad cA 3 q.1 (opOf K q.2) := List.forall_mem_cons.mpr ⟨s_if_ne C0 dX11_readArm_141 rfl, List.forall_mem_cons.mpr ⟨s_aload_n C0 dX11_readArm_144 rfl, List.forall_mem_cons.mpr ⟨s_ldcS (tx := "right") (k := 2) C0 dX11_readArm_145 (List.mem_of_getElem? (i := 10) rfl), List.forall_mem_cons.mpr ⟨s_callV (ci := 11) C0 (kX11_isWord l) dX11_readArm_147 rfl qX11_isWord tw6_139 tw6_141 twp_46 tw1_12 tw6_142 rfl (by decide) (by decide), List.forall_mem_cons.mpr ⟨s_if_ne C0 dX11_readArm_150 rfl, List.forall_mem_cons.mpr ⟨s_aload_n C0 dX11_readArm_153 rfl, List.forall_mem_cons.mpr ⟨s_iconst C0 dX11_readArm_154 rfl, List.forall_mem_cons.mpr ⟨s_callV (ci := 11) C0 (kX11_errs l) dX11_readArm_155 rfl qX11_errs tw6_149 tw6_151 twp_48 tw1_12 tw6_152 rfl (by decide) (by decide), List.forall_mem_cons.mpr ⟨s_zret C0 hr dX11_readArm_158, List.forall_mem_cons.mpr ⟨s_aload_n C0 dX11_readArm_159 rfl, List.forall_mem_cons.mpr ⟨s_get (ci := 11) (k := 8) C0 dX11_readArm_160 inX11 rfl (by decide) tw6_19, List.forall_mem_cons.mpr ⟨s_bipush C0 dX11_readArm_163 (by decide +kernel), List.forall_mem_cons.mpr ⟨s_iload_n C0 dX11_readArm_165 rfl, List.forall_mem_cons.mpr ⟨s_iadd C0 dX11_readArm_166, List.forall_mem_cons.mpr ⟨s_aload_n C0 dX11_readArm_167 rfl, List.forall_mem_cons.mpr ⟨s_ldcS (tx := "left") (k := 1) C0 dX11_readArm_168 (List.mem_of_getElem? (i := 9) rfl), List.forall_mem_cons.mpr ⟨s_callV (ci := 11) C0 (kX11_isWord l) dX11_readArm_170 rfl qX11_isWord tw6_139 tw6_141 twp_46 tw1_12 tw6_142 rfl (by decide) (by decide), List.forall_mem_cons.mpr ⟨s_if_eq C0 dX11_readArm_173 rfl, List.forall_mem_cons.mpr ⟨s_iconst C0 dX11_readArm_176 rfl, List.forall_mem_cons.mpr ⟨s_goto C0 dX11_readArm_177 rfl, List.forall_mem_cons.mpr ⟨s_iconst C0 dX11_readArm_180 rfl, List.forall_mem_cons.mpr ⟨s_iast C0 dX11_readArm_181, List.forall_mem_cons.mpr ⟨s_aload_n C0 dX11_readArm_182 rfl, List.forall_mem_cons.mpr ⟨s_callV (ci := 11) C0 (kX11_goesOn l) dX11_readArm_183 rfl qX11_goesOn tw6_126 tw6_128 twp_43 tw1_12 tw6_129 rfl (by decide) (by decide), List.forall_mem_cons.mpr ⟨s_aload_n C0 dX11_readArm_186 rfl, List.forall_mem_cons.mpr ⟨s_get (ci := 11) (k := 8) C0 dX11_readArm_187 inX11 rfl (by decide) tw6_19, List.forall_mem_cons.mpr ⟨s_iconst C0 dX11_readArm_190 rfl, List.forall_mem_cons.mpr ⟨s_dup2 C0 dX11_readArm_191, List.forall_mem_cons.mpr ⟨s_iald C0 dX11_readArm_192, List.forall_mem_cons.mpr ⟨s_iconst C0 dX11_readArm_193 rfl, List.forall_mem_cons.mpr ⟨s_iadd C0 dX11_readArm_194, List.forall_mem_cons.mpr ⟨s_iast C0 dX11_readArm_195, List.forall_mem_cons.mpr ⟨s_aload_n C0 dX11_readArm_196 rfl, List.forall_mem_cons.mpr ⟨s_bipush C0 dX11_readArm_197 (by decide +kernel), List.forall_mem_cons.mpr ⟨s_iload_n C0 dX11_readArm_199 rfl, List.forall_mem_cons.mpr ⟨s_iadd C0 dX11_readArm_200, List.forall_mem_cons.mpr ⟨s_iconst C0 dX11_readArm_201 rfl, List.forall_mem_cons.mpr ⟨s_bipush C0 dX11_readArm_202 (by decide +kernel), List.forall_mem_cons.mpr ⟨s_callV (ci := 11) C0 (kX11_takes l) dX11_readArm_204 rfl qX11_takes tw6_168 tw6_170 twp_51 tw1_12 tw6_171 rfl (by decide) (by decide), List.forall_mem_cons.mpr ⟨s_if_eq C0 dX11_readArm_207 rfl, fun _ h => absurd h List.not_mem_nil⟩⟩⟩⟩⟩⟩⟩⟩⟩⟩⟩⟩⟩⟩⟩⟩⟩⟩⟩⟩⟩⟩⟩⟩⟩⟩⟩⟩⟩⟩⟩⟩⟩⟩⟩⟩⟩⟩⟩⟩
set_option maxRecDepth 10000 in
theorem hX11_readArm_3 (l : Launch) {p : Program} {e : Env} {s : State} {m : MethodId} {args : Array Value} {below : List Frame} {meth : Method} {c : Code} {D : va_G} {ad adV : Nat → Nat} {cA : Nat → ClassId} {K : Kt} (C0 : Cx p s m args meth c D ad adV cA cX11_readArm 3 RX11) (hr : meth.sig.returnType = (some .boolean)) : ∀ q ∈ lX11_readArm_3, Sd p l e (rmd 7) s m args below meth c (MQ below (QQ D ad cA K) args s 0 0 (AA ad)) D ad cA 3 q.1 (opOf K q.2) := List.forall_mem_cons.mpr ⟨s_aload_n C0 dX11_readArm_210 rfl, List.forall_mem_cons.mpr ⟨s_bipush C0 dX11_readArm_211 (by decide +kernel), List.forall_mem_cons.mpr ⟨s_iload_n C0 dX11_readArm_213 rfl, List.forall_mem_cons.mpr ⟨s_iadd C0 dX11_readArm_214, List.forall_mem_cons.mpr ⟨s_iconst C0 dX11_readArm_215 rfl, List.forall_mem_cons.mpr ⟨s_bipush C0 dX11_readArm_216 (by decide +kernel), List.forall_mem_cons.mpr ⟨s_callV (ci := 11) C0 (kX11_takes l) dX11_readArm_218 rfl qX11_takes tw6_168 tw6_170 twp_51 tw1_12 tw6_171 rfl (by decide) (by decide), List.forall_mem_cons.mpr ⟨s_if_eq C0 dX11_readArm_221 rfl, List.forall_mem_cons.mpr ⟨s_aload_n C0 dX11_readArm_224 rfl, List.forall_mem_cons.mpr ⟨s_bipush C0 dX11_readArm_225 (by decide +kernel), List.forall_mem_cons.mpr ⟨s_iload_n C0 dX11_readArm_227 rfl, List.forall_mem_cons.mpr ⟨s_iadd C0 dX11_readArm_228, List.forall_mem_cons.mpr ⟨s_iconst C0 dX11_readArm_229 rfl, List.forall_mem_cons.mpr ⟨s_aload_n C0 dX11_readArm_230 rfl, List.forall_mem_cons.mpr ⟨s_get (ci := 11) (k := 8) C0 dX11_readArm_231 inX11 rfl (by decide) tw6_19, List.forall_mem_cons.mpr ⟨s_bipush C0 dX11_readArm_234 (by decide +kernel), List.forall_mem_cons.mpr ⟨s_iload_n C0 dX11_readArm_236 rfl, List.forall_mem_cons.mpr ⟨s_iadd C0 dX11_readArm_237, List.forall_mem_cons.mpr ⟨s_iald C0 dX11_readArm_238, List.forall_mem_cons.mpr ⟨s_callV (ci := 11) C0 (kX11_takes l) dX11_readArm_239 rfl qX11_takes tw6_168 tw6_170 twp_51 tw1_12 tw6_171 rfl (by decide) (by decide), List.forall_mem_cons.mpr ⟨s_if_eq C0 dX11_readArm_242 rfl, List.forall_mem_cons.mpr ⟨s_aload_n C0 dX11_readArm_245 rfl, List.forall_mem_cons.mpr ⟨s_bipush C0 dX11_readArm_246 (by decide +kernel), List.forall_mem_cons.mpr ⟨s_iload_n C0 dX11_readArm_248 rfl, List.forall_mem_cons.mpr ⟨s_iadd C0 dX11_readArm_249, List.forall_mem_cons.mpr ⟨s_iconst C0 dX11_readArm_250 rfl, List.forall_mem_cons.mpr ⟨s_bipush C0 dX11_readArm_251 (by decide +kernel), List.forall_mem_cons.mpr ⟨s_callV (ci := 11) C0 (kX11_takes l) dX11_readArm_253 rfl qX11_takes tw6_168 tw6_170 twp_51 tw1_12 tw6_171 rfl (by decide) (by decide), List.forall_mem_cons.mpr ⟨s_if_eq C0 dX11_readArm_256 rfl, List.forall_mem_cons.mpr ⟨s_iconst C0 dX11_readArm_259 rfl, List.forall_mem_cons.mpr ⟨s_goto C0 dX11_readArm_260 rfl, List.forall_mem_cons.mpr ⟨s_iconst C0 dX11_readArm_263 rfl, List.forall_mem_cons.mpr ⟨s_zret C0 hr dX11_readArm_264, fun _ h => absurd h List.not_mem_nil⟩⟩⟩⟩⟩⟩⟩⟩⟩⟩⟩⟩⟩⟩⟩⟩⟩⟩⟩⟩⟩⟩⟩⟩⟩⟩⟩⟩⟩⟩⟩⟩⟩
def fX11_readArm : Mf := mf 3 (fun K => tl K lX11_readArm)
theorem kX11_readArm (l : Launch) : Okm l yX11_readArm cX11_readArm 3 (some .boolean) 7 fX11_readArm := Okm_tl (own := RX11) (by decide +kernel) rfl (fun C0 hr => List.forall_mem_append.mpr ⟨hX11_readArm_0 l C0 hr, List.forall_mem_append.mpr ⟨hX11_readArm_1 l C0 hr, List.forall_mem_append.mpr ⟨hX11_readArm_2 l C0 hr, hX11_readArm_3 l C0 hr⟩⟩⟩)
theorem dX11_readGame_0 : decode cX11_readGame 0 = .ok (.aload_n 0, 1) := by decide +kernel
theorem dX11_readGame_1 : decode cX11_readGame 1 = .ok (.getfield 20, 3) := by decide +kernel
theorem dX11_readGame_4 : decode cX11_readGame 4 = .ok (.iconst 1, 1) := by decide +kernel
theorem dX11_readGame_5 : decode cX11_readGame 5 = .ok (.iaload, 1) := by decide +kernel
theorem dX11_readGame_6 : decode cX11_readGame 6 = .ok (.istore_n 1, 1) := by decide +kernel
theorem dX11_readGame_7 : decode cX11_readGame 7 = .ok (.iload_n 1, 1) := by decide +kernel
theorem dX11_readGame_8 : decode cX11_readGame 8 = .ok (.bipush 20, 2) := by decide +kernel
theorem dX11_readGame_10 : decode cX11_readGame 10 = .ok (.if_icmp .ne 9, 3) := by decide +kernel
theorem dX11_readGame_13 : decode cX11_readGame 13 = .ok (.aload_n 0, 1) := by decide +kernel
theorem dX11_readGame_14 : decode cX11_readGame 14 = .ok (.iconst 4, 1) := by decide +kernel
theorem dX11_readGame_15 : decode cX11_readGame 15 = .ok (.invokevirtual 119, 3) := by decide +kernel
theorem dX11_readGame_18 : decode cX11_readGame 18 = .ok (.ireturn, 1) := by decide +kernel
theorem dX11_readGame_19 : decode cX11_readGame 19 = .ok (.aload_n 0, 1) := by decide +kernel
theorem dX11_readGame_20 : decode cX11_readGame 20 = .ok (.invokevirtual 123, 3) := by decide +kernel
theorem dX11_readGame_23 : decode cX11_readGame 23 = .ok (.aload_n 0, 1) := by decide +kernel
theorem dX11_readGame_24 : decode cX11_readGame 24 = .ok (.getfield 20, 3) := by decide +kernel
theorem dX11_readGame_27 : decode cX11_readGame 27 = .ok (.iconst 1, 1) := by decide +kernel
theorem dX11_readGame_28 : decode cX11_readGame 28 = .ok (.dup2, 1) := by decide +kernel
theorem dX11_readGame_29 : decode cX11_readGame 29 = .ok (.iaload, 1) := by decide +kernel
theorem dX11_readGame_30 : decode cX11_readGame 30 = .ok (.iconst 1, 1) := by decide +kernel
theorem dX11_readGame_31 : decode cX11_readGame 31 = .ok (.iadd, 1) := by decide +kernel
theorem dX11_readGame_32 : decode cX11_readGame 32 = .ok (.iastore, 1) := by decide +kernel
theorem dX11_readGame_33 : decode cX11_readGame 33 = .ok (.aload_n 0, 1) := by decide +kernel
theorem dX11_readGame_34 : decode cX11_readGame 34 = .ok (.bipush 46, 2) := by decide +kernel
theorem dX11_readGame_36 : decode cX11_readGame 36 = .ok (.iload_n 1, 1) := by decide +kernel
theorem dX11_readGame_37 : decode cX11_readGame 37 = .ok (.iadd, 1) := by decide +kernel
theorem dX11_readGame_38 : decode cX11_readGame 38 = .ok (.iload_n 1, 1) := by decide +kernel
theorem dX11_readGame_39 : decode cX11_readGame 39 = .ok (.ifCond .ne 7, 3) := by decide +kernel
theorem dX11_readGame_42 : decode cX11_readGame 42 = .ok (.iconst 0, 1) := by decide +kernel
theorem dX11_readGame_43 : decode cX11_readGame 43 = .ok (.goto 16, 3) := by decide +kernel
theorem dX11_readGame_46 : decode cX11_readGame 46 = .ok (.aload_n 0, 1) := by decide +kernel
theorem dX11_readGame_47 : decode cX11_readGame 47 = .ok (.getfield 20, 3) := by decide +kernel
theorem dX11_readGame_50 : decode cX11_readGame 50 = .ok (.bipush 46, 2) := by decide +kernel
theorem dX11_readGame_52 : decode cX11_readGame 52 = .ok (.iload_n 1, 1) := by decide +kernel
theorem dX11_readGame_53 : decode cX11_readGame 53 = .ok (.iadd, 1) := by decide +kernel
theorem dX11_readGame_54 : decode cX11_readGame 54 = .ok (.iconst 1, 1) := by decide +kernel
theorem dX11_readGame_55 : decode cX11_readGame 55 = .ok (.isub, 1) := by decide +kernel
theorem dX11_readGame_56 : decode cX11_readGame 56 = .ok (.iaload, 1) := by decide +kernel
theorem dX11_readGame_57 : decode cX11_readGame 57 = .ok (.iconst 1, 1) := by decide +kernel
theorem dX11_readGame_58 : decode cX11_readGame 58 = .ok (.iadd, 1) := by decide +kernel
theorem dX11_readGame_59 : decode cX11_readGame 59 = .ok (.bipush 59, 2) := by decide +kernel
theorem dX11_readGame_61 : decode cX11_readGame 61 = .ok (.invokevirtual 134, 3) := by decide +kernel
theorem dX11_readGame_64 : decode cX11_readGame 64 = .ok (.ifCond .eq 36, 3) := by decide +kernel
theorem dX11_readGame_67 : decode cX11_readGame 67 = .ok (.aload_n 0, 1) := by decide +kernel
theorem dX11_readGame_68 : decode cX11_readGame 68 = .ok (.bipush 66, 2) := by decide +kernel
theorem dX11_readGame_70 : decode cX11_readGame 70 = .ok (.iload_n 1, 1) := by decide +kernel
theorem dX11_readGame_71 : decode cX11_readGame 71 = .ok (.iadd, 1) := by decide +kernel
theorem dX11_readGame_72 : decode cX11_readGame 72 = .ok (.iconst 0, 1) := by decide +kernel
theorem dX11_readGame_73 : decode cX11_readGame 73 = .ok (.bipush 9, 2) := by decide +kernel
theorem dX11_readGame_75 : decode cX11_readGame 75 = .ok (.invokevirtual 134, 3) := by decide +kernel
theorem dX11_readGame_78 : decode cX11_readGame 78 = .ok (.ifCond .eq 22, 3) := by decide +kernel
theorem dX11_readGame_81 : decode cX11_readGame 81 = .ok (.aload_n 0, 1) := by decide +kernel
theorem dX11_readGame_82 : decode cX11_readGame 82 = .ok (.bipush 86, 2) := by decide +kernel
theorem dX11_readGame_84 : decode cX11_readGame 84 = .ok (.iload_n 1, 1) := by decide +kernel
theorem dX11_readGame_85 : decode cX11_readGame 85 = .ok (.iadd, 1) := by decide +kernel
theorem dX11_readGame_86 : decode cX11_readGame 86 = .ok (.iconst 1, 1) := by decide +kernel
theorem dX11_readGame_87 : decode cX11_readGame 87 = .ok (.sipush 200, 3) := by decide +kernel
theorem dX11_readGame_90 : decode cX11_readGame 90 = .ok (.invokevirtual 134, 3) := by decide +kernel
theorem dX11_readGame_93 : decode cX11_readGame 93 = .ok (.ifCond .eq 7, 3) := by decide +kernel
theorem dX11_readGame_96 : decode cX11_readGame 96 = .ok (.iconst 1, 1) := by decide +kernel
theorem dX11_readGame_97 : decode cX11_readGame 97 = .ok (.goto 4, 3) := by decide +kernel
theorem dX11_readGame_100 : decode cX11_readGame 100 = .ok (.iconst 0, 1) := by decide +kernel
theorem dX11_readGame_101 : decode cX11_readGame 101 = .ok (.ireturn, 1) := by decide +kernel
def lX11_readGame_0 : List (Nat × (Op ⊕ Nat)) := [(0, .inl (o_aload 0 1)), (1, .inl (o_get 11 8 4)), (4, .inl (o_pushI (nI 1) 5)), (5, .inl (o_iald 6)), (6, .inl (o_istore 1 7)), (7, .inl (o_iload 1 8)), (8, .inl (o_pushI (nI 20) 10)), (10, .inl (o_icmp_ne 19 13)), (13, .inl (o_aload 0 14)), (14, .inl (o_pushI (nI 4) 15)), (15, .inl (o_callV fX11_errs 1 11 18)), (18, .inr 1), (19, .inl (o_aload 0 20)), (20, .inl (o_callV fX11_goesOn 0 11 23)), (23, .inl (o_aload 0 24)), (24, .inl (o_get 11 8 27)), (27, .inl (o_pushI (nI 1) 28)), (28, .inl (o_dup2 29)), (29, .inl (o_iald 30)), (30, .inl (o_pushI (nI 1) 31)), (31, .inl (o_iadd 32)), (32, .inl (o_iast 33)), (33, .inl (o_aload 0 34)), (34, .inl (o_pushI (nI 46) 36)), (36, .inl (o_iload 1 37)), (37, .inl (o_iadd 38)), (38, .inl (o_iload 1 39)), (39, .inl (o_if_ne 46 42)), (42, .inl (o_pushI (nI 0) 43)), (43, .inl (o_goto 59)), (46, .inl (o_aload 0 47)), (47, .inl (o_get 11 8 50)), (50, .inl (o_pushI (nI 46) 52)), (52, .inl (o_iload 1 53)), (53, .inl (o_iadd 54)), (54, .inl (o_pushI (nI 1) 55)), (55, .inl (o_isub 56)), (56, .inl (o_iald 57)), (57, .inl (o_pushI (nI 1) 58)), (58, .inl (o_iadd 59))]
def lX11_readGame_1 : List (Nat × (Op ⊕ Nat)) := [(59, .inl (o_pushI (nI 59) 61)), (61, .inl (o_callV fX11_takes 3 11 64)), (64, .inl (o_if_eq 100 67)), (67, .inl (o_aload 0 68)), (68, .inl (o_pushI (nI 66) 70)), (70, .inl (o_iload 1 71)), (71, .inl (o_iadd 72)), (72, .inl (o_pushI (nI 0) 73)), (73, .inl (o_pushI (nI 9) 75)), (75, .inl (o_callV fX11_takes 3 11 78)), (78, .inl (o_if_eq 100 81)), (81, .inl (o_aload 0 82)), (82, .inl (o_pushI (nI 86) 84)), (84, .inl (o_iload 1 85)), (85, .inl (o_iadd 86)), (86, .inl (o_pushI (nI 1) 87)), (87, .inl (o_pushI (nI 200) 90)), (90, .inl (o_callV fX11_takes 3 11 93)), (93, .inl (o_if_eq 100 96)), (96, .inl (o_pushI (nI 1) 97)), (97, .inl (o_goto 101)), (100, .inl (o_pushI (nI 0) 101)), (101, .inr 1)]
def lX11_readGame : List (Nat × (Op ⊕ Nat)) := lX11_readGame_0 ++ (lX11_readGame_1)
theorem qX11_readGame : yX11_readGame.cls = RX11 ∧ yX11_readGame.cls ≠ "java/lang/invoke/MethodHandle" ∧ yX11_readGame.cls ≠ "java/lang/invoke/VarHandle" ∧ (parseMethodDescriptor yX11_readGame.desc).map (fun d => d.parameters.length) = some 0 := by decide +kernel
set_option maxRecDepth 10000 in
theorem hX11_readGame_0 (l : Launch) {p : Program} {e : Env} {s : State} {m : MethodId} {args : Array Value} {below : List Frame} {meth : Method} {c : Code} {D : va_G} {ad adV : Nat → Nat} {cA : Nat → ClassId} {K : Kt} (C0 : Cx p s m args meth c D ad adV cA cX11_readGame 2 RX11) (hr : meth.sig.returnType = (some .boolean)) : ∀ q ∈ lX11_readGame_0, Sd p l e (rmd 3) s m args below meth c (MQ below (QQ D ad cA K) args s 0 0 (AA ad)) D ad cA 2 q.1 (opOf K q.2) := List.forall_mem_cons.mpr ⟨s_aload_n C0 dX11_readGame_0 rfl, List.forall_mem_cons.mpr ⟨s_get (ci := 11) (k := 8) C0 dX11_readGame_1 inX11 rfl (by decide) tw6_19, List.forall_mem_cons.mpr ⟨s_iconst C0 dX11_readGame_4 rfl, List.forall_mem_cons.mpr ⟨s_iald C0 dX11_readGame_5, List.forall_mem_cons.mpr ⟨s_istore_n C0 dX11_readGame_6 rfl (by decide), List.forall_mem_cons.mpr ⟨s_iload_n C0 dX11_readGame_7 rfl, List.forall_mem_cons.mpr ⟨s_bipush C0 dX11_readGame_8 (by decide +kernel), List.forall_mem_cons.mpr ⟨s_icmp_ne C0 dX11_readGame_10 rfl, List.forall_mem_cons.mpr ⟨s_aload_n C0 dX11_readGame_13 rfl, List.forall_mem_cons.mpr ⟨s_iconst C0 dX11_readGame_14 rfl, List.forall_mem_cons.mpr ⟨s_callV (ci := 11) C0 (kX11_errs l) dX11_readGame_15 rfl qX11_errs tw6_149 tw6_151 twp_48 tw1_12 tw6_152 rfl (by decide) (by decide), List.forall_mem_cons.mpr ⟨s_zret C0 hr dX11_readGame_18, List.forall_mem_cons.mpr ⟨s_aload_n C0 dX11_readGame_19 rfl, List.forall_mem_cons.mpr ⟨s_callV (ci := 11) C0 (kX11_goesOn l) dX11_readGame_20 rfl qX11_goesOn tw6_126 tw6_128 twp_43 tw1_12 tw6_129 rfl (by decide) (by decide), List.forall_mem_cons.mpr ⟨s_aload_n C0 dX11_readGame_23 rfl, List.forall_mem_cons.mpr ⟨s_get (ci := 11) (k := 8) C0 dX11_readGame_24 inX11 rfl (by decide) tw6_19, List.forall_mem_cons.mpr ⟨s_iconst C0 dX11_readGame_27 rfl, List.forall_mem_cons.mpr ⟨s_dup2 C0 dX11_readGame_28, List.forall_mem_cons.mpr ⟨s_iald C0 dX11_readGame_29, List.forall_mem_cons.mpr ⟨s_iconst C0 dX11_readGame_30 rfl, List.forall_mem_cons.mpr ⟨s_iadd C0 dX11_readGame_31, List.forall_mem_cons.mpr ⟨s_iast C0 dX11_readGame_32, List.forall_mem_cons.mpr ⟨s_aload_n C0 dX11_readGame_33 rfl, List.forall_mem_cons.mpr ⟨s_bipush C0 dX11_readGame_34 (by decide +kernel), List.forall_mem_cons.mpr ⟨s_iload_n C0 dX11_readGame_36 rfl, List.forall_mem_cons.mpr ⟨s_iadd C0 dX11_readGame_37, List.forall_mem_cons.mpr ⟨s_iload_n C0 dX11_readGame_38 rfl, List.forall_mem_cons.mpr ⟨s_if_ne C0 dX11_readGame_39 rfl, List.forall_mem_cons.mpr ⟨s_iconst C0 dX11_readGame_42 rfl, List.forall_mem_cons.mpr ⟨s_goto C0 dX11_readGame_43 rfl, List.forall_mem_cons.mpr ⟨s_aload_n C0 dX11_readGame_46 rfl, List.forall_mem_cons.mpr ⟨s_get (ci := 11) (k := 8) C0 dX11_readGame_47 inX11 rfl (by decide) tw6_19, List.forall_mem_cons.mpr ⟨s_bipush C0 dX11_readGame_50 (by decide +kernel), List.forall_mem_cons.mpr ⟨s_iload_n C0 dX11_readGame_52 rfl, List.forall_mem_cons.mpr ⟨s_iadd C0 dX11_readGame_53, List.forall_mem_cons.mpr ⟨s_iconst C0 dX11_readGame_54 rfl, List.forall_mem_cons.mpr ⟨s_isub C0 dX11_readGame_55, List.forall_mem_cons.mpr ⟨s_iald C0 dX11_readGame_56, List.forall_mem_cons.mpr ⟨s_iconst C0 dX11_readGame_57 rfl, List.forall_mem_cons.mpr ⟨s_iadd C0 dX11_readGame_58, fun _ h => absurd h List.not_mem_nil⟩⟩⟩⟩⟩⟩⟩⟩⟩⟩⟩⟩⟩⟩⟩⟩⟩⟩⟩⟩⟩⟩⟩⟩⟩⟩⟩⟩⟩⟩⟩⟩⟩⟩⟩⟩⟩⟩⟩⟩
set_option maxRecDepth 10000 in
theorem hX11_readGame_1 (l : Launch) {p : Program} {e : Env} {s : State} {m : MethodId} {args : Array Value} {below : List Frame} {meth : Method} {c : Code} {D : va_G} {ad adV : Nat → Nat} {cA : Nat → ClassId} {K : Kt} (C0 : Cx p s m args meth c D ad adV cA cX11_readGame 2 RX11) (hr : meth.sig.returnType = (some .boolean)) : ∀ q ∈ lX11_readGame_1, Sd p l e (rmd 3) s m args below meth c (MQ below (QQ D ad cA K) args s 0 0 (AA ad)) D ad cA 2 q.1 (opOf K q.2) := List.forall_mem_cons.mpr ⟨s_bipush C0 dX11_readGame_59 (by decide +kernel), List.forall_mem_cons.mpr ⟨s_callV (ci := 11) C0 (kX11_takes l) dX11_readGame_61 rfl qX11_takes tw6_168 tw6_170 twp_51 tw1_12 tw6_171 rfl (by decide) (by decide), List.forall_mem_cons.mpr ⟨s_if_eq C0 dX11_readGame_64 rfl, List.forall_mem_cons.mpr ⟨s_aload_n C0 dX11_readGame_67 rfl, List.forall_mem_cons.mpr ⟨s_bipush C0 dX11_readGame_68 (by decide +kernel), List.forall_mem_cons.mpr ⟨s_iload_n C0 dX11_readGame_70 rfl, List.forall_mem_cons.mpr ⟨s_iadd C0 dX11_readGame_71, List.forall_mem_cons.mpr ⟨s_iconst C0 dX11_readGame_72 rfl, List.forall_mem_cons.mpr ⟨s_bipush C0 dX11_readGame_73 (by decide +kernel), List.forall_mem_cons.mpr ⟨s_callV (ci := 11) C0 (kX11_takes l) dX11_readGame_75 rfl qX11_takes tw6_168 tw6_170 twp_51 tw1_12 tw6_171 rfl (by decide) (by decide), List.forall_mem_cons.mpr ⟨s_if_eq C0 dX11_readGame_78 rfl, List.forall_mem_cons.mpr ⟨s_aload_n C0 dX11_readGame_81 rfl, List.forall_mem_cons.mpr ⟨s_bipush C0 dX11_readGame_82 (by decide +kernel), List.forall_mem_cons.mpr ⟨s_iload_n C0 dX11_readGame_84 rfl, List.forall_mem_cons.mpr ⟨s_iadd C0 dX11_readGame_85, List.forall_mem_cons.mpr ⟨s_iconst C0 dX11_readGame_86 rfl, List.forall_mem_cons.mpr ⟨s_sipush C0 dX11_readGame_87 (by decide +kernel), List.forall_mem_cons.mpr ⟨s_callV (ci := 11) C0 (kX11_takes l) dX11_readGame_90 rfl qX11_takes tw6_168 tw6_170 twp_51 tw1_12 tw6_171 rfl (by decide) (by decide), List.forall_mem_cons.mpr ⟨s_if_eq C0 dX11_readGame_93 rfl, List.forall_mem_cons.mpr ⟨s_iconst C0 dX11_readGame_96 rfl, List.forall_mem_cons.mpr ⟨s_goto C0 dX11_readGame_97 rfl, List.forall_mem_cons.mpr ⟨s_iconst C0 dX11_readGame_100 rfl, List.forall_mem_cons.mpr ⟨s_zret C0 hr dX11_readGame_101, fun _ h => absurd h List.not_mem_nil⟩⟩⟩⟩⟩⟩⟩⟩⟩⟩⟩⟩⟩⟩⟩⟩⟩⟩⟩⟩⟩⟩⟩
def fX11_readGame : Mf := mf 2 (fun K => tl K lX11_readGame)
theorem kX11_readGame (l : Launch) : Okm l yX11_readGame cX11_readGame 2 (some .boolean) 3 fX11_readGame := Okm_tl (own := RX11) (by decide +kernel) rfl (fun C0 hr => List.forall_mem_append.mpr ⟨hX11_readGame_0 l C0 hr, hX11_readGame_1 l C0 hr⟩)
theorem dX11_readRest_0 : decode cX11_readRest 0 = .ok (.aload_n 0, 1) := by decide +kernel
theorem dX11_readRest_1 : decode cX11_readRest 1 = .ok (.getfield 20, 3) := by decide +kernel
theorem dX11_readRest_4 : decode cX11_readRest 4 = .ok (.iconst 2, 1) := by decide +kernel
theorem dX11_readRest_5 : decode cX11_readRest 5 = .ok (.iaload, 1) := by decide +kernel
theorem dX11_readRest_6 : decode cX11_readRest 6 = .ok (.istore_n 1, 1) := by decide +kernel
theorem dX11_readRest_7 : decode cX11_readRest 7 = .ok (.iload_n 1, 1) := by decide +kernel
theorem dX11_readRest_8 : decode cX11_readRest 8 = .ok (.iconst 5, 1) := by decide +kernel
theorem dX11_readRest_9 : decode cX11_readRest 9 = .ok (.if_icmp .ne 9, 3) := by decide +kernel
theorem dX11_readRest_12 : decode cX11_readRest 12 = .ok (.aload_n 0, 1) := by decide +kernel
theorem dX11_readRest_13 : decode cX11_readRest 13 = .ok (.iconst 4, 1) := by decide +kernel
theorem dX11_readRest_14 : decode cX11_readRest 14 = .ok (.invokevirtual 119, 3) := by decide +kernel
theorem dX11_readRest_17 : decode cX11_readRest 17 = .ok (.ireturn, 1) := by decide +kernel
theorem dX11_readRest_18 : decode cX11_readRest 18 = .ok (.aload_n 0, 1) := by decide +kernel
theorem dX11_readRest_19 : decode cX11_readRest 19 = .ok (.invokevirtual 123, 3) := by decide +kernel
theorem dX11_readRest_22 : decode cX11_readRest 22 = .ok (.aload_n 0, 1) := by decide +kernel
theorem dX11_readRest_23 : decode cX11_readRest 23 = .ok (.getfield 20, 3) := by decide +kernel
theorem dX11_readRest_26 : decode cX11_readRest 26 = .ok (.iconst 2, 1) := by decide +kernel
theorem dX11_readRest_27 : decode cX11_readRest 27 = .ok (.dup2, 1) := by decide +kernel
theorem dX11_readRest_28 : decode cX11_readRest 28 = .ok (.iaload, 1) := by decide +kernel
theorem dX11_readRest_29 : decode cX11_readRest 29 = .ok (.iconst 1, 1) := by decide +kernel
theorem dX11_readRest_30 : decode cX11_readRest 30 = .ok (.iadd, 1) := by decide +kernel
theorem dX11_readRest_31 : decode cX11_readRest 31 = .ok (.iastore, 1) := by decide +kernel
theorem dX11_readRest_32 : decode cX11_readRest 32 = .ok (.aload_n 0, 1) := by decide +kernel
theorem dX11_readRest_33 : decode cX11_readRest 33 = .ok (.sipush 246, 3) := by decide +kernel
theorem dX11_readRest_36 : decode cX11_readRest 36 = .ok (.iload_n 1, 1) := by decide +kernel
theorem dX11_readRest_37 : decode cX11_readRest 37 = .ok (.iadd, 1) := by decide +kernel
theorem dX11_readRest_38 : decode cX11_readRest 38 = .ok (.iload_n 1, 1) := by decide +kernel
theorem dX11_readRest_39 : decode cX11_readRest 39 = .ok (.ifCond .ne 7, 3) := by decide +kernel
theorem dX11_readRest_42 : decode cX11_readRest 42 = .ok (.iconst 1, 1) := by decide +kernel
theorem dX11_readRest_43 : decode cX11_readRest 43 = .ok (.goto 17, 3) := by decide +kernel
theorem dX11_readRest_46 : decode cX11_readRest 46 = .ok (.aload_n 0, 1) := by decide +kernel
theorem dX11_readRest_47 : decode cX11_readRest 47 = .ok (.getfield 20, 3) := by decide +kernel
theorem dX11_readRest_50 : decode cX11_readRest 50 = .ok (.sipush 246, 3) := by decide +kernel
theorem dX11_readRest_53 : decode cX11_readRest 53 = .ok (.iload_n 1, 1) := by decide +kernel
theorem dX11_readRest_54 : decode cX11_readRest 54 = .ok (.iadd, 1) := by decide +kernel
theorem dX11_readRest_55 : decode cX11_readRest 55 = .ok (.iconst 1, 1) := by decide +kernel
theorem dX11_readRest_56 : decode cX11_readRest 56 = .ok (.isub, 1) := by decide +kernel
theorem dX11_readRest_57 : decode cX11_readRest 57 = .ok (.iaload, 1) := by decide +kernel
theorem dX11_readRest_58 : decode cX11_readRest 58 = .ok (.iconst 1, 1) := by decide +kernel
theorem dX11_readRest_59 : decode cX11_readRest 59 = .ok (.iadd, 1) := by decide +kernel
theorem dX11_readRest_60 : decode cX11_readRest 60 = .ok (.bipush 120, 2) := by decide +kernel
theorem dX11_readRest_62 : decode cX11_readRest 62 = .ok (.invokevirtual 134, 3) := by decide +kernel
theorem dX11_readRest_65 : decode cX11_readRest 65 = .ok (.ifCond .eq 22, 3) := by decide +kernel
theorem dX11_readRest_68 : decode cX11_readRest 68 = .ok (.aload_n 0, 1) := by decide +kernel
theorem dX11_readRest_69 : decode cX11_readRest 69 = .ok (.sipush 251, 3) := by decide +kernel
theorem dX11_readRest_72 : decode cX11_readRest 72 = .ok (.iload_n 1, 1) := by decide +kernel
theorem dX11_readRest_73 : decode cX11_readRest 73 = .ok (.iadd, 1) := by decide +kernel
theorem dX11_readRest_74 : decode cX11_readRest 74 = .ok (.iconst 0, 1) := by decide +kernel
theorem dX11_readRest_75 : decode cX11_readRest 75 = .ok (.bipush 9, 2) := by decide +kernel
theorem dX11_readRest_77 : decode cX11_readRest 77 = .ok (.invokevirtual 134, 3) := by decide +kernel
theorem dX11_readRest_80 : decode cX11_readRest 80 = .ok (.ifCond .eq 7, 3) := by decide +kernel
theorem dX11_readRest_83 : decode cX11_readRest 83 = .ok (.iconst 1, 1) := by decide +kernel
theorem dX11_readRest_84 : decode cX11_readRest 84 = .ok (.goto 4, 3) := by decide +kernel
theorem dX11_readRest_87 : decode cX11_readRest 87 = .ok (.iconst 0, 1) := by decide +kernel
theorem dX11_readRest_88 : decode cX11_readRest 88 = .ok (.ireturn, 1) := by decide +kernel
def lX11_readRest_0 : List (Nat × (Op ⊕ Nat)) := [(0, .inl (o_aload 0 1)), (1, .inl (o_get 11 8 4)), (4, .inl (o_pushI (nI 2) 5)), (5, .inl (o_iald 6)), (6, .inl (o_istore 1 7)), (7, .inl (o_iload 1 8)), (8, .inl (o_pushI (nI 5) 9)), (9, .inl (o_icmp_ne 18 12)), (12, .inl (o_aload 0 13)), (13, .inl (o_pushI (nI 4) 14)), (14, .inl (o_callV fX11_errs 1 11 17)), (17, .inr 1), (18, .inl (o_aload 0 19)), (19, .inl (o_callV fX11_goesOn 0 11 22)), (22, .inl (o_aload 0 23)), (23, .inl (o_get 11 8 26)), (26, .inl (o_pushI (nI 2) 27)), (27, .inl (o_dup2 28)), (28, .inl (o_iald 29)), (29, .inl (o_pushI (nI 1) 30)), (30, .inl (o_iadd 31)), (31, .inl (o_iast 32)), (32, .inl (o_aload 0 33)), (33, .inl (o_pushI (nI 246) 36)), (36, .inl (o_iload 1 37)), (37, .inl (o_iadd 38)), (38, .inl (o_iload 1 39)), (39, .inl (o_if_ne 46 42)), (42, .inl (o_pushI (nI 1) 43)), (43, .inl (o_goto 60)), (46, .inl (o_aload 0 47)), (47, .inl (o_get 11 8 50)), (50, .inl (o_pushI (nI 246) 53)), (53, .inl (o_iload 1 54)), (54, .inl (o_iadd 55)), (55, .inl (o_pushI (nI 1) 56)), (56, .inl (o_isub 57)), (57, .inl (o_iald 58)), (58, .inl (o_pushI (nI 1) 59)), (59, .inl (o_iadd 60))]
def lX11_readRest_1 : List (Nat × (Op ⊕ Nat)) := [(60, .inl (o_pushI (nI 120) 62)), (62, .inl (o_callV fX11_takes 3 11 65)), (65, .inl (o_if_eq 87 68)), (68, .inl (o_aload 0 69)), (69, .inl (o_pushI (nI 251) 72)), (72, .inl (o_iload 1 73)), (73, .inl (o_iadd 74)), (74, .inl (o_pushI (nI 0) 75)), (75, .inl (o_pushI (nI 9) 77)), (77, .inl (o_callV fX11_takes 3 11 80)), (80, .inl (o_if_eq 87 83)), (83, .inl (o_pushI (nI 1) 84)), (84, .inl (o_goto 88)), (87, .inl (o_pushI (nI 0) 88)), (88, .inr 1)]
def lX11_readRest : List (Nat × (Op ⊕ Nat)) := lX11_readRest_0 ++ (lX11_readRest_1)
theorem qX11_readRest : yX11_readRest.cls = RX11 ∧ yX11_readRest.cls ≠ "java/lang/invoke/MethodHandle" ∧ yX11_readRest.cls ≠ "java/lang/invoke/VarHandle" ∧ (parseMethodDescriptor yX11_readRest.desc).map (fun d => d.parameters.length) = some 0 := by decide +kernel
set_option maxRecDepth 10000 in
theorem hX11_readRest_0 (l : Launch) {p : Program} {e : Env} {s : State} {m : MethodId} {args : Array Value} {below : List Frame} {meth : Method} {c : Code} {D : va_G} {ad adV : Nat → Nat} {cA : Nat → ClassId} {K : Kt} (C0 : Cx p s m args meth c D ad adV cA cX11_readRest 2 RX11) (hr : meth.sig.returnType = (some .boolean)) : ∀ q ∈ lX11_readRest_0, Sd p l e (rmd 3) s m args below meth c (MQ below (QQ D ad cA K) args s 0 0 (AA ad)) D ad cA 2 q.1 (opOf K q.2) := List.forall_mem_cons.mpr ⟨s_aload_n C0 dX11_readRest_0 rfl, List.forall_mem_cons.mpr ⟨s_get (ci := 11) (k := 8) C0 dX11_readRest_1 inX11 rfl (by decide) tw6_19, List.forall_mem_cons.mpr ⟨s_iconst C0 dX11_readRest_4 rfl, List.forall_mem_cons.mpr ⟨s_iald C0 dX11_readRest_5, List.forall_mem_cons.mpr ⟨s_istore_n C0 dX11_readRest_6 rfl (by decide), List.forall_mem_cons.mpr ⟨s_iload_n C0 dX11_readRest_7 rfl, List.forall_mem_cons.mpr ⟨s_iconst C0 dX11_readRest_8 rfl, List.forall_mem_cons.mpr ⟨s_icmp_ne C0 dX11_readRest_9 rfl, List.forall_mem_cons.mpr ⟨s_aload_n C0 dX11_readRest_12 rfl, List.forall_mem_cons.mpr ⟨s_iconst C0 dX11_readRest_13 rfl, List.forall_mem_cons.mpr ⟨s_callV (ci := 11) C0 (kX11_errs l) dX11_readRest_14 rfl qX11_errs tw6_149 tw6_151 twp_48 tw1_12 tw6_152 rfl (by decide) (by decide), List.forall_mem_cons.mpr ⟨s_zret C0 hr dX11_readRest_17, List.forall_mem_cons.mpr ⟨s_aload_n C0 dX11_readRest_18 rfl, List.forall_mem_cons.mpr ⟨s_callV (ci := 11) C0 (kX11_goesOn l) dX11_readRest_19 rfl qX11_goesOn tw6_126 tw6_128 twp_43 tw1_12 tw6_129 rfl (by decide) (by decide), List.forall_mem_cons.mpr ⟨s_aload_n C0 dX11_readRest_22 rfl, List.forall_mem_cons.mpr ⟨s_get (ci := 11) (k := 8) C0 dX11_readRest_23 inX11 rfl (by decide) tw6_19, List.forall_mem_cons.mpr ⟨s_iconst C0 dX11_readRest_26 rfl, List.forall_mem_cons.mpr ⟨s_dup2 C0 dX11_readRest_27, List.forall_mem_cons.mpr ⟨s_iald C0 dX11_readRest_28, List.forall_mem_cons.mpr ⟨s_iconst C0 dX11_readRest_29 rfl, List.forall_mem_cons.mpr ⟨s_iadd C0 dX11_readRest_30, List.forall_mem_cons.mpr ⟨s_iast C0 dX11_readRest_31, List.forall_mem_cons.mpr ⟨s_aload_n C0 dX11_readRest_32 rfl, List.forall_mem_cons.mpr ⟨s_sipush C0 dX11_readRest_33 (by decide +kernel), List.forall_mem_cons.mpr ⟨s_iload_n C0 dX11_readRest_36 rfl, List.forall_mem_cons.mpr ⟨s_iadd C0 dX11_readRest_37, List.forall_mem_cons.mpr ⟨s_iload_n C0 dX11_readRest_38 rfl, List.forall_mem_cons.mpr ⟨s_if_ne C0 dX11_readRest_39 rfl, List.forall_mem_cons.mpr ⟨s_iconst C0 dX11_readRest_42 rfl, List.forall_mem_cons.mpr ⟨s_goto C0 dX11_readRest_43 rfl, List.forall_mem_cons.mpr ⟨s_aload_n C0 dX11_readRest_46 rfl, List.forall_mem_cons.mpr ⟨s_get (ci := 11) (k := 8) C0 dX11_readRest_47 inX11 rfl (by decide) tw6_19, List.forall_mem_cons.mpr ⟨s_sipush C0 dX11_readRest_50 (by decide +kernel), List.forall_mem_cons.mpr ⟨s_iload_n C0 dX11_readRest_53 rfl, List.forall_mem_cons.mpr ⟨s_iadd C0 dX11_readRest_54, List.forall_mem_cons.mpr ⟨s_iconst C0 dX11_readRest_55 rfl, List.forall_mem_cons.mpr ⟨s_isub C0 dX11_readRest_56, List.forall_mem_cons.mpr ⟨s_iald C0 dX11_readRest_57, List.forall_mem_cons.mpr ⟨s_iconst C0 dX11_readRest_58 rfl, List.forall_mem_cons.mpr ⟨s_iadd C0 dX11_readRest_59, fun _ h => absurd h List.not_mem_nil⟩⟩⟩⟩⟩⟩⟩⟩⟩⟩⟩⟩⟩⟩⟩⟩⟩⟩⟩⟩⟩⟩⟩⟩⟩⟩⟩⟩⟩⟩⟩⟩⟩⟩⟩⟩⟩⟩⟩⟩
set_option maxRecDepth 10000 in
theorem hX11_readRest_1 (l : Launch) {p : Program} {e : Env} {s : State} {m : MethodId} {args : Array Value} {below : List Frame} {meth : Method} {c : Code} {D : va_G} {ad adV : Nat → Nat} {cA : Nat → ClassId} {K : Kt} (C0 : Cx p s m args meth c D ad adV cA cX11_readRest 2 RX11) (hr : meth.sig.returnType = (some .boolean)) : ∀ q ∈ lX11_readRest_1, Sd p l e (rmd 3) s m args below meth c (MQ below (QQ D ad cA K) args s 0 0 (AA ad)) D ad cA 2 q.1 (opOf K q.2) := List.forall_mem_cons.mpr ⟨s_bipush C0 dX11_readRest_60 (by decide +kernel), List.forall_mem_cons.mpr ⟨s_callV (ci := 11) C0 (kX11_takes l) dX11_readRest_62 rfl qX11_takes tw6_168 tw6_170 twp_51 tw1_12 tw6_171 rfl (by decide) (by decide), List.forall_mem_cons.mpr ⟨s_if_eq C0 dX11_readRest_65 rfl, List.forall_mem_cons.mpr ⟨s_aload_n C0 dX11_readRest_68 rfl, List.forall_mem_cons.mpr ⟨s_sipush C0 dX11_readRest_69 (by decide +kernel), List.forall_mem_cons.mpr ⟨s_iload_n C0 dX11_readRest_72 rfl, List.forall_mem_cons.mpr ⟨s_iadd C0 dX11_readRest_73, List.forall_mem_cons.mpr ⟨s_iconst C0 dX11_readRest_74 rfl, List.forall_mem_cons.mpr ⟨s_bipush C0 dX11_readRest_75 (by decide +kernel), List.forall_mem_cons.mpr ⟨s_callV (ci := 11) C0 (kX11_takes l) dX11_readRest_77 rfl qX11_takes tw6_168 tw6_170 twp_51 tw1_12 tw6_171 rfl (by decide) (by decide), List.forall_mem_cons.mpr ⟨s_if_eq C0 dX11_readRest_80 rfl, List.forall_mem_cons.mpr ⟨s_iconst C0 dX11_readRest_83 rfl, List.forall_mem_cons.mpr ⟨s_goto C0 dX11_readRest_84 rfl, List.forall_mem_cons.mpr ⟨s_iconst C0 dX11_readRest_87 rfl, List.forall_mem_cons.mpr ⟨s_zret C0 hr dX11_readRest_88, fun _ h => absurd h List.not_mem_nil⟩⟩⟩⟩⟩⟩⟩⟩⟩⟩⟩⟩⟩⟩⟩
def fX11_readRest : Mf := mf 2 (fun K => tl K lX11_readRest)
theorem kX11_readRest (l : Launch) : Okm l yX11_readRest cX11_readRest 2 (some .boolean) 3 fX11_readRest := Okm_tl (own := RX11) (by decide +kernel) rfl (fun C0 hr => List.forall_mem_append.mpr ⟨hX11_readRest_0 l C0 hr, hX11_readRest_1 l C0 hr⟩)
