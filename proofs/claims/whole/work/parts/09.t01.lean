theorem dX3_allowsIn_0 : decode cX3_allowsIn 0 = .ok (.aload_n 0, 1) := by decide +kernel
theorem dX3_allowsIn_1 : decode cX3_allowsIn 1 = .ok (.iload_n 1, 1) := by decide +kernel
theorem dX3_allowsIn_2 : decode cX3_allowsIn 2 = .ok (.invokevirtual 35, 3) := by decide +kernel
theorem dX3_allowsIn_5 : decode cX3_allowsIn 5 = .ok (.aload_n 0, 1) := by decide +kernel
theorem dX3_allowsIn_6 : decode cX3_allowsIn 6 = .ok (.iload_n 2, 1) := by decide +kernel
theorem dX3_allowsIn_7 : decode cX3_allowsIn 7 = .ok (.iload_n 3, 1) := by decide +kernel
theorem dX3_allowsIn_8 : decode cX3_allowsIn 8 = .ok (.invokevirtual 39, 3) := by decide +kernel
theorem dX3_allowsIn_11 : decode cX3_allowsIn 11 = .ok (.ifCond .ne 7, 3) := by decide +kernel
theorem dX3_allowsIn_14 : decode cX3_allowsIn 14 = .ok (.iconst 1, 1) := by decide +kernel
theorem dX3_allowsIn_15 : decode cX3_allowsIn 15 = .ok (.goto 4, 3) := by decide +kernel
theorem dX3_allowsIn_18 : decode cX3_allowsIn 18 = .ok (.iconst 0, 1) := by decide +kernel
theorem dX3_allowsIn_19 : decode cX3_allowsIn 19 = .ok (.ireturn, 1) := by decide +kernel
def lX3_allowsIn : List (Nat × (Op ⊕ Nat)) := [(0, .inl (o_aload 0 1)), (1, .inl (o_iload 1 2)), (2, .inl (o_callV fX3_open 1 3 5)), (5, .inl (o_aload 0 6)), (6, .inl (o_iload 2 7)), (7, .inl (o_iload 3 8)), (8, .inl (o_callV fX3_clashes 2 3 11)), (11, .inl (o_if_ne 18 14)), (14, .inl (o_pushI (nI 1) 15)), (15, .inl (o_goto 19)), (18, .inl (o_pushI (nI 0) 19)), (19, .inr 1)]
theorem qX3_allowsIn : yX3_allowsIn.cls = RX3 ∧ yX3_allowsIn.cls ≠ "java/lang/invoke/MethodHandle" ∧ yX3_allowsIn.cls ≠ "java/lang/invoke/VarHandle" ∧ (parseMethodDescriptor yX3_allowsIn.desc).map (fun d => d.parameters.length) = some 3 := by decide +kernel
set_option maxRecDepth 10000 in
theorem hX3_allowsIn_0 (l : Launch) {p : Program} {e : Env} {s : State} {m : MethodId} {args : Array Value} {below : List Frame} {meth : Method} {c : Code} {D : va_G} {ad adV : Nat → Nat} {cA : Nat → ClassId} {K : Kt} (C0 : Cx p s m args meth c D ad adV cA cX3_allowsIn 4 RX3) (hr : meth.sig.returnType = (some .boolean)) : ∀ q ∈ lX3_allowsIn, Sd p l e (rmd 4) s m args below meth c (MQ below (QQ D ad cA K) args s 0 0 (AA ad)) D ad cA 4 q.1 (opOf K q.2) := List.forall_mem_cons.mpr ⟨s_aload_n C0 dX3_allowsIn_0 rfl, List.forall_mem_cons.mpr ⟨s_iload_n C0 dX3_allowsIn_1 rfl, List.forall_mem_cons.mpr ⟨s_callV (ci := 3) C0 (kX3_open l) dX3_allowsIn_2 rfl qX3_open tw4_41 tw4_42 tw4_43 tw1_7 tw4_44 rfl (by decide) (by decide), List.forall_mem_cons.mpr ⟨s_aload_n C0 dX3_allowsIn_5 rfl, List.forall_mem_cons.mpr ⟨s_iload_n C0 dX3_allowsIn_6 rfl, List.forall_mem_cons.mpr ⟨s_iload_n C0 dX3_allowsIn_7 rfl, List.forall_mem_cons.mpr ⟨s_callV (ci := 3) C0 (kX3_clashes l) dX3_allowsIn_8 rfl qX3_clashes tw4_50 tw4_51 tw4_52 tw1_7 tw4_53 rfl (by decide) (by decide), List.forall_mem_cons.mpr ⟨s_if_ne C0 dX3_allowsIn_11 rfl, List.forall_mem_cons.mpr ⟨s_iconst C0 dX3_allowsIn_14 rfl, List.forall_mem_cons.mpr ⟨s_goto C0 dX3_allowsIn_15 rfl, List.forall_mem_cons.mpr ⟨s_iconst C0 dX3_allowsIn_18 rfl, List.forall_mem_cons.mpr ⟨s_zret C0 hr dX3_allowsIn_19, fun _ h => absurd h List.not_mem_nil⟩⟩⟩⟩⟩⟩⟩⟩⟩⟩⟩⟩
def fX3_allowsIn : Mf := mf 4 (fun K => tl K lX3_allowsIn)
theorem kX3_allowsIn (l : Launch) : Okm l yX3_allowsIn cX3_allowsIn 4 (some .boolean) 4 fX3_allowsIn := Okm_tl (own := RX3) (by decide +kernel) rfl (fun C0 hr => hX3_allowsIn_0 l C0 hr)
theorem dX2_chooseOther_0 : decode cX2_chooseOther 0 = .ok (.aload_n 0, 1) := by decide +kernel
theorem dX2_chooseOther_1 : decode cX2_chooseOther 1 = .ok (.getfield 33, 3) := by decide +kernel
theorem dX2_chooseOther_4 : decode cX2_chooseOther 4 = .ok (.getfield 41, 3) := by decide +kernel
theorem dX2_chooseOther_7 : decode cX2_chooseOther 7 = .ok (.iload_n 1, 1) := by decide +kernel
theorem dX2_chooseOther_8 : decode cX2_chooseOther 8 = .ok (.iconst 2, 1) := by decide +kernel
theorem dX2_chooseOther_9 : decode cX2_chooseOther 9 = .ok (.invokevirtual 61, 3) := by decide +kernel
theorem dX2_chooseOther_12 : decode cX2_chooseOther 12 = .ok (.iload_n 3, 1) := by decide +kernel
theorem dX2_chooseOther_13 : decode cX2_chooseOther 13 = .ok (.isub, 1) := by decide +kernel
theorem dX2_chooseOther_14 : decode cX2_chooseOther 14 = .ok (.istore 4, 2) := by decide +kernel
theorem dX2_chooseOther_16 : decode cX2_chooseOther 16 = .ok (.iconst 0, 1) := by decide +kernel
theorem dX2_chooseOther_17 : decode cX2_chooseOther 17 = .ok (.istore 5, 2) := by decide +kernel
theorem dX2_chooseOther_19 : decode cX2_chooseOther 19 = .ok (.iload 5, 2) := by decide +kernel
theorem dX2_chooseOther_21 : decode cX2_chooseOther 21 = .ok (.aload_n 0, 1) := by decide +kernel
theorem dX2_chooseOther_22 : decode cX2_chooseOther 22 = .ok (.getfield 33, 3) := by decide +kernel
theorem dX2_chooseOther_25 : decode cX2_chooseOther 25 = .ok (.getfield 41, 3) := by decide +kernel
theorem dX2_chooseOther_28 : decode cX2_chooseOther 28 = .ok (.getfield 47, 3) := by decide +kernel
theorem dX2_chooseOther_31 : decode cX2_chooseOther 31 = .ok (.if_icmp .ge 101, 3) := by decide +kernel
theorem dX2_chooseOther_34 : decode cX2_chooseOther 34 = .ok (.aload_n 0, 1) := by decide +kernel
theorem dX2_chooseOther_35 : decode cX2_chooseOther 35 = .ok (.getfield 33, 3) := by decide +kernel
theorem dX2_chooseOther_38 : decode cX2_chooseOther 38 = .ok (.getfield 41, 3) := by decide +kernel
theorem dX2_chooseOther_41 : decode cX2_chooseOther 41 = .ok (.iload 5, 2) := by decide +kernel
theorem dX2_chooseOther_43 : decode cX2_chooseOther 43 = .ok (.iconst 1, 1) := by decide +kernel
theorem dX2_chooseOther_44 : decode cX2_chooseOther 44 = .ok (.invokevirtual 74, 3) := by decide +kernel
theorem dX2_chooseOther_47 : decode cX2_chooseOther 47 = .ok (.iload 4, 2) := by decide +kernel
theorem dX2_chooseOther_49 : decode cX2_chooseOther 49 = .ok (.invokestatic 56, 3) := by decide +kernel
theorem dX2_chooseOther_52 : decode cX2_chooseOther 52 = .ok (.istore 6, 2) := by decide +kernel
theorem dX2_chooseOther_54 : decode cX2_chooseOther 54 = .ok (.aload_n 0, 1) := by decide +kernel
theorem dX2_chooseOther_55 : decode cX2_chooseOther 55 = .ok (.getfield 33, 3) := by decide +kernel
theorem dX2_chooseOther_58 : decode cX2_chooseOther 58 = .ok (.iload_n 2, 1) := by decide +kernel
theorem dX2_chooseOther_59 : decode cX2_chooseOther 59 = .ok (.iload_n 1, 1) := by decide +kernel
theorem dX2_chooseOther_60 : decode cX2_chooseOther 60 = .ok (.iload_n 3, 1) := by decide +kernel
theorem dX2_chooseOther_61 : decode cX2_chooseOther 61 = .ok (.invokevirtual 77, 3) := by decide +kernel
theorem dX2_chooseOther_64 : decode cX2_chooseOther 64 = .ok (.aload_n 0, 1) := by decide +kernel
theorem dX2_chooseOther_65 : decode cX2_chooseOther 65 = .ok (.getfield 33, 3) := by decide +kernel
theorem dX2_chooseOther_68 : decode cX2_chooseOther 68 = .ok (.iload 5, 2) := by decide +kernel
theorem dX2_chooseOther_70 : decode cX2_chooseOther 70 = .ok (.iload_n 1, 1) := by decide +kernel
theorem dX2_chooseOther_71 : decode cX2_chooseOther 71 = .ok (.iload 6, 2) := by decide +kernel
theorem dX2_chooseOther_73 : decode cX2_chooseOther 73 = .ok (.invokevirtual 77, 3) := by decide +kernel
theorem dX2_chooseOther_76 : decode cX2_chooseOther 76 = .ok (.iadd, 1) := by decide +kernel
theorem dX2_chooseOther_77 : decode cX2_chooseOther 77 = .ok (.istore 7, 2) := by decide +kernel
theorem dX2_chooseOther_79 : decode cX2_chooseOther 79 = .ok (.iload 5, 2) := by decide +kernel
theorem dX2_chooseOther_81 : decode cX2_chooseOther 81 = .ok (.iload_n 2, 1) := by decide +kernel
theorem dX2_chooseOther_82 : decode cX2_chooseOther 82 = .ok (.if_icmp .eq 44, 3) := by decide +kernel
theorem dX2_chooseOther_85 : decode cX2_chooseOther 85 = .ok (.iload 7, 2) := by decide +kernel
theorem dX2_chooseOther_87 : decode cX2_chooseOther 87 = .ok (.aload_n 0, 1) := by decide +kernel
theorem dX2_chooseOther_88 : decode cX2_chooseOther 88 = .ok (.getfield 9, 3) := by decide +kernel
theorem dX2_chooseOther_91 : decode cX2_chooseOther 91 = .ok (.if_icmp .le 35, 3) := by decide +kernel
theorem dX2_chooseOther_94 : decode cX2_chooseOther 94 = .ok (.aload_n 0, 1) := by decide +kernel
theorem dX2_chooseOther_95 : decode cX2_chooseOther 95 = .ok (.getfield 37, 3) := by decide +kernel
theorem dX2_chooseOther_98 : decode cX2_chooseOther 98 = .ok (.iload 5, 2) := by decide +kernel
theorem dX2_chooseOther_100 : decode cX2_chooseOther 100 = .ok (.iload_n 1, 1) := by decide +kernel
theorem dX2_chooseOther_101 : decode cX2_chooseOther 101 = .ok (.iload 6, 2) := by decide +kernel
theorem dX2_chooseOther_103 : decode cX2_chooseOther 103 = .ok (.invokevirtual 64, 3) := by decide +kernel
theorem dX2_chooseOther_106 : decode cX2_chooseOther 106 = .ok (.ifCond .eq 20, 3) := by decide +kernel
theorem dX2_chooseOther_109 : decode cX2_chooseOther 109 = .ok (.aload_n 0, 1) := by decide +kernel
theorem dX2_chooseOther_110 : decode cX2_chooseOther 110 = .ok (.iload 7, 2) := by decide +kernel
theorem dX2_chooseOther_112 : decode cX2_chooseOther 112 = .ok (.putfield 9, 3) := by decide +kernel
theorem dX2_chooseOther_115 : decode cX2_chooseOther 115 = .ok (.aload_n 0, 1) := by decide +kernel
theorem dX2_chooseOther_116 : decode cX2_chooseOther 116 = .ok (.iload_n 2, 1) := by decide +kernel
theorem dX2_chooseOther_117 : decode cX2_chooseOther 117 = .ok (.putfield 15, 3) := by decide +kernel
theorem dX2_chooseOther_120 : decode cX2_chooseOther 120 = .ok (.aload_n 0, 1) := by decide +kernel
theorem dX2_chooseOther_121 : decode cX2_chooseOther 121 = .ok (.iload 5, 2) := by decide +kernel
theorem dX2_chooseOther_123 : decode cX2_chooseOther 123 = .ok (.putfield 18, 3) := by decide +kernel
theorem dX2_chooseOther_126 : decode cX2_chooseOther 126 = .ok (.iinc 5 1, 3) := by decide +kernel
theorem dX2_chooseOther_129 : decode cX2_chooseOther 129 = .ok (.goto (-110), 3) := by decide +kernel
theorem dX2_chooseOther_132 : decode cX2_chooseOther 132 = .ok (.return_, 1) := by decide +kernel
def lX2_chooseOther_0 : List (Nat × (Op ⊕ Nat)) := [(0, .inl (o_aload 0 1)), (1, .inl (o_get 2 0 4)), (4, .inl (o_get 1 0 7)), (7, .inl (o_iload 1 8)), (8, .inl (o_pushI (nI 2) 9)), (9, .inl (o_callV fX9_fact 2 9 12)), (12, .inl (o_iload 3 13)), (13, .inl (o_isub 14)), (14, .inl (o_istore 4 16)), (16, .inl (o_pushI (nI 0) 17)), (17, .inl (o_istore 5 19)), (19, .inl (o_iload 5 21)), (21, .inl (o_aload 0 22)), (22, .inl (o_get 2 0 25)), (25, .inl (o_get 1 0 28)), (28, .inl (o_get 9 0 31)), (31, .inl (o_icmp_ge 132 34)), (34, .inl (o_aload 0 35)), (35, .inl (o_get 2 0 38)), (38, .inl (o_get 1 0 41)), (41, .inl (o_iload 5 43)), (43, .inl (o_pushI (nI 1) 44)), (44, .inl (o_callV fX9_trait 2 9 47)), (47, .inl (o_iload 4 49)), (49, .inl (o_min 52)), (52, .inl (o_istore 6 54)), (54, .inl (o_aload 0 55)), (55, .inl (o_get 2 0 58)), (58, .inl (o_iload 2 59)), (59, .inl (o_iload 1 60)), (60, .inl (o_iload 3 61)), (61, .inl (o_callV fX1_valueOf 3 1 64)), (64, .inl (o_aload 0 65)), (65, .inl (o_get 2 0 68)), (68, .inl (o_iload 5 70)), (70, .inl (o_iload 1 71)), (71, .inl (o_iload 6 73)), (73, .inl (o_callV fX1_valueOf 3 1 76)), (76, .inl (o_iadd 77)), (77, .inl (o_istore 7 79))]
def lX2_chooseOther_1 : List (Nat × (Op ⊕ Nat)) := [(79, .inl (o_iload 5 81)), (81, .inl (o_iload 2 82)), (82, .inl (o_icmp_eq 126 85)), (85, .inl (o_iload 7 87)), (87, .inl (o_aload 0 88)), (88, .inl (o_get 2 2 91)), (91, .inl (o_icmp_le 126 94)), (94, .inl (o_aload 0 95)), (95, .inl (o_get 2 1 98)), (98, .inl (o_iload 5 100)), (100, .inl (o_iload 1 101)), (101, .inl (o_iload 6 103)), (103, .inl (o_callV fX3_allowsIn 3 3 106)), (106, .inl (o_if_eq 126 109)), (109, .inl (o_aload 0 110)), (110, .inl (o_iload 7 112)), (112, .inl (o_putI 2 2 115)), (115, .inl (o_aload 0 116)), (116, .inl (o_iload 2 117)), (117, .inl (o_putI 2 3 120)), (120, .inl (o_aload 0 121)), (121, .inl (o_iload 5 123)), (123, .inl (o_putI 2 4 126)), (126, .inl (o_iinc 5 (nI 1) 129)), (129, .inl (o_goto 19)), (132, .inr 3)]
def lX2_chooseOther : List (Nat × (Op ⊕ Nat)) := lX2_chooseOther_0 ++ (lX2_chooseOther_1)
theorem qX2_chooseOther : yX2_chooseOther.cls = RX2 ∧ yX2_chooseOther.cls ≠ "java/lang/invoke/MethodHandle" ∧ yX2_chooseOther.cls ≠ "java/lang/invoke/VarHandle" ∧ (parseMethodDescriptor yX2_chooseOther.desc).map (fun d => d.parameters.length) = some 3 := by decide +kernel
set_option maxRecDepth 10000 in
theorem hX2_chooseOther_0 (l : Launch) {p : Program} {e : Env} {s : State} {m : MethodId} {args : Array Value} {below : List Frame} {meth : Method} {c : Code} {D : va_G} {ad adV : Nat → Nat} {cA : Nat → ClassId} {K : Kt} (C0 : Cx p s m args meth c D ad adV cA cX2_chooseOther 8 RX2) (hr : meth.sig.returnType = none) : ∀ q ∈ lX2_chooseOther_0, Sd p l e (rmd 5) s m args below meth c (MQ below (QQ D ad cA K) args s 0 0 (AA ad)) D ad cA 8 q.1 (opOf K q.2) := List.forall_mem_cons.mpr ⟨s_aload_n C0 dX2_chooseOther_0 rfl, List.forall_mem_cons.mpr ⟨s_get (ci := 2) (k := 0) C0 dX2_chooseOther_1 inX2 rfl (by decide) tw2_28, List.forall_mem_cons.mpr ⟨s_get (ci := 1) (k := 0) C0 dX2_chooseOther_4 inX1 rfl (by decide) tw1_192, List.forall_mem_cons.mpr ⟨s_iload_n C0 dX2_chooseOther_7 rfl, List.forall_mem_cons.mpr ⟨s_iconst C0 dX2_chooseOther_8 rfl, List.forall_mem_cons.mpr ⟨s_callV (ci := 9) C0 (kX9_fact l) dX2_chooseOther_9 rfl qX9_fact tw4_182 tw3_92 tw3_93 tw1_4 tw3_94 rfl (by decide) (by decide), List.forall_mem_cons.mpr ⟨s_iload_n C0 dX2_chooseOther_12 rfl, List.forall_mem_cons.mpr ⟨s_isub C0 dX2_chooseOther_13, List.forall_mem_cons.mpr ⟨s_istore C0 dX2_chooseOther_14 (by decide), List.forall_mem_cons.mpr ⟨s_iconst C0 dX2_chooseOther_16 rfl, List.forall_mem_cons.mpr ⟨s_istore C0 dX2_chooseOther_17 (by decide), List.forall_mem_cons.mpr ⟨s_iload C0 dX2_chooseOther_19, List.forall_mem_cons.mpr ⟨s_aload_n C0 dX2_chooseOther_21 rfl, List.forall_mem_cons.mpr ⟨s_get (ci := 2) (k := 0) C0 dX2_chooseOther_22 inX2 rfl (by decide) tw2_28, List.forall_mem_cons.mpr ⟨s_get (ci := 1) (k := 0) C0 dX2_chooseOther_25 inX1 rfl (by decide) tw1_192, List.forall_mem_cons.mpr ⟨s_get (ci := 9) (k := 0) C0 dX2_chooseOther_28 inX9 rfl (by decide) tw1_82, List.forall_mem_cons.mpr ⟨s_icmp_ge C0 dX2_chooseOther_31 rfl, List.forall_mem_cons.mpr ⟨s_aload_n C0 dX2_chooseOther_34 rfl, List.forall_mem_cons.mpr ⟨s_get (ci := 2) (k := 0) C0 dX2_chooseOther_35 inX2 rfl (by decide) tw2_28, List.forall_mem_cons.mpr ⟨s_get (ci := 1) (k := 0) C0 dX2_chooseOther_38 inX1 rfl (by decide) tw1_192, List.forall_mem_cons.mpr ⟨s_iload C0 dX2_chooseOther_41, List.forall_mem_cons.mpr ⟨s_iconst C0 dX2_chooseOther_43 rfl, List.forall_mem_cons.mpr ⟨s_callV (ci := 9) C0 (kX9_trait l) dX2_chooseOther_44 rfl qX9_trait tw4_188 tw3_73 tw3_74 tw1_4 tw3_75 rfl (by decide) (by decide), List.forall_mem_cons.mpr ⟨s_iload C0 dX2_chooseOther_47, List.forall_mem_cons.mpr ⟨s_min C0 dX2_chooseOther_49 tw4_181 tw2_195 tw1_14 twm_min rfl (by decide), List.forall_mem_cons.mpr ⟨s_istore C0 dX2_chooseOther_52 (by decide), List.forall_mem_cons.mpr ⟨s_aload_n C0 dX2_chooseOther_54 rfl, List.forall_mem_cons.mpr ⟨s_get (ci := 2) (k := 0) C0 dX2_chooseOther_55 inX2 rfl (by decide) tw2_28, List.forall_mem_cons.mpr ⟨s_iload_n C0 dX2_chooseOther_58 rfl, List.forall_mem_cons.mpr ⟨s_iload_n C0 dX2_chooseOther_59 rfl, List.forall_mem_cons.mpr ⟨s_iload_n C0 dX2_chooseOther_60 rfl, List.forall_mem_cons.mpr ⟨s_callV (ci := 1) C0 (kX1_valueOf l) dX2_chooseOther_61 rfl qX1_valueOf tw4_189 tw3_202 tw3_203 tw1_6 tw3_204 rfl (by decide) (by decide), List.forall_mem_cons.mpr ⟨s_aload_n C0 dX2_chooseOther_64 rfl, List.forall_mem_cons.mpr ⟨s_get (ci := 2) (k := 0) C0 dX2_chooseOther_65 inX2 rfl (by decide) tw2_28, List.forall_mem_cons.mpr ⟨s_iload C0 dX2_chooseOther_68, List.forall_mem_cons.mpr ⟨s_iload_n C0 dX2_chooseOther_70 rfl, List.forall_mem_cons.mpr ⟨s_iload C0 dX2_chooseOther_71, List.forall_mem_cons.mpr ⟨s_callV (ci := 1) C0 (kX1_valueOf l) dX2_chooseOther_73 rfl qX1_valueOf tw4_189 tw3_202 tw3_203 tw1_6 tw3_204 rfl (by decide) (by decide), List.forall_mem_cons.mpr ⟨s_iadd C0 dX2_chooseOther_76, List.forall_mem_cons.mpr ⟨s_istore C0 dX2_chooseOther_77 (by decide), fun _ h => absurd h List.not_mem_nil⟩⟩⟩⟩⟩⟩⟩⟩⟩⟩⟩⟩⟩⟩⟩⟩⟩⟩⟩⟩⟩⟩⟩⟩⟩⟩⟩⟩⟩⟩⟩⟩⟩⟩⟩⟩⟩⟩⟩⟩
set_option maxRecDepth 10000 in
theorem hX2_chooseOther_1 (l : Launch) {p : Program} {e : Env} {s : State} {m : MethodId} {args : Array Value} {below : List Frame} {meth : Method} {c : Code} {D : va_G} {ad adV : Nat → Nat} {cA : Nat → ClassId} {K : Kt} (C0 : Cx p s m args meth c D ad adV cA cX2_chooseOther 8 RX2) (hr : meth.sig.returnType = none) : ∀ q ∈ lX2_chooseOther_1, Sd p l e (rmd 5) s m args below meth c (MQ below (QQ D ad cA K) args s 0 0 (AA ad)) D ad cA 8 q.1 (opOf K q.2) := List.forall_mem_cons.mpr ⟨s_iload C0 dX2_chooseOther_79, List.forall_mem_cons.mpr ⟨s_iload_n C0 dX2_chooseOther_81 rfl, List.forall_mem_cons.mpr ⟨s_icmp_eq C0 dX2_chooseOther_82 rfl, List.forall_mem_cons.mpr ⟨s_iload C0 dX2_chooseOther_85, List.forall_mem_cons.mpr ⟨s_aload_n C0 dX2_chooseOther_87 rfl, List.forall_mem_cons.mpr ⟨s_get (ci := 2) (k := 2) C0 dX2_chooseOther_88 inX2 rfl (by decide) tw2_30, List.forall_mem_cons.mpr ⟨s_icmp_le C0 dX2_chooseOther_91 rfl, List.forall_mem_cons.mpr ⟨s_aload_n C0 dX2_chooseOther_94 rfl, List.forall_mem_cons.mpr ⟨s_get (ci := 2) (k := 1) C0 dX2_chooseOther_95 inX2 rfl (by decide) tw2_29, List.forall_mem_cons.mpr ⟨s_iload C0 dX2_chooseOther_98, List.forall_mem_cons.mpr ⟨s_iload_n C0 dX2_chooseOther_100 rfl, List.forall_mem_cons.mpr ⟨s_iload C0 dX2_chooseOther_101, List.forall_mem_cons.mpr ⟨s_callV (ci := 3) C0 (kX3_allowsIn l) dX2_chooseOther_103 rfl qX3_allowsIn tw4_183 tw4_38 tw4_39 tw1_7 tw4_40 rfl (by decide) (by decide), List.forall_mem_cons.mpr ⟨s_if_eq C0 dX2_chooseOther_106 rfl, List.forall_mem_cons.mpr ⟨s_aload_n C0 dX2_chooseOther_109 rfl, List.forall_mem_cons.mpr ⟨s_iload C0 dX2_chooseOther_110, List.forall_mem_cons.mpr ⟨s_putI (ci := 2) (k := 2) C0 dX2_chooseOther_112 inX2 tyX2_ok nmX2 rfl (by decide) rfl rfl tw2_30, List.forall_mem_cons.mpr ⟨s_aload_n C0 dX2_chooseOther_115 rfl, List.forall_mem_cons.mpr ⟨s_iload_n C0 dX2_chooseOther_116 rfl, List.forall_mem_cons.mpr ⟨s_putI (ci := 2) (k := 3) C0 dX2_chooseOther_117 inX2 tyX2_ok nmX2 rfl (by decide) rfl rfl tw2_32, List.forall_mem_cons.mpr ⟨s_aload_n C0 dX2_chooseOther_120 rfl, List.forall_mem_cons.mpr ⟨s_iload C0 dX2_chooseOther_121, List.forall_mem_cons.mpr ⟨s_putI (ci := 2) (k := 4) C0 dX2_chooseOther_123 inX2 tyX2_ok nmX2 rfl (by decide) rfl rfl tw2_34, List.forall_mem_cons.mpr ⟨s_iinc C0 dX2_chooseOther_126 rfl (by decide), List.forall_mem_cons.mpr ⟨s_goto C0 dX2_chooseOther_129 rfl, List.forall_mem_cons.mpr ⟨s_vret C0 hr dX2_chooseOther_132, fun _ h => absurd h List.not_mem_nil⟩⟩⟩⟩⟩⟩⟩⟩⟩⟩⟩⟩⟩⟩⟩⟩⟩⟩⟩⟩⟩⟩⟩⟩⟩⟩
def fX2_chooseOther : Mf := mf 8 (fun K => tl K lX2_chooseOther)
theorem kX2_chooseOther (l : Launch) : Okm l yX2_chooseOther cX2_chooseOther 8 none 5 fX2_chooseOther := Okm_tl (own := RX2) (by decide +kernel) rfl (fun C0 hr => List.forall_mem_append.mpr ⟨hX2_chooseOther_0 l C0 hr, hX2_chooseOther_1 l C0 hr⟩)
theorem dX2_choosePair_0 : decode cX2_choosePair 0 = .ok (.aload_n 0, 1) := by decide +kernel
theorem dX2_choosePair_1 : decode cX2_choosePair 1 = .ok (.bipush (-2), 2) := by decide +kernel
theorem dX2_choosePair_3 : decode cX2_choosePair 3 = .ok (.putfield 9, 3) := by decide +kernel
theorem dX2_choosePair_6 : decode cX2_choosePair 6 = .ok (.aload_n 0, 1) := by decide +kernel
theorem dX2_choosePair_7 : decode cX2_choosePair 7 = .ok (.bipush (-2), 2) := by decide +kernel
theorem dX2_choosePair_9 : decode cX2_choosePair 9 = .ok (.putfield 15, 3) := by decide +kernel
theorem dX2_choosePair_12 : decode cX2_choosePair 12 = .ok (.aload_n 0, 1) := by decide +kernel
theorem dX2_choosePair_13 : decode cX2_choosePair 13 = .ok (.bipush (-2), 2) := by decide +kernel
theorem dX2_choosePair_15 : decode cX2_choosePair 15 = .ok (.putfield 18, 3) := by decide +kernel
theorem dX2_choosePair_18 : decode cX2_choosePair 18 = .ok (.iconst 0, 1) := by decide +kernel
theorem dX2_choosePair_19 : decode cX2_choosePair 19 = .ok (.istore_n 3, 1) := by decide +kernel
theorem dX2_choosePair_20 : decode cX2_choosePair 20 = .ok (.iload_n 3, 1) := by decide +kernel
theorem dX2_choosePair_21 : decode cX2_choosePair 21 = .ok (.aload_n 0, 1) := by decide +kernel
theorem dX2_choosePair_22 : decode cX2_choosePair 22 = .ok (.getfield 33, 3) := by decide +kernel
theorem dX2_choosePair_25 : decode cX2_choosePair 25 = .ok (.getfield 41, 3) := by decide +kernel
theorem dX2_choosePair_28 : decode cX2_choosePair 28 = .ok (.getfield 47, 3) := by decide +kernel
theorem dX2_choosePair_31 : decode cX2_choosePair 31 = .ok (.if_icmp .ge 63, 3) := by decide +kernel
theorem dX2_choosePair_34 : decode cX2_choosePair 34 = .ok (.iload_n 2, 1) := by decide +kernel
theorem dX2_choosePair_35 : decode cX2_choosePair 35 = .ok (.aload_n 0, 1) := by decide +kernel
theorem dX2_choosePair_36 : decode cX2_choosePair 36 = .ok (.getfield 33, 3) := by decide +kernel
theorem dX2_choosePair_39 : decode cX2_choosePair 39 = .ok (.iload_n 3, 1) := by decide +kernel
theorem dX2_choosePair_40 : decode cX2_choosePair 40 = .ok (.iload_n 1, 1) := by decide +kernel
theorem dX2_choosePair_41 : decode cX2_choosePair 41 = .ok (.invokevirtual 52, 3) := by decide +kernel
theorem dX2_choosePair_44 : decode cX2_choosePair 44 = .ok (.invokestatic 56, 3) := by decide +kernel
theorem dX2_choosePair_47 : decode cX2_choosePair 47 = .ok (.istore 4, 2) := by decide +kernel
theorem dX2_choosePair_49 : decode cX2_choosePair 49 = .ok (.iload 4, 2) := by decide +kernel
theorem dX2_choosePair_51 : decode cX2_choosePair 51 = .ok (.aload_n 0, 1) := by decide +kernel
theorem dX2_choosePair_52 : decode cX2_choosePair 52 = .ok (.getfield 33, 3) := by decide +kernel
theorem dX2_choosePair_55 : decode cX2_choosePair 55 = .ok (.getfield 41, 3) := by decide +kernel
theorem dX2_choosePair_58 : decode cX2_choosePair 58 = .ok (.iload_n 1, 1) := by decide +kernel
theorem dX2_choosePair_59 : decode cX2_choosePair 59 = .ok (.iconst 2, 1) := by decide +kernel
theorem dX2_choosePair_60 : decode cX2_choosePair 60 = .ok (.invokevirtual 61, 3) := by decide +kernel
theorem dX2_choosePair_63 : decode cX2_choosePair 63 = .ok (.if_icmp .ge 25, 3) := by decide +kernel
theorem dX2_choosePair_66 : decode cX2_choosePair 66 = .ok (.aload_n 0, 1) := by decide +kernel
theorem dX2_choosePair_67 : decode cX2_choosePair 67 = .ok (.getfield 37, 3) := by decide +kernel
theorem dX2_choosePair_70 : decode cX2_choosePair 70 = .ok (.iload_n 3, 1) := by decide +kernel
theorem dX2_choosePair_71 : decode cX2_choosePair 71 = .ok (.iload_n 1, 1) := by decide +kernel
theorem dX2_choosePair_72 : decode cX2_choosePair 72 = .ok (.iload 4, 2) := by decide +kernel
theorem dX2_choosePair_74 : decode cX2_choosePair 74 = .ok (.invokevirtual 64, 3) := by decide +kernel
theorem dX2_choosePair_77 : decode cX2_choosePair 77 = .ok (.ifCond .eq 11, 3) := by decide +kernel
theorem dX2_choosePair_80 : decode cX2_choosePair 80 = .ok (.aload_n 0, 1) := by decide +kernel
theorem dX2_choosePair_81 : decode cX2_choosePair 81 = .ok (.iload_n 1, 1) := by decide +kernel
theorem dX2_choosePair_82 : decode cX2_choosePair 82 = .ok (.iload_n 3, 1) := by decide +kernel
theorem dX2_choosePair_83 : decode cX2_choosePair 83 = .ok (.iload 4, 2) := by decide +kernel
theorem dX2_choosePair_85 : decode cX2_choosePair 85 = .ok (.invokevirtual 70, 3) := by decide +kernel
theorem dX2_choosePair_88 : decode cX2_choosePair 88 = .ok (.iinc 3 1, 3) := by decide +kernel
theorem dX2_choosePair_91 : decode cX2_choosePair 91 = .ok (.goto (-71), 3) := by decide +kernel
theorem dX2_choosePair_94 : decode cX2_choosePair 94 = .ok (.return_, 1) := by decide +kernel
def lX2_choosePair_0 : List (Nat × (Op ⊕ Nat)) := [(0, .inl (o_aload 0 1)), (1, .inl (o_pushI ((-2)) 3)), (3, .inl (o_putI 2 2 6)), (6, .inl (o_aload 0 7)), (7, .inl (o_pushI ((-2)) 9)), (9, .inl (o_putI 2 3 12)), (12, .inl (o_aload 0 13)), (13, .inl (o_pushI ((-2)) 15)), (15, .inl (o_putI 2 4 18)), (18, .inl (o_pushI (nI 0) 19)), (19, .inl (o_istore 3 20)), (20, .inl (o_iload 3 21)), (21, .inl (o_aload 0 22)), (22, .inl (o_get 2 0 25)), (25, .inl (o_get 1 0 28)), (28, .inl (o_get 9 0 31)), (31, .inl (o_icmp_ge 94 34)), (34, .inl (o_iload 2 35)), (35, .inl (o_aload 0 36)), (36, .inl (o_get 2 0 39)), (39, .inl (o_iload 3 40)), (40, .inl (o_iload 1 41)), (41, .inl (o_callV fX1_fullThrows 2 1 44)), (44, .inl (o_min 47)), (47, .inl (o_istore 4 49)), (49, .inl (o_iload 4 51)), (51, .inl (o_aload 0 52)), (52, .inl (o_get 2 0 55)), (55, .inl (o_get 1 0 58)), (58, .inl (o_iload 1 59)), (59, .inl (o_pushI (nI 2) 60)), (60, .inl (o_callV fX9_fact 2 9 63)), (63, .inl (o_icmp_ge 88 66)), (66, .inl (o_aload 0 67)), (67, .inl (o_get 2 1 70)), (70, .inl (o_iload 3 71)), (71, .inl (o_iload 1 72)), (72, .inl (o_iload 4 74)), (74, .inl (o_callV fX3_allowsIn 3 3 77)), (77, .inl (o_if_eq 88 80))]
def lX2_choosePair_1 : List (Nat × (Op ⊕ Nat)) := [(80, .inl (o_aload 0 81)), (81, .inl (o_iload 1 82)), (82, .inl (o_iload 3 83)), (83, .inl (o_iload 4 85)), (85, .inl (o_callV fX2_chooseOther 3 2 88)), (88, .inl (o_iinc 3 (nI 1) 91)), (91, .inl (o_goto 20)), (94, .inr 3)]
def lX2_choosePair : List (Nat × (Op ⊕ Nat)) := lX2_choosePair_0 ++ (lX2_choosePair_1)
theorem qX2_choosePair : yX2_choosePair.cls = RX2 ∧ yX2_choosePair.cls ≠ "java/lang/invoke/MethodHandle" ∧ yX2_choosePair.cls ≠ "java/lang/invoke/VarHandle" ∧ (parseMethodDescriptor yX2_choosePair.desc).map (fun d => d.parameters.length) = some 2 := by decide +kernel
set_option maxRecDepth 10000 in
theorem hX2_choosePair_0 (l : Launch) {p : Program} {e : Env} {s : State} {m : MethodId} {args : Array Value} {below : List Frame} {meth : Method} {c : Code} {D : va_G} {ad adV : Nat → Nat} {cA : Nat → ClassId} {K : Kt} (C0 : Cx p s m args meth c D ad adV cA cX2_choosePair 5 RX2) (hr : meth.sig.returnType = none) : ∀ q ∈ lX2_choosePair_0, Sd p l e (rmd 6) s m args below meth c (MQ below (QQ D ad cA K) args s 0 0 (AA ad)) D ad cA 5 q.1 (opOf K q.2) := List.forall_mem_cons.mpr ⟨s_aload_n C0 dX2_choosePair_0 rfl, List.forall_mem_cons.mpr ⟨s_bipush C0 dX2_choosePair_1 (by decide +kernel), List.forall_mem_cons.mpr ⟨s_putI (ci := 2) (k := 2) C0 dX2_choosePair_3 inX2 tyX2_ok nmX2 rfl (by decide) rfl rfl tw2_30, List.forall_mem_cons.mpr ⟨s_aload_n C0 dX2_choosePair_6 rfl, List.forall_mem_cons.mpr ⟨s_bipush C0 dX2_choosePair_7 (by decide +kernel), List.forall_mem_cons.mpr ⟨s_putI (ci := 2) (k := 3) C0 dX2_choosePair_9 inX2 tyX2_ok nmX2 rfl (by decide) rfl rfl tw2_32, List.forall_mem_cons.mpr ⟨s_aload_n C0 dX2_choosePair_12 rfl, List.forall_mem_cons.mpr ⟨s_bipush C0 dX2_choosePair_13 (by decide +kernel), List.forall_mem_cons.mpr ⟨s_putI (ci := 2) (k := 4) C0 dX2_choosePair_15 inX2 tyX2_ok nmX2 rfl (by decide) rfl rfl tw2_34, List.forall_mem_cons.mpr ⟨s_iconst C0 dX2_choosePair_18 rfl, List.forall_mem_cons.mpr ⟨s_istore_n C0 dX2_choosePair_19 rfl (by decide), List.forall_mem_cons.mpr ⟨s_iload_n C0 dX2_choosePair_20 rfl, List.forall_mem_cons.mpr ⟨s_aload_n C0 dX2_choosePair_21 rfl, List.forall_mem_cons.mpr ⟨s_get (ci := 2) (k := 0) C0 dX2_choosePair_22 inX2 rfl (by decide) tw2_28, List.forall_mem_cons.mpr ⟨s_get (ci := 1) (k := 0) C0 dX2_choosePair_25 inX1 rfl (by decide) tw1_192, List.forall_mem_cons.mpr ⟨s_get (ci := 9) (k := 0) C0 dX2_choosePair_28 inX9 rfl (by decide) tw1_82, List.forall_mem_cons.mpr ⟨s_icmp_ge C0 dX2_choosePair_31 rfl, List.forall_mem_cons.mpr ⟨s_iload_n C0 dX2_choosePair_34 rfl, List.forall_mem_cons.mpr ⟨s_aload_n C0 dX2_choosePair_35 rfl, List.forall_mem_cons.mpr ⟨s_get (ci := 2) (k := 0) C0 dX2_choosePair_36 inX2 rfl (by decide) tw2_28, List.forall_mem_cons.mpr ⟨s_iload_n C0 dX2_choosePair_39 rfl, List.forall_mem_cons.mpr ⟨s_iload_n C0 dX2_choosePair_40 rfl, List.forall_mem_cons.mpr ⟨s_callV (ci := 1) C0 (kX1_fullThrows l) dX2_choosePair_41 rfl qX1_fullThrows tw4_180 tw4_116 tw4_117 tw1_6 tw4_118 rfl (by decide) (by decide), List.forall_mem_cons.mpr ⟨s_min C0 dX2_choosePair_44 tw4_181 tw2_195 tw1_14 twm_min rfl (by decide), List.forall_mem_cons.mpr ⟨s_istore C0 dX2_choosePair_47 (by decide), List.forall_mem_cons.mpr ⟨s_iload C0 dX2_choosePair_49, List.forall_mem_cons.mpr ⟨s_aload_n C0 dX2_choosePair_51 rfl, List.forall_mem_cons.mpr ⟨s_get (ci := 2) (k := 0) C0 dX2_choosePair_52 inX2 rfl (by decide) tw2_28, List.forall_mem_cons.mpr ⟨s_get (ci := 1) (k := 0) C0 dX2_choosePair_55 inX1 rfl (by decide) tw1_192, List.forall_mem_cons.mpr ⟨s_iload_n C0 dX2_choosePair_58 rfl, List.forall_mem_cons.mpr ⟨s_iconst C0 dX2_choosePair_59 rfl, List.forall_mem_cons.mpr ⟨s_callV (ci := 9) C0 (kX9_fact l) dX2_choosePair_60 rfl qX9_fact tw4_182 tw3_92 tw3_93 tw1_4 tw3_94 rfl (by decide) (by decide), List.forall_mem_cons.mpr ⟨s_icmp_ge C0 dX2_choosePair_63 rfl, List.forall_mem_cons.mpr ⟨s_aload_n C0 dX2_choosePair_66 rfl, List.forall_mem_cons.mpr ⟨s_get (ci := 2) (k := 1) C0 dX2_choosePair_67 inX2 rfl (by decide) tw2_29, List.forall_mem_cons.mpr ⟨s_iload_n C0 dX2_choosePair_70 rfl, List.forall_mem_cons.mpr ⟨s_iload_n C0 dX2_choosePair_71 rfl, List.forall_mem_cons.mpr ⟨s_iload C0 dX2_choosePair_72, List.forall_mem_cons.mpr ⟨s_callV (ci := 3) C0 (kX3_allowsIn l) dX2_choosePair_74 rfl qX3_allowsIn tw4_183 tw4_38 tw4_39 tw1_7 tw4_40 rfl (by decide) (by decide), List.forall_mem_cons.mpr ⟨s_if_eq C0 dX2_choosePair_77 rfl, fun _ h => absurd h List.not_mem_nil⟩⟩⟩⟩⟩⟩⟩⟩⟩⟩⟩⟩⟩⟩⟩⟩⟩⟩⟩⟩⟩⟩⟩⟩⟩⟩⟩⟩⟩⟩⟩⟩⟩⟩⟩⟩⟩⟩⟩⟩
set_option maxRecDepth 10000 in
theorem hX2_choosePair_1 (l : Launch) {p : Program} {e : Env} {s : State} {m : MethodId} {args : Array Value} {below : List Frame} {meth : Method} {c : Code} {D : va_G} {ad adV : Nat → Nat} {cA : Nat → ClassId} {K : Kt} (C0 : Cx p s m args meth c D ad adV cA cX2_choosePair 5 RX2) (hr : meth.sig.returnType = none) : ∀ q ∈ lX2_choosePair_1, Sd p l e (rmd 6) s m args below meth c (MQ below (QQ D ad cA K) args s 0 0 (AA ad)) D ad cA 5 q.1 (opOf K q.2) := List.forall_mem_cons.mpr ⟨s_aload_n C0 dX2_choosePair_80 rfl, List.forall_mem_cons.mpr ⟨s_iload_n C0 dX2_choosePair_81 rfl, List.forall_mem_cons.mpr ⟨s_iload_n C0 dX2_choosePair_82 rfl, List.forall_mem_cons.mpr ⟨s_iload C0 dX2_choosePair_83, List.forall_mem_cons.mpr ⟨s_callV (ci := 2) C0 (kX2_chooseOther l) dX2_choosePair_85 rfl qX2_chooseOther tw4_184 tw4_186 twp_33 tw1_9 tw4_187 rfl (by decide) (by decide), List.forall_mem_cons.mpr ⟨s_iinc C0 dX2_choosePair_88 rfl (by decide), List.forall_mem_cons.mpr ⟨s_goto C0 dX2_choosePair_91 rfl, List.forall_mem_cons.mpr ⟨s_vret C0 hr dX2_choosePair_94, fun _ h => absurd h List.not_mem_nil⟩⟩⟩⟩⟩⟩⟩⟩
def fX2_choosePair : Mf := mf 5 (fun K => tl K lX2_choosePair)
theorem kX2_choosePair (l : Launch) : Okm l yX2_choosePair cX2_choosePair 5 none 6 fX2_choosePair := Okm_tl (own := RX2) (by decide +kernel) rfl (fun C0 hr => List.forall_mem_append.mpr ⟨hX2_choosePair_0 l C0 hr, hX2_choosePair_1 l C0 hr⟩)
theorem dX3_mostOf_0 : decode cX3_mostOf 0 = .ok (.aload_n 0, 1) := by decide +kernel
theorem dX3_mostOf_1 : decode cX3_mostOf 1 = .ok (.getfield 19, 3) := by decide +kernel
theorem dX3_mostOf_4 : decode cX3_mostOf 4 = .ok (.getfield 23, 3) := by decide +kernel
theorem dX3_mostOf_7 : decode cX3_mostOf 7 = .ok (.iload_n 1, 1) := by decide +kernel
theorem dX3_mostOf_8 : decode cX3_mostOf 8 = .ok (.iload_n 2, 1) := by decide +kernel
theorem dX3_mostOf_9 : decode cX3_mostOf 9 = .ok (.invokevirtual 80, 3) := by decide +kernel
theorem dX3_mostOf_12 : decode cX3_mostOf 12 = .ok (.ifCond .ne 19, 3) := by decide +kernel
theorem dX3_mostOf_15 : decode cX3_mostOf 15 = .ok (.aload_n 0, 1) := by decide +kernel
theorem dX3_mostOf_16 : decode cX3_mostOf 16 = .ok (.getfield 19, 3) := by decide +kernel
theorem dX3_mostOf_19 : decode cX3_mostOf 19 = .ok (.getfield 23, 3) := by decide +kernel
theorem dX3_mostOf_22 : decode cX3_mostOf 22 = .ok (.getfield 84, 3) := by decide +kernel
theorem dX3_mostOf_25 : decode cX3_mostOf 25 = .ok (.iload_n 2, 1) := by decide +kernel
theorem dX3_mostOf_26 : decode cX3_mostOf 26 = .ok (.iaload, 1) := by decide +kernel
theorem dX3_mostOf_27 : decode cX3_mostOf 27 = .ok (.iconst 3, 1) := by decide +kernel
theorem dX3_mostOf_28 : decode cX3_mostOf 28 = .ok (.if_icmp .lt 5, 3) := by decide +kernel
theorem dX3_mostOf_31 : decode cX3_mostOf 31 = .ok (.iconst 0, 1) := by decide +kernel
theorem dX3_mostOf_32 : decode cX3_mostOf 32 = .ok (.ireturn, 1) := by decide +kernel
theorem dX3_mostOf_33 : decode cX3_mostOf 33 = .ok (.aload_n 0, 1) := by decide +kernel
theorem dX3_mostOf_34 : decode cX3_mostOf 34 = .ok (.iload_n 1, 1) := by decide +kernel
theorem dX3_mostOf_35 : decode cX3_mostOf 35 = .ok (.invokevirtual 35, 3) := by decide +kernel
theorem dX3_mostOf_38 : decode cX3_mostOf 38 = .ok (.aload_n 0, 1) := by decide +kernel
theorem dX3_mostOf_39 : decode cX3_mostOf 39 = .ok (.iload_n 2, 1) := by decide +kernel
theorem dX3_mostOf_40 : decode cX3_mostOf 40 = .ok (.invokevirtual 66, 3) := by decide +kernel
theorem dX3_mostOf_43 : decode cX3_mostOf 43 = .ok (.ifCond .ne 5, 3) := by decide +kernel
theorem dX3_mostOf_46 : decode cX3_mostOf 46 = .ok (.iconst 0, 1) := by decide +kernel
theorem dX3_mostOf_47 : decode cX3_mostOf 47 = .ok (.ireturn, 1) := by decide +kernel
theorem dX3_mostOf_48 : decode cX3_mostOf 48 = .ok (.aload_n 0, 1) := by decide +kernel
theorem dX3_mostOf_49 : decode cX3_mostOf 49 = .ok (.getfield 19, 3) := by decide +kernel
theorem dX3_mostOf_52 : decode cX3_mostOf 52 = .ok (.getfield 57, 3) := by decide +kernel
theorem dX3_mostOf_55 : decode cX3_mostOf 55 = .ok (.iload_n 1, 1) := by decide +kernel
theorem dX3_mostOf_56 : decode cX3_mostOf 56 = .ok (.iconst 1, 1) := by decide +kernel
theorem dX3_mostOf_57 : decode cX3_mostOf 57 = .ok (.invokevirtual 61, 3) := by decide +kernel
theorem dX3_mostOf_60 : decode cX3_mostOf 60 = .ok (.aload_n 0, 1) := by decide +kernel
theorem dX3_mostOf_61 : decode cX3_mostOf 61 = .ok (.getfield 19, 3) := by decide +kernel
theorem dX3_mostOf_64 : decode cX3_mostOf 64 = .ok (.iload_n 2, 1) := by decide +kernel
theorem dX3_mostOf_65 : decode cX3_mostOf 65 = .ok (.invokevirtual 87, 3) := by decide +kernel
theorem dX3_mostOf_68 : decode cX3_mostOf 68 = .ok (.iload_n 3, 1) := by decide +kernel
theorem dX3_mostOf_69 : decode cX3_mostOf 69 = .ok (.iadd, 1) := by decide +kernel
theorem dX3_mostOf_70 : decode cX3_mostOf 70 = .ok (.invokestatic 90, 3) := by decide +kernel
theorem dX3_mostOf_73 : decode cX3_mostOf 73 = .ok (.istore 4, 2) := by decide +kernel
theorem dX3_mostOf_75 : decode cX3_mostOf 75 = .ok (.aload_n 0, 1) := by decide +kernel
theorem dX3_mostOf_76 : decode cX3_mostOf 76 = .ok (.iload_n 2, 1) := by decide +kernel
theorem dX3_mostOf_77 : decode cX3_mostOf 77 = .ok (.invokevirtual 74, 3) := by decide +kernel
theorem dX3_mostOf_80 : decode cX3_mostOf 80 = .ok (.istore 5, 2) := by decide +kernel
theorem dX3_mostOf_82 : decode cX3_mostOf 82 = .ok (.iload 4, 2) := by decide +kernel
theorem dX3_mostOf_84 : decode cX3_mostOf 84 = .ok (.aload_n 0, 1) := by decide +kernel
theorem dX3_mostOf_85 : decode cX3_mostOf 85 = .ok (.iload_n 2, 1) := by decide +kernel
theorem dX3_mostOf_86 : decode cX3_mostOf 86 = .ok (.invokevirtual 77, 3) := by decide +kernel
theorem dX3_mostOf_89 : decode cX3_mostOf 89 = .ok (.invokestatic 90, 3) := by decide +kernel
theorem dX3_mostOf_92 : decode cX3_mostOf 92 = .ok (.istore 6, 2) := by decide +kernel
theorem dX3_mostOf_94 : decode cX3_mostOf 94 = .ok (.iload 6, 2) := by decide +kernel
theorem dX3_mostOf_96 : decode cX3_mostOf 96 = .ok (.ifCond .le 29, 3) := by decide +kernel
theorem dX3_mostOf_99 : decode cX3_mostOf 99 = .ok (.aload_n 0, 1) := by decide +kernel
theorem dX3_mostOf_100 : decode cX3_mostOf 100 = .ok (.getfield 19, 3) := by decide +kernel
theorem dX3_mostOf_103 : decode cX3_mostOf 103 = .ok (.getfield 57, 3) := by decide +kernel
theorem dX3_mostOf_106 : decode cX3_mostOf 106 = .ok (.iload 6, 2) := by decide +kernel
theorem dX3_mostOf_108 : decode cX3_mostOf 108 = .ok (.invokevirtual 70, 3) := by decide +kernel
theorem dX3_mostOf_111 : decode cX3_mostOf 111 = .ok (.iload 5, 2) := by decide +kernel
theorem dX3_mostOf_113 : decode cX3_mostOf 113 = .ok (.if_icmp .ge 6, 3) := by decide +kernel
theorem dX3_mostOf_116 : decode cX3_mostOf 116 = .ok (.iload 6, 2) := by decide +kernel
theorem dX3_mostOf_118 : decode cX3_mostOf 118 = .ok (.ireturn, 1) := by decide +kernel
theorem dX3_mostOf_119 : decode cX3_mostOf 119 = .ok (.iinc 6 (-1), 3) := by decide +kernel
theorem dX3_mostOf_122 : decode cX3_mostOf 122 = .ok (.goto (-28), 3) := by decide +kernel
theorem dX3_mostOf_125 : decode cX3_mostOf 125 = .ok (.iconst 0, 1) := by decide +kernel
theorem dX3_mostOf_126 : decode cX3_mostOf 126 = .ok (.ireturn, 1) := by decide +kernel
def lX3_mostOf_0 : List (Nat × (Op ⊕ Nat)) := [(0, .inl (o_aload 0 1)), (1, .inl (o_get 3 0 4)), (4, .inl (o_get 1 1 7)), (7, .inl (o_iload 1 8)), (8, .inl (o_iload 2 9)), (9, .inl (o_callV fX5_has 2 5 12)), (12, .inl (o_if_ne 31 15)), (15, .inl (o_aload 0 16)), (16, .inl (o_get 3 0 19)), (19, .inl (o_get 1 1 22)), (22, .inl (o_get 5 0 25)), (25, .inl (o_iload 2 26)), (26, .inl (o_iald 27)), (27, .inl (o_pushI (nI 3) 28)), (28, .inl (o_icmp_lt 33 31)), (31, .inl (o_pushI (nI 0) 32)), (32, .inr 0), (33, .inl (o_aload 0 34)), (34, .inl (o_iload 1 35)), (35, .inl (o_callV fX3_open 1 3 38)), (38, .inl (o_aload 0 39)), (39, .inl (o_iload 2 40)), (40, .inl (o_callV fX3_isRested 1 3 43)), (43, .inl (o_if_ne 48 46)), (46, .inl (o_pushI (nI 0) 47)), (47, .inr 0), (48, .inl (o_aload 0 49)), (49, .inl (o_get 3 0 52)), (52, .inl (o_get 1 0 55)), (55, .inl (o_iload 1 56)), (56, .inl (o_pushI (nI 1) 57)), (57, .inl (o_callV fX9_trait 2 9 60)), (60, .inl (o_aload 0 61)), (61, .inl (o_get 3 0 64)), (64, .inl (o_iload 2 65)), (65, .inl (o_callV fX1_leftIn 1 1 68)), (68, .inl (o_iload 3 69)), (69, .inl (o_iadd 70)), (70, .inl (o_min 73)), (73, .inl (o_istore 4 75))]
def lX3_mostOf_1 : List (Nat × (Op ⊕ Nat)) := [(75, .inl (o_aload 0 76)), (76, .inl (o_iload 2 77)), (77, .inl (o_callV fX3_daysToNext 1 3 80)), (80, .inl (o_istore 5 82)), (82, .inl (o_iload 4 84)), (84, .inl (o_aload 0 85)), (85, .inl (o_iload 2 86)), (86, .inl (o_callV fX3_roomInWeek 1 3 89)), (89, .inl (o_min 92)), (92, .inl (o_istore 6 94)), (94, .inl (o_iload 6 96)), (96, .inl (o_if_le 125 99)), (99, .inl (o_aload 0 100)), (100, .inl (o_get 3 0 103)), (103, .inl (o_get 1 0 106)), (106, .inl (o_iload 6 108)), (108, .inl (o_callV fX9_restAfter 1 9 111)), (111, .inl (o_iload 5 113)), (113, .inl (o_icmp_ge 119 116)), (116, .inl (o_iload 6 118)), (118, .inr 0), (119, .inl (o_iinc 6 ((-1)) 122)), (122, .inl (o_goto 94)), (125, .inl (o_pushI (nI 0) 126)), (126, .inr 0)]
def lX3_mostOf : List (Nat × (Op ⊕ Nat)) := lX3_mostOf_0 ++ (lX3_mostOf_1)
theorem qX3_mostOf : yX3_mostOf.cls = RX3 ∧ yX3_mostOf.cls ≠ "java/lang/invoke/MethodHandle" ∧ yX3_mostOf.cls ≠ "java/lang/invoke/VarHandle" ∧ (parseMethodDescriptor yX3_mostOf.desc).map (fun d => d.parameters.length) = some 3 := by decide +kernel
set_option maxRecDepth 10000 in
theorem hX3_mostOf_0 (l : Launch) {p : Program} {e : Env} {s : State} {m : MethodId} {args : Array Value} {below : List Frame} {meth : Method} {c : Code} {D : va_G} {ad adV : Nat → Nat} {cA : Nat → ClassId} {K : Kt} (C0 : Cx p s m args meth c D ad adV cA cX3_mostOf 7 RX3) (hr : meth.sig.returnType = (some .int)) : ∀ q ∈ lX3_mostOf_0, Sd p l e (rmd 3) s m args below meth c (MQ below (QQ D ad cA K) args s 0 0 (AA ad)) D ad cA 7 q.1 (opOf K q.2) := List.forall_mem_cons.mpr ⟨s_aload_n C0 dX3_mostOf_0 rfl, List.forall_mem_cons.mpr ⟨s_get (ci := 3) (k := 0) C0 dX3_mostOf_1 inX3 rfl (by decide) tw1_210, List.forall_mem_cons.mpr ⟨s_get (ci := 1) (k := 1) C0 dX3_mostOf_4 inX1 rfl (by decide) tw1_196, List.forall_mem_cons.mpr ⟨s_iload_n C0 dX3_mostOf_7 rfl, List.forall_mem_cons.mpr ⟨s_iload_n C0 dX3_mostOf_8 rfl, List.forall_mem_cons.mpr ⟨s_callV (ci := 5) C0 (kX5_has l) dX3_mostOf_9 rfl qX5_has tw4_100 tw3_193 tw3_194 tw1_5 tw3_195 rfl (by decide) (by decide), List.forall_mem_cons.mpr ⟨s_if_ne C0 dX3_mostOf_12 rfl, List.forall_mem_cons.mpr ⟨s_aload_n C0 dX3_mostOf_15 rfl, List.forall_mem_cons.mpr ⟨s_get (ci := 3) (k := 0) C0 dX3_mostOf_16 inX3 rfl (by decide) tw1_210, List.forall_mem_cons.mpr ⟨s_get (ci := 1) (k := 1) C0 dX3_mostOf_19 inX1 rfl (by decide) tw1_196, List.forall_mem_cons.mpr ⟨s_get (ci := 5) (k := 0) C0 dX3_mostOf_22 inX5 rfl (by decide) tw1_170, List.forall_mem_cons.mpr ⟨s_iload_n C0 dX3_mostOf_25 rfl, List.forall_mem_cons.mpr ⟨s_iald C0 dX3_mostOf_26, List.forall_mem_cons.mpr ⟨s_iconst C0 dX3_mostOf_27 rfl, List.forall_mem_cons.mpr ⟨s_icmp_lt C0 dX3_mostOf_28 rfl, List.forall_mem_cons.mpr ⟨s_iconst C0 dX3_mostOf_31 rfl, List.forall_mem_cons.mpr ⟨s_iret C0 hr dX3_mostOf_32, List.forall_mem_cons.mpr ⟨s_aload_n C0 dX3_mostOf_33 rfl, List.forall_mem_cons.mpr ⟨s_iload_n C0 dX3_mostOf_34 rfl, List.forall_mem_cons.mpr ⟨s_callV (ci := 3) C0 (kX3_open l) dX3_mostOf_35 rfl qX3_open tw4_41 tw4_42 tw4_43 tw1_7 tw4_44 rfl (by decide) (by decide), List.forall_mem_cons.mpr ⟨s_aload_n C0 dX3_mostOf_38 rfl, List.forall_mem_cons.mpr ⟨s_iload_n C0 dX3_mostOf_39 rfl, List.forall_mem_cons.mpr ⟨s_callV (ci := 3) C0 (kX3_isRested l) dX3_mostOf_40 rfl qX3_isRested tw4_55 tw4_57 twp_23 tw1_7 tw4_58 rfl (by decide) (by decide), List.forall_mem_cons.mpr ⟨s_if_ne C0 dX3_mostOf_43 rfl, List.forall_mem_cons.mpr ⟨s_iconst C0 dX3_mostOf_46 rfl, List.forall_mem_cons.mpr ⟨s_iret C0 hr dX3_mostOf_47, List.forall_mem_cons.mpr ⟨s_aload_n C0 dX3_mostOf_48 rfl, List.forall_mem_cons.mpr ⟨s_get (ci := 3) (k := 0) C0 dX3_mostOf_49 inX3 rfl (by decide) tw1_210, List.forall_mem_cons.mpr ⟨s_get (ci := 1) (k := 0) C0 dX3_mostOf_52 inX1 rfl (by decide) tw1_194, List.forall_mem_cons.mpr ⟨s_iload_n C0 dX3_mostOf_55 rfl, List.forall_mem_cons.mpr ⟨s_iconst C0 dX3_mostOf_56 rfl, List.forall_mem_cons.mpr ⟨s_callV (ci := 9) C0 (kX9_trait l) dX3_mostOf_57 rfl qX9_trait tw4_54 tw3_73 tw3_74 tw1_4 tw3_75 rfl (by decide) (by decide), List.forall_mem_cons.mpr ⟨s_aload_n C0 dX3_mostOf_60 rfl, List.forall_mem_cons.mpr ⟨s_get (ci := 3) (k := 0) C0 dX3_mostOf_61 inX3 rfl (by decide) tw1_210, List.forall_mem_cons.mpr ⟨s_iload_n C0 dX3_mostOf_64 rfl, List.forall_mem_cons.mpr ⟨s_callV (ci := 1) C0 (kX1_leftIn l) dX3_mostOf_65 rfl qX1_leftIn tw4_101 tw3_227 tw3_228 tw1_6 tw3_229 rfl (by decide) (by decide), List.forall_mem_cons.mpr ⟨s_iload_n C0 dX3_mostOf_68 rfl, List.forall_mem_cons.mpr ⟨s_iadd C0 dX3_mostOf_69, List.forall_mem_cons.mpr ⟨s_min C0 dX3_mostOf_70 tw4_102 tw2_195 tw1_14 twm_min rfl (by decide), List.forall_mem_cons.mpr ⟨s_istore C0 dX3_mostOf_73 (by decide), fun _ h => absurd h List.not_mem_nil⟩⟩⟩⟩⟩⟩⟩⟩⟩⟩⟩⟩⟩⟩⟩⟩⟩⟩⟩⟩⟩⟩⟩⟩⟩⟩⟩⟩⟩⟩⟩⟩⟩⟩⟩⟩⟩⟩⟩⟩
set_option maxRecDepth 10000 in
theorem hX3_mostOf_1 (l : Launch) {p : Program} {e : Env} {s : State} {m : MethodId} {args : Array Value} {below : List Frame} {meth : Method} {c : Code} {D : va_G} {ad adV : Nat → Nat} {cA : Nat → ClassId} {K : Kt} (C0 : Cx p s m args meth c D ad adV cA cX3_mostOf 7 RX3) (hr : meth.sig.returnType = (some .int)) : ∀ q ∈ lX3_mostOf_1, Sd p l e (rmd 3) s m args below meth c (MQ below (QQ D ad cA K) args s 0 0 (AA ad)) D ad cA 7 q.1 (opOf K q.2) := List.forall_mem_cons.mpr ⟨s_aload_n C0 dX3_mostOf_75 rfl, List.forall_mem_cons.mpr ⟨s_iload_n C0 dX3_mostOf_76 rfl, List.forall_mem_cons.mpr ⟨s_callV (ci := 3) C0 (kX3_daysToNext l) dX3_mostOf_77 rfl qX3_daysToNext tw4_64 tw4_66 twp_24 tw1_7 tw4_67 rfl (by decide) (by decide), List.forall_mem_cons.mpr ⟨s_istore C0 dX3_mostOf_80 (by decide), List.forall_mem_cons.mpr ⟨s_iload C0 dX3_mostOf_82, List.forall_mem_cons.mpr ⟨s_aload_n C0 dX3_mostOf_84 rfl, List.forall_mem_cons.mpr ⟨s_iload_n C0 dX3_mostOf_85 rfl, List.forall_mem_cons.mpr ⟨s_callV (ci := 3) C0 (kX3_roomInWeek l) dX3_mostOf_86 rfl qX3_roomInWeek tw4_69 tw4_71 twp_25 tw1_7 tw4_72 rfl (by decide) (by decide), List.forall_mem_cons.mpr ⟨s_min C0 dX3_mostOf_89 tw4_102 tw2_195 tw1_14 twm_min rfl (by decide), List.forall_mem_cons.mpr ⟨s_istore C0 dX3_mostOf_92 (by decide), List.forall_mem_cons.mpr ⟨s_iload C0 dX3_mostOf_94, List.forall_mem_cons.mpr ⟨s_if_le C0 dX3_mostOf_96 rfl, List.forall_mem_cons.mpr ⟨s_aload_n C0 dX3_mostOf_99 rfl, List.forall_mem_cons.mpr ⟨s_get (ci := 3) (k := 0) C0 dX3_mostOf_100 inX3 rfl (by decide) tw1_210, List.forall_mem_cons.mpr ⟨s_get (ci := 1) (k := 0) C0 dX3_mostOf_103 inX1 rfl (by decide) tw1_194, List.forall_mem_cons.mpr ⟨s_iload C0 dX3_mostOf_106, List.forall_mem_cons.mpr ⟨s_callV (ci := 9) C0 (kX9_restAfter l) dX3_mostOf_108 rfl qX9_restAfter tw4_63 tw4_5 tw4_6 tw1_4 tw4_7 rfl (by decide) (by decide), List.forall_mem_cons.mpr ⟨s_iload C0 dX3_mostOf_111, List.forall_mem_cons.mpr ⟨s_icmp_ge C0 dX3_mostOf_113 rfl, List.forall_mem_cons.mpr ⟨s_iload C0 dX3_mostOf_116, List.forall_mem_cons.mpr ⟨s_iret C0 hr dX3_mostOf_118, List.forall_mem_cons.mpr ⟨s_iinc C0 dX3_mostOf_119 rfl (by decide), List.forall_mem_cons.mpr ⟨s_goto C0 dX3_mostOf_122 rfl, List.forall_mem_cons.mpr ⟨s_iconst C0 dX3_mostOf_125 rfl, List.forall_mem_cons.mpr ⟨s_iret C0 hr dX3_mostOf_126, fun _ h => absurd h List.not_mem_nil⟩⟩⟩⟩⟩⟩⟩⟩⟩⟩⟩⟩⟩⟩⟩⟩⟩⟩⟩⟩⟩⟩⟩⟩⟩
def fX3_mostOf : Mf := mf 7 (fun K => tl K lX3_mostOf)
theorem kX3_mostOf (l : Launch) : Okm l yX3_mostOf cX3_mostOf 7 (some .int) 3 fX3_mostOf := Okm_tl (own := RX3) (by decide +kernel) rfl (fun C0 hr => List.forall_mem_append.mpr ⟨hX3_mostOf_0 l C0 hr, hX3_mostOf_1 l C0 hr⟩)
theorem dX5_setAt_0 : decode cX5_setAt 0 = .ok (.aload_n 0, 1) := by decide +kernel
theorem dX5_setAt_1 : decode cX5_setAt 1 = .ok (.getfield 15, 3) := by decide +kernel
theorem dX5_setAt_4 : decode cX5_setAt 4 = .ok (.iload_n 1, 1) := by decide +kernel
theorem dX5_setAt_5 : decode cX5_setAt 5 = .ok (.iconst 3, 1) := by decide +kernel
theorem dX5_setAt_6 : decode cX5_setAt 6 = .ok (.imul, 1) := by decide +kernel
theorem dX5_setAt_7 : decode cX5_setAt 7 = .ok (.iload_n 2, 1) := by decide +kernel
theorem dX5_setAt_8 : decode cX5_setAt 8 = .ok (.iadd, 1) := by decide +kernel
theorem dX5_setAt_9 : decode cX5_setAt 9 = .ok (.iload_n 3, 1) := by decide +kernel
theorem dX5_setAt_10 : decode cX5_setAt 10 = .ok (.iastore, 1) := by decide +kernel
theorem dX5_setAt_11 : decode cX5_setAt 11 = .ok (.aload_n 0, 1) := by decide +kernel
theorem dX5_setAt_12 : decode cX5_setAt 12 = .ok (.getfield 18, 3) := by decide +kernel
theorem dX5_setAt_15 : decode cX5_setAt 15 = .ok (.iload_n 1, 1) := by decide +kernel
theorem dX5_setAt_16 : decode cX5_setAt 16 = .ok (.iconst 3, 1) := by decide +kernel
theorem dX5_setAt_17 : decode cX5_setAt 17 = .ok (.imul, 1) := by decide +kernel
theorem dX5_setAt_18 : decode cX5_setAt 18 = .ok (.iload_n 2, 1) := by decide +kernel
theorem dX5_setAt_19 : decode cX5_setAt 19 = .ok (.iadd, 1) := by decide +kernel
theorem dX5_setAt_20 : decode cX5_setAt 20 = .ok (.iload 4, 2) := by decide +kernel
theorem dX5_setAt_22 : decode cX5_setAt 22 = .ok (.iastore, 1) := by decide +kernel
theorem dX5_setAt_23 : decode cX5_setAt 23 = .ok (.aload_n 0, 1) := by decide +kernel
theorem dX5_setAt_24 : decode cX5_setAt 24 = .ok (.getfield 21, 3) := by decide +kernel
theorem dX5_setAt_27 : decode cX5_setAt 27 = .ok (.iload_n 3, 1) := by decide +kernel
theorem dX5_setAt_28 : decode cX5_setAt 28 = .ok (.bipush 20, 2) := by decide +kernel
theorem dX5_setAt_30 : decode cX5_setAt 30 = .ok (.imul, 1) := by decide +kernel
theorem dX5_setAt_31 : decode cX5_setAt 31 = .ok (.iload_n 1, 1) := by decide +kernel
theorem dX5_setAt_32 : decode cX5_setAt 32 = .ok (.iadd, 1) := by decide +kernel
theorem dX5_setAt_33 : decode cX5_setAt 33 = .ok (.iload 4, 2) := by decide +kernel
theorem dX5_setAt_35 : decode cX5_setAt 35 = .ok (.iastore, 1) := by decide +kernel
theorem dX5_setAt_36 : decode cX5_setAt 36 = .ok (.return_, 1) := by decide +kernel
def lX5_setAt : List (Nat × (Op ⊕ Nat)) := [(0, .inl (o_aload 0 1)), (1, .inl (o_get 5 1 4)), (4, .inl (o_iload 1 5)), (5, .inl (o_pushI (nI 3) 6)), (6, .inl (o_imul 7)), (7, .inl (o_iload 2 8)), (8, .inl (o_iadd 9)), (9, .inl (o_iload 3 10)), (10, .inl (o_iast 11)), (11, .inl (o_aload 0 12)), (12, .inl (o_get 5 2 15)), (15, .inl (o_iload 1 16)), (16, .inl (o_pushI (nI 3) 17)), (17, .inl (o_imul 18)), (18, .inl (o_iload 2 19)), (19, .inl (o_iadd 20)), (20, .inl (o_iload 4 22)), (22, .inl (o_iast 23)), (23, .inl (o_aload 0 24)), (24, .inl (o_get 5 3 27)), (27, .inl (o_iload 3 28)), (28, .inl (o_pushI (nI 20) 30)), (30, .inl (o_imul 31)), (31, .inl (o_iload 1 32)), (32, .inl (o_iadd 33)), (33, .inl (o_iload 4 35)), (35, .inl (o_iast 36)), (36, .inr 3)]
theorem qX5_setAt : yX5_setAt.cls = RX5 ∧ yX5_setAt.cls ≠ "java/lang/invoke/MethodHandle" ∧ yX5_setAt.cls ≠ "java/lang/invoke/VarHandle" ∧ (parseMethodDescriptor yX5_setAt.desc).map (fun d => d.parameters.length) = some 4 := by decide +kernel
set_option maxRecDepth 10000 in
theorem hX5_setAt_0 (l : Launch) {p : Program} {e : Env} {s : State} {m : MethodId} {args : Array Value} {below : List Frame} {meth : Method} {c : Code} {D : va_G} {ad adV : Nat → Nat} {cA : Nat → ClassId} {K : Kt} (C0 : Cx p s m args meth c D ad adV cA cX5_setAt 5 RX5) (hr : meth.sig.returnType = none) : ∀ q ∈ lX5_setAt, Sd p l e (rmd 0) s m args below meth c (MQ below (QQ D ad cA K) args s 0 0 (AA ad)) D ad cA 5 q.1 (opOf K q.2) := List.forall_mem_cons.mpr ⟨s_aload_n C0 dX5_setAt_0 rfl, List.forall_mem_cons.mpr ⟨s_get (ci := 5) (k := 1) C0 dX5_setAt_1 inX5 rfl (by decide) tw1_172, List.forall_mem_cons.mpr ⟨s_iload_n C0 dX5_setAt_4 rfl, List.forall_mem_cons.mpr ⟨s_iconst C0 dX5_setAt_5 rfl, List.forall_mem_cons.mpr ⟨s_imul C0 dX5_setAt_6, List.forall_mem_cons.mpr ⟨s_iload_n C0 dX5_setAt_7 rfl, List.forall_mem_cons.mpr ⟨s_iadd C0 dX5_setAt_8, List.forall_mem_cons.mpr ⟨s_iload_n C0 dX5_setAt_9 rfl, List.forall_mem_cons.mpr ⟨s_iast C0 dX5_setAt_10, List.forall_mem_cons.mpr ⟨s_aload_n C0 dX5_setAt_11 rfl, List.forall_mem_cons.mpr ⟨s_get (ci := 5) (k := 2) C0 dX5_setAt_12 inX5 rfl (by decide) tw1_173, List.forall_mem_cons.mpr ⟨s_iload_n C0 dX5_setAt_15 rfl, List.forall_mem_cons.mpr ⟨s_iconst C0 dX5_setAt_16 rfl, List.forall_mem_cons.mpr ⟨s_imul C0 dX5_setAt_17, List.forall_mem_cons.mpr ⟨s_iload_n C0 dX5_setAt_18 rfl, List.forall_mem_cons.mpr ⟨s_iadd C0 dX5_setAt_19, List.forall_mem_cons.mpr ⟨s_iload C0 dX5_setAt_20, List.forall_mem_cons.mpr ⟨s_iast C0 dX5_setAt_22, List.forall_mem_cons.mpr ⟨s_aload_n C0 dX5_setAt_23 rfl, List.forall_mem_cons.mpr ⟨s_get (ci := 5) (k := 3) C0 dX5_setAt_24 inX5 rfl (by decide) tw1_174, List.forall_mem_cons.mpr ⟨s_iload_n C0 dX5_setAt_27 rfl, List.forall_mem_cons.mpr ⟨s_bipush C0 dX5_setAt_28 (by decide +kernel), List.forall_mem_cons.mpr ⟨s_imul C0 dX5_setAt_30, List.forall_mem_cons.mpr ⟨s_iload_n C0 dX5_setAt_31 rfl, List.forall_mem_cons.mpr ⟨s_iadd C0 dX5_setAt_32, List.forall_mem_cons.mpr ⟨s_iload C0 dX5_setAt_33, List.forall_mem_cons.mpr ⟨s_iast C0 dX5_setAt_35, List.forall_mem_cons.mpr ⟨s_vret C0 hr dX5_setAt_36, fun _ h => absurd h List.not_mem_nil⟩⟩⟩⟩⟩⟩⟩⟩⟩⟩⟩⟩⟩⟩⟩⟩⟩⟩⟩⟩⟩⟩⟩⟩⟩⟩⟩⟩
def fX5_setAt : Mf := mf 5 (fun K => tl K lX5_setAt)
theorem kX5_setAt (l : Launch) : Okm l yX5_setAt cX5_setAt 5 none 0 fX5_setAt := Okm_tl (own := RX5) (by decide +kernel) rfl (fun C0 hr => hX5_setAt_0 l C0 hr)
theorem dX5_add_0 : decode cX5_add 0 = .ok (.aload_n 0, 1) := by decide +kernel
theorem dX5_add_1 : decode cX5_add 1 = .ok (.getfield 9, 3) := by decide +kernel
theorem dX5_add_4 : decode cX5_add 4 = .ok (.iload_n 1, 1) := by decide +kernel
theorem dX5_add_5 : decode cX5_add 5 = .ok (.iaload, 1) := by decide +kernel
theorem dX5_add_6 : decode cX5_add 6 = .ok (.iconst 3, 1) := by decide +kernel
theorem dX5_add_7 : decode cX5_add 7 = .ok (.if_icmp .ge 26, 3) := by decide +kernel
theorem dX5_add_10 : decode cX5_add 10 = .ok (.aload_n 0, 1) := by decide +kernel
theorem dX5_add_11 : decode cX5_add 11 = .ok (.iload_n 1, 1) := by decide +kernel
theorem dX5_add_12 : decode cX5_add 12 = .ok (.aload_n 0, 1) := by decide +kernel
theorem dX5_add_13 : decode cX5_add 13 = .ok (.getfield 9, 3) := by decide +kernel
theorem dX5_add_16 : decode cX5_add 16 = .ok (.iload_n 1, 1) := by decide +kernel
theorem dX5_add_17 : decode cX5_add 17 = .ok (.iaload, 1) := by decide +kernel
theorem dX5_add_18 : decode cX5_add 18 = .ok (.iload_n 2, 1) := by decide +kernel
theorem dX5_add_19 : decode cX5_add 19 = .ok (.iload_n 3, 1) := by decide +kernel
theorem dX5_add_20 : decode cX5_add 20 = .ok (.invokevirtual 34, 3) := by decide +kernel
theorem dX5_add_23 : decode cX5_add 23 = .ok (.aload_n 0, 1) := by decide +kernel
theorem dX5_add_24 : decode cX5_add 24 = .ok (.getfield 9, 3) := by decide +kernel
theorem dX5_add_27 : decode cX5_add 27 = .ok (.iload_n 1, 1) := by decide +kernel
theorem dX5_add_28 : decode cX5_add 28 = .ok (.dup2, 1) := by decide +kernel
theorem dX5_add_29 : decode cX5_add 29 = .ok (.iaload, 1) := by decide +kernel
theorem dX5_add_30 : decode cX5_add 30 = .ok (.iconst 1, 1) := by decide +kernel
theorem dX5_add_31 : decode cX5_add 31 = .ok (.iadd, 1) := by decide +kernel
theorem dX5_add_32 : decode cX5_add 32 = .ok (.iastore, 1) := by decide +kernel
theorem dX5_add_33 : decode cX5_add 33 = .ok (.return_, 1) := by decide +kernel
def lX5_add : List (Nat × (Op ⊕ Nat)) := [(0, .inl (o_aload 0 1)), (1, .inl (o_get 5 0 4)), (4, .inl (o_iload 1 5)), (5, .inl (o_iald 6)), (6, .inl (o_pushI (nI 3) 7)), (7, .inl (o_icmp_ge 33 10)), (10, .inl (o_aload 0 11)), (11, .inl (o_iload 1 12)), (12, .inl (o_aload 0 13)), (13, .inl (o_get 5 0 16)), (16, .inl (o_iload 1 17)), (17, .inl (o_iald 18)), (18, .inl (o_iload 2 19)), (19, .inl (o_iload 3 20)), (20, .inl (o_callV fX5_setAt 4 5 23)), (23, .inl (o_aload 0 24)), (24, .inl (o_get 5 0 27)), (27, .inl (o_iload 1 28)), (28, .inl (o_dup2 29)), (29, .inl (o_iald 30)), (30, .inl (o_pushI (nI 1) 31)), (31, .inl (o_iadd 32)), (32, .inl (o_iast 33)), (33, .inr 3)]
theorem qX5_add : yX5_add.cls = RX5 ∧ yX5_add.cls ≠ "java/lang/invoke/MethodHandle" ∧ yX5_add.cls ≠ "java/lang/invoke/VarHandle" ∧ (parseMethodDescriptor yX5_add.desc).map (fun d => d.parameters.length) = some 3 := by decide +kernel
set_option maxRecDepth 10000 in
theorem hX5_add_0 (l : Launch) {p : Program} {e : Env} {s : State} {m : MethodId} {args : Array Value} {below : List Frame} {meth : Method} {c : Code} {D : va_G} {ad adV : Nat → Nat} {cA : Nat → ClassId} {K : Kt} (C0 : Cx p s m args meth c D ad adV cA cX5_add 4 RX5) (hr : meth.sig.returnType = none) : ∀ q ∈ lX5_add, Sd p l e (rmd 1) s m args below meth c (MQ below (QQ D ad cA K) args s 0 0 (AA ad)) D ad cA 4 q.1 (opOf K q.2) := List.forall_mem_cons.mpr ⟨s_aload_n C0 dX5_add_0 rfl, List.forall_mem_cons.mpr ⟨s_get (ci := 5) (k := 0) C0 dX5_add_1 inX5 rfl (by decide) tw1_166, List.forall_mem_cons.mpr ⟨s_iload_n C0 dX5_add_4 rfl, List.forall_mem_cons.mpr ⟨s_iald C0 dX5_add_5, List.forall_mem_cons.mpr ⟨s_iconst C0 dX5_add_6 rfl, List.forall_mem_cons.mpr ⟨s_icmp_ge C0 dX5_add_7 rfl, List.forall_mem_cons.mpr ⟨s_aload_n C0 dX5_add_10 rfl, List.forall_mem_cons.mpr ⟨s_iload_n C0 dX5_add_11 rfl, List.forall_mem_cons.mpr ⟨s_aload_n C0 dX5_add_12 rfl, List.forall_mem_cons.mpr ⟨s_get (ci := 5) (k := 0) C0 dX5_add_13 inX5 rfl (by decide) tw1_166, List.forall_mem_cons.mpr ⟨s_iload_n C0 dX5_add_16 rfl, List.forall_mem_cons.mpr ⟨s_iald C0 dX5_add_17, List.forall_mem_cons.mpr ⟨s_iload_n C0 dX5_add_18 rfl, List.forall_mem_cons.mpr ⟨s_iload_n C0 dX5_add_19 rfl, List.forall_mem_cons.mpr ⟨s_callV (ci := 5) C0 (kX5_setAt l) dX5_add_20 rfl qX5_setAt tw3_135 tw3_137 twp_13 tw1_5 tw3_138 rfl (by decide) (by decide), List.forall_mem_cons.mpr ⟨s_aload_n C0 dX5_add_23 rfl, List.forall_mem_cons.mpr ⟨s_get (ci := 5) (k := 0) C0 dX5_add_24 inX5 rfl (by decide) tw1_166, List.forall_mem_cons.mpr ⟨s_iload_n C0 dX5_add_27 rfl, List.forall_mem_cons.mpr ⟨s_dup2 C0 dX5_add_28, List.forall_mem_cons.mpr ⟨s_iald C0 dX5_add_29, List.forall_mem_cons.mpr ⟨s_iconst C0 dX5_add_30 rfl, List.forall_mem_cons.mpr ⟨s_iadd C0 dX5_add_31, List.forall_mem_cons.mpr ⟨s_iast C0 dX5_add_32, List.forall_mem_cons.mpr ⟨s_vret C0 hr dX5_add_33, fun _ h => absurd h List.not_mem_nil⟩⟩⟩⟩⟩⟩⟩⟩⟩⟩⟩⟩⟩⟩⟩⟩⟩⟩⟩⟩⟩⟩⟩⟩
def fX5_add : Mf := mf 4 (fun K => tl K lX5_add)
theorem kX5_add (l : Launch) : Okm l yX5_add cX5_add 4 none 1 fX5_add := Okm_tl (own := RX5) (by decide +kernel) rfl (fun C0 hr => hX5_add_0 l C0 hr)
theorem dX2_addOuting_0 : decode cX2_addOuting 0 = .ok (.iconst (-1), 1) := by decide +kernel
theorem dX2_addOuting_1 : decode cX2_addOuting 1 = .ok (.istore_n 2, 1) := by decide +kernel
theorem dX2_addOuting_2 : decode cX2_addOuting 2 = .ok (.iconst 0, 1) := by decide +kernel
theorem dX2_addOuting_3 : decode cX2_addOuting 3 = .ok (.istore_n 3, 1) := by decide +kernel
theorem dX2_addOuting_4 : decode cX2_addOuting 4 = .ok (.iconst (-1), 1) := by decide +kernel
theorem dX2_addOuting_5 : decode cX2_addOuting 5 = .ok (.istore 4, 2) := by decide +kernel
theorem dX2_addOuting_7 : decode cX2_addOuting 7 = .ok (.iconst 0, 1) := by decide +kernel
theorem dX2_addOuting_8 : decode cX2_addOuting 8 = .ok (.istore 5, 2) := by decide +kernel
theorem dX2_addOuting_10 : decode cX2_addOuting 10 = .ok (.iload 5, 2) := by decide +kernel
theorem dX2_addOuting_12 : decode cX2_addOuting 12 = .ok (.aload_n 0, 1) := by decide +kernel
theorem dX2_addOuting_13 : decode cX2_addOuting 13 = .ok (.getfield 33, 3) := by decide +kernel
theorem dX2_addOuting_16 : decode cX2_addOuting 16 = .ok (.getfield 41, 3) := by decide +kernel
theorem dX2_addOuting_19 : decode cX2_addOuting 19 = .ok (.getfield 47, 3) := by decide +kernel
theorem dX2_addOuting_22 : decode cX2_addOuting 22 = .ok (.if_icmp .ge 64, 3) := by decide +kernel
theorem dX2_addOuting_25 : decode cX2_addOuting 25 = .ok (.aload_n 0, 1) := by decide +kernel
theorem dX2_addOuting_26 : decode cX2_addOuting 26 = .ok (.getfield 37, 3) := by decide +kernel
theorem dX2_addOuting_29 : decode cX2_addOuting 29 = .ok (.iload 5, 2) := by decide +kernel
theorem dX2_addOuting_31 : decode cX2_addOuting 31 = .ok (.iload_n 1, 1) := by decide +kernel
theorem dX2_addOuting_32 : decode cX2_addOuting 32 = .ok (.iconst 0, 1) := by decide +kernel
theorem dX2_addOuting_33 : decode cX2_addOuting 33 = .ok (.invokevirtual 85, 3) := by decide +kernel
theorem dX2_addOuting_36 : decode cX2_addOuting 36 = .ok (.istore 6, 2) := by decide +kernel
theorem dX2_addOuting_38 : decode cX2_addOuting 38 = .ok (.iload 6, 2) := by decide +kernel
theorem dX2_addOuting_40 : decode cX2_addOuting 40 = .ok (.ifCond .le 40, 3) := by decide +kernel
theorem dX2_addOuting_43 : decode cX2_addOuting 43 = .ok (.aload_n 0, 1) := by decide +kernel
theorem dX2_addOuting_44 : decode cX2_addOuting 44 = .ok (.getfield 33, 3) := by decide +kernel
theorem dX2_addOuting_47 : decode cX2_addOuting 47 = .ok (.iload 5, 2) := by decide +kernel
theorem dX2_addOuting_49 : decode cX2_addOuting 49 = .ok (.iload_n 1, 1) := by decide +kernel
theorem dX2_addOuting_50 : decode cX2_addOuting 50 = .ok (.iload 6, 2) := by decide +kernel
theorem dX2_addOuting_52 : decode cX2_addOuting 52 = .ok (.invokevirtual 77, 3) := by decide +kernel
theorem dX2_addOuting_55 : decode cX2_addOuting 55 = .ok (.iload 4, 2) := by decide +kernel
theorem dX2_addOuting_57 : decode cX2_addOuting 57 = .ok (.if_icmp .le 23, 3) := by decide +kernel
theorem dX2_addOuting_60 : decode cX2_addOuting 60 = .ok (.aload_n 0, 1) := by decide +kernel
theorem dX2_addOuting_61 : decode cX2_addOuting 61 = .ok (.getfield 33, 3) := by decide +kernel
theorem dX2_addOuting_64 : decode cX2_addOuting 64 = .ok (.iload 5, 2) := by decide +kernel
theorem dX2_addOuting_66 : decode cX2_addOuting 66 = .ok (.iload_n 1, 1) := by decide +kernel
theorem dX2_addOuting_67 : decode cX2_addOuting 67 = .ok (.iload 6, 2) := by decide +kernel
theorem dX2_addOuting_69 : decode cX2_addOuting 69 = .ok (.invokevirtual 77, 3) := by decide +kernel
theorem dX2_addOuting_72 : decode cX2_addOuting 72 = .ok (.istore 4, 2) := by decide +kernel
theorem dX2_addOuting_74 : decode cX2_addOuting 74 = .ok (.iload 5, 2) := by decide +kernel
theorem dX2_addOuting_76 : decode cX2_addOuting 76 = .ok (.istore_n 2, 1) := by decide +kernel
theorem dX2_addOuting_77 : decode cX2_addOuting 77 = .ok (.iload 6, 2) := by decide +kernel
theorem dX2_addOuting_79 : decode cX2_addOuting 79 = .ok (.istore_n 3, 1) := by decide +kernel
theorem dX2_addOuting_80 : decode cX2_addOuting 80 = .ok (.iinc 5 1, 3) := by decide +kernel
theorem dX2_addOuting_83 : decode cX2_addOuting 83 = .ok (.goto (-73), 3) := by decide +kernel
theorem dX2_addOuting_86 : decode cX2_addOuting 86 = .ok (.iload_n 2, 1) := by decide +kernel
theorem dX2_addOuting_87 : decode cX2_addOuting 87 = .ok (.iconst (-1), 1) := by decide +kernel
theorem dX2_addOuting_88 : decode cX2_addOuting 88 = .ok (.if_icmp .ne 5, 3) := by decide +kernel
theorem dX2_addOuting_91 : decode cX2_addOuting 91 = .ok (.iconst 0, 1) := by decide +kernel
theorem dX2_addOuting_92 : decode cX2_addOuting 92 = .ok (.ireturn, 1) := by decide +kernel
theorem dX2_addOuting_93 : decode cX2_addOuting 93 = .ok (.aload_n 0, 1) := by decide +kernel
theorem dX2_addOuting_94 : decode cX2_addOuting 94 = .ok (.getfield 33, 3) := by decide +kernel
theorem dX2_addOuting_97 : decode cX2_addOuting 97 = .ok (.getfield 88, 3) := by decide +kernel
theorem dX2_addOuting_100 : decode cX2_addOuting 100 = .ok (.iload_n 1, 1) := by decide +kernel
theorem dX2_addOuting_101 : decode cX2_addOuting 101 = .ok (.iload_n 2, 1) := by decide +kernel
theorem dX2_addOuting_102 : decode cX2_addOuting 102 = .ok (.iload_n 3, 1) := by decide +kernel
theorem dX2_addOuting_103 : decode cX2_addOuting 103 = .ok (.invokevirtual 92, 3) := by decide +kernel
theorem dX2_addOuting_106 : decode cX2_addOuting 106 = .ok (.iconst 1, 1) := by decide +kernel
theorem dX2_addOuting_107 : decode cX2_addOuting 107 = .ok (.ireturn, 1) := by decide +kernel
def lX2_addOuting_0 : List (Nat × (Op ⊕ Nat)) := [(0, .inl (o_pushI ((-1)) 1)), (1, .inl (o_istore 2 2)), (2, .inl (o_pushI (nI 0) 3)), (3, .inl (o_istore 3 4)), (4, .inl (o_pushI ((-1)) 5)), (5, .inl (o_istore 4 7)), (7, .inl (o_pushI (nI 0) 8)), (8, .inl (o_istore 5 10)), (10, .inl (o_iload 5 12)), (12, .inl (o_aload 0 13)), (13, .inl (o_get 2 0 16)), (16, .inl (o_get 1 0 19)), (19, .inl (o_get 9 0 22)), (22, .inl (o_icmp_ge 86 25)), (25, .inl (o_aload 0 26)), (26, .inl (o_get 2 1 29)), (29, .inl (o_iload 5 31)), (31, .inl (o_iload 1 32)), (32, .inl (o_pushI (nI 0) 33)), (33, .inl (o_callV fX3_mostOf 3 3 36)), (36, .inl (o_istore 6 38)), (38, .inl (o_iload 6 40)), (40, .inl (o_if_le 80 43)), (43, .inl (o_aload 0 44)), (44, .inl (o_get 2 0 47)), (47, .inl (o_iload 5 49)), (49, .inl (o_iload 1 50)), (50, .inl (o_iload 6 52)), (52, .inl (o_callV fX1_valueOf 3 1 55)), (55, .inl (o_iload 4 57)), (57, .inl (o_icmp_le 80 60)), (60, .inl (o_aload 0 61)), (61, .inl (o_get 2 0 64)), (64, .inl (o_iload 5 66)), (66, .inl (o_iload 1 67)), (67, .inl (o_iload 6 69)), (69, .inl (o_callV fX1_valueOf 3 1 72)), (72, .inl (o_istore 4 74)), (74, .inl (o_iload 5 76)), (76, .inl (o_istore 2 77))]
def lX2_addOuting_1 : List (Nat × (Op ⊕ Nat)) := [(77, .inl (o_iload 6 79)), (79, .inl (o_istore 3 80)), (80, .inl (o_iinc 5 (nI 1) 83)), (83, .inl (o_goto 10)), (86, .inl (o_iload 2 87)), (87, .inl (o_pushI ((-1)) 88)), (88, .inl (o_icmp_ne 93 91)), (91, .inl (o_pushI (nI 0) 92)), (92, .inr 1), (93, .inl (o_aload 0 94)), (94, .inl (o_get 2 0 97)), (97, .inl (o_get 1 1 100)), (100, .inl (o_iload 1 101)), (101, .inl (o_iload 2 102)), (102, .inl (o_iload 3 103)), (103, .inl (o_callV fX5_add 3 5 106)), (106, .inl (o_pushI (nI 1) 107)), (107, .inr 1)]
def lX2_addOuting : List (Nat × (Op ⊕ Nat)) := lX2_addOuting_0 ++ (lX2_addOuting_1)
theorem qX2_addOuting : yX2_addOuting.cls = RX2 ∧ yX2_addOuting.cls ≠ "java/lang/invoke/MethodHandle" ∧ yX2_addOuting.cls ≠ "java/lang/invoke/VarHandle" ∧ (parseMethodDescriptor yX2_addOuting.desc).map (fun d => d.parameters.length) = some 1 := by decide +kernel
set_option maxRecDepth 10000 in
theorem hX2_addOuting_0 (l : Launch) {p : Program} {e : Env} {s : State} {m : MethodId} {args : Array Value} {below : List Frame} {meth : Method} {c : Code} {D : va_G} {ad adV : Nat → Nat} {cA : Nat → ClassId} {K : Kt} (C0 : Cx p s m args meth c D ad adV cA cX2_addOuting 7 RX2) (hr : meth.sig.returnType = (some .boolean)) : ∀ q ∈ lX2_addOuting_0, Sd p l e (rmd 4) s m args below meth c (MQ below (QQ D ad cA K) args s 0 0 (AA ad)) D ad cA 7 q.1 (opOf K q.2) := List.forall_mem_cons.mpr ⟨s_iconst C0 dX2_addOuting_0 rfl, List.forall_mem_cons.mpr ⟨s_istore_n C0 dX2_addOuting_1 rfl (by decide), List.forall_mem_cons.mpr ⟨s_iconst C0 dX2_addOuting_2 rfl, List.forall_mem_cons.mpr ⟨s_istore_n C0 dX2_addOuting_3 rfl (by decide), List.forall_mem_cons.mpr ⟨s_iconst C0 dX2_addOuting_4 rfl, List.forall_mem_cons.mpr ⟨s_istore C0 dX2_addOuting_5 (by decide), List.forall_mem_cons.mpr ⟨s_iconst C0 dX2_addOuting_7 rfl, List.forall_mem_cons.mpr ⟨s_istore C0 dX2_addOuting_8 (by decide), List.forall_mem_cons.mpr ⟨s_iload C0 dX2_addOuting_10, List.forall_mem_cons.mpr ⟨s_aload_n C0 dX2_addOuting_12 rfl, List.forall_mem_cons.mpr ⟨s_get (ci := 2) (k := 0) C0 dX2_addOuting_13 inX2 rfl (by decide) tw2_28, List.forall_mem_cons.mpr ⟨s_get (ci := 1) (k := 0) C0 dX2_addOuting_16 inX1 rfl (by decide) tw1_192, List.forall_mem_cons.mpr ⟨s_get (ci := 9) (k := 0) C0 dX2_addOuting_19 inX9 rfl (by decide) tw1_82, List.forall_mem_cons.mpr ⟨s_icmp_ge C0 dX2_addOuting_22 rfl, List.forall_mem_cons.mpr ⟨s_aload_n C0 dX2_addOuting_25 rfl, List.forall_mem_cons.mpr ⟨s_get (ci := 2) (k := 1) C0 dX2_addOuting_26 inX2 rfl (by decide) tw2_29, List.forall_mem_cons.mpr ⟨s_iload C0 dX2_addOuting_29, List.forall_mem_cons.mpr ⟨s_iload_n C0 dX2_addOuting_31 rfl, List.forall_mem_cons.mpr ⟨s_iconst C0 dX2_addOuting_32 rfl, List.forall_mem_cons.mpr ⟨s_callV (ci := 3) C0 (kX3_mostOf l) dX2_addOuting_33 rfl qX3_mostOf tw5_111 tw4_97 tw4_98 tw1_7 tw4_99 rfl (by decide) (by decide), List.forall_mem_cons.mpr ⟨s_istore C0 dX2_addOuting_36 (by decide), List.forall_mem_cons.mpr ⟨s_iload C0 dX2_addOuting_38, List.forall_mem_cons.mpr ⟨s_if_le C0 dX2_addOuting_40 rfl, List.forall_mem_cons.mpr ⟨s_aload_n C0 dX2_addOuting_43 rfl, List.forall_mem_cons.mpr ⟨s_get (ci := 2) (k := 0) C0 dX2_addOuting_44 inX2 rfl (by decide) tw2_28, List.forall_mem_cons.mpr ⟨s_iload C0 dX2_addOuting_47, List.forall_mem_cons.mpr ⟨s_iload_n C0 dX2_addOuting_49 rfl, List.forall_mem_cons.mpr ⟨s_iload C0 dX2_addOuting_50, List.forall_mem_cons.mpr ⟨s_callV (ci := 1) C0 (kX1_valueOf l) dX2_addOuting_52 rfl qX1_valueOf tw4_189 tw3_202 tw3_203 tw1_6 tw3_204 rfl (by decide) (by decide), List.forall_mem_cons.mpr ⟨s_iload C0 dX2_addOuting_55, List.forall_mem_cons.mpr ⟨s_icmp_le C0 dX2_addOuting_57 rfl, List.forall_mem_cons.mpr ⟨s_aload_n C0 dX2_addOuting_60 rfl, List.forall_mem_cons.mpr ⟨s_get (ci := 2) (k := 0) C0 dX2_addOuting_61 inX2 rfl (by decide) tw2_28, List.forall_mem_cons.mpr ⟨s_iload C0 dX2_addOuting_64, List.forall_mem_cons.mpr ⟨s_iload_n C0 dX2_addOuting_66 rfl, List.forall_mem_cons.mpr ⟨s_iload C0 dX2_addOuting_67, List.forall_mem_cons.mpr ⟨s_callV (ci := 1) C0 (kX1_valueOf l) dX2_addOuting_69 rfl qX1_valueOf tw4_189 tw3_202 tw3_203 tw1_6 tw3_204 rfl (by decide) (by decide), List.forall_mem_cons.mpr ⟨s_istore C0 dX2_addOuting_72 (by decide), List.forall_mem_cons.mpr ⟨s_iload C0 dX2_addOuting_74, List.forall_mem_cons.mpr ⟨s_istore_n C0 dX2_addOuting_76 rfl (by decide), fun _ h => absurd h List.not_mem_nil⟩⟩⟩⟩⟩⟩⟩⟩⟩⟩⟩⟩⟩⟩⟩⟩⟩⟩⟩⟩⟩⟩⟩⟩⟩⟩⟩⟩⟩⟩⟩⟩⟩⟩⟩⟩⟩⟩⟩⟩
set_option maxRecDepth 10000 in
theorem hX2_addOuting_1 (l : Launch) {p : Program} {e : Env} {s : State} {m : MethodId} {args : Array Value} {below : List Frame} {meth : Method} {c : Code} {D : va_G} {ad adV : Nat → Nat} {cA : Nat → ClassId} {K : Kt} (C0 : Cx p s m args meth c D ad adV cA cX2_addOuting 7 RX2) (hr : meth.sig.returnType = (some .boolean)) : ∀ q ∈ lX2_addOuting_1, Sd p l e (rmd 4) s m args below meth c (MQ below (QQ D ad cA K) args s 0 0 (AA ad)) D ad cA 7 q.1 (opOf K q.2) := List.forall_mem_cons.mpr ⟨s_iload C0 dX2_addOuting_77, List.forall_mem_cons.mpr ⟨s_istore_n C0 dX2_addOuting_79 rfl (by decide), List.forall_mem_cons.mpr ⟨s_iinc C0 dX2_addOuting_80 rfl (by decide), List.forall_mem_cons.mpr ⟨s_goto C0 dX2_addOuting_83 rfl, List.forall_mem_cons.mpr ⟨s_iload_n C0 dX2_addOuting_86 rfl, List.forall_mem_cons.mpr ⟨s_iconst C0 dX2_addOuting_87 rfl, List.forall_mem_cons.mpr ⟨s_icmp_ne C0 dX2_addOuting_88 rfl, List.forall_mem_cons.mpr ⟨s_iconst C0 dX2_addOuting_91 rfl, List.forall_mem_cons.mpr ⟨s_zret C0 hr dX2_addOuting_92, List.forall_mem_cons.mpr ⟨s_aload_n C0 dX2_addOuting_93 rfl, List.forall_mem_cons.mpr ⟨s_get (ci := 2) (k := 0) C0 dX2_addOuting_94 inX2 rfl (by decide) tw2_28, List.forall_mem_cons.mpr ⟨s_get (ci := 1) (k := 1) C0 dX2_addOuting_97 inX1 rfl (by decide) tw1_198, List.forall_mem_cons.mpr ⟨s_iload_n C0 dX2_addOuting_100 rfl, List.forall_mem_cons.mpr ⟨s_iload_n C0 dX2_addOuting_101 rfl, List.forall_mem_cons.mpr ⟨s_iload_n C0 dX2_addOuting_102 rfl, List.forall_mem_cons.mpr ⟨s_callV (ci := 5) C0 (kX5_add l) dX2_addOuting_103 rfl qX5_add tw5_112 tw5_54 tw5_55 tw1_5 tw5_56 rfl (by decide) (by decide), List.forall_mem_cons.mpr ⟨s_iconst C0 dX2_addOuting_106 rfl, List.forall_mem_cons.mpr ⟨s_zret C0 hr dX2_addOuting_107, fun _ h => absurd h List.not_mem_nil⟩⟩⟩⟩⟩⟩⟩⟩⟩⟩⟩⟩⟩⟩⟩⟩⟩⟩
def fX2_addOuting : Mf := mf 7 (fun K => tl K lX2_addOuting)
theorem kX2_addOuting (l : Launch) : Okm l yX2_addOuting cX2_addOuting 7 (some .boolean) 4 fX2_addOuting := Okm_tl (own := RX2) (by decide +kernel) rfl (fun C0 hr => List.forall_mem_append.mpr ⟨hX2_addOuting_0 l C0 hr, hX2_addOuting_1 l C0 hr⟩)
theorem dX2_fillGame_0 : decode cX2_fillGame 0 = .ok (.iconst 0, 1) := by decide +kernel
theorem dX2_fillGame_1 : decode cX2_fillGame 1 = .ok (.istore_n 2, 1) := by decide +kernel
theorem dX2_fillGame_2 : decode cX2_fillGame 2 = .ok (.iload_n 2, 1) := by decide +kernel
theorem dX2_fillGame_3 : decode cX2_fillGame 3 = .ok (.iconst 3, 1) := by decide +kernel
theorem dX2_fillGame_4 : decode cX2_fillGame 4 = .ok (.if_icmp .ge 17, 3) := by decide +kernel
theorem dX2_fillGame_7 : decode cX2_fillGame 7 = .ok (.aload_n 0, 1) := by decide +kernel
theorem dX2_fillGame_8 : decode cX2_fillGame 8 = .ok (.iload_n 1, 1) := by decide +kernel
theorem dX2_fillGame_9 : decode cX2_fillGame 9 = .ok (.invokevirtual 81, 3) := by decide +kernel
theorem dX2_fillGame_12 : decode cX2_fillGame 12 = .ok (.ifCond .eq 9, 3) := by decide +kernel
theorem dX2_fillGame_15 : decode cX2_fillGame 15 = .ok (.iinc 2 1, 3) := by decide +kernel
theorem dX2_fillGame_18 : decode cX2_fillGame 18 = .ok (.goto (-16), 3) := by decide +kernel
theorem dX2_fillGame_21 : decode cX2_fillGame 21 = .ok (.iload_n 2, 1) := by decide +kernel
theorem dX2_fillGame_22 : decode cX2_fillGame 22 = .ok (.ireturn, 1) := by decide +kernel
def lX2_fillGame : List (Nat × (Op ⊕ Nat)) := [(0, .inl (o_pushI (nI 0) 1)), (1, .inl (o_istore 2 2)), (2, .inl (o_iload 2 3)), (3, .inl (o_pushI (nI 3) 4)), (4, .inl (o_icmp_ge 21 7)), (7, .inl (o_aload 0 8)), (8, .inl (o_iload 1 9)), (9, .inl (o_callV fX2_addOuting 1 2 12)), (12, .inl (o_if_eq 21 15)), (15, .inl (o_iinc 2 (nI 1) 18)), (18, .inl (o_goto 2)), (21, .inl (o_iload 2 22)), (22, .inr 0)]
theorem qX2_fillGame : yX2_fillGame.cls = RX2 ∧ yX2_fillGame.cls ≠ "java/lang/invoke/MethodHandle" ∧ yX2_fillGame.cls ≠ "java/lang/invoke/VarHandle" ∧ (parseMethodDescriptor yX2_fillGame.desc).map (fun d => d.parameters.length) = some 1 := by decide +kernel
set_option maxRecDepth 10000 in
theorem hX2_fillGame_0 (l : Launch) {p : Program} {e : Env} {s : State} {m : MethodId} {args : Array Value} {below : List Frame} {meth : Method} {c : Code} {D : va_G} {ad adV : Nat → Nat} {cA : Nat → ClassId} {K : Kt} (C0 : Cx p s m args meth c D ad adV cA cX2_fillGame 3 RX2) (hr : meth.sig.returnType = (some .int)) : ∀ q ∈ lX2_fillGame, Sd p l e (rmd 5) s m args below meth c (MQ below (QQ D ad cA K) args s 0 0 (AA ad)) D ad cA 3 q.1 (opOf K q.2) := List.forall_mem_cons.mpr ⟨s_iconst C0 dX2_fillGame_0 rfl, List.forall_mem_cons.mpr ⟨s_istore_n C0 dX2_fillGame_1 rfl (by decide), List.forall_mem_cons.mpr ⟨s_iload_n C0 dX2_fillGame_2 rfl, List.forall_mem_cons.mpr ⟨s_iconst C0 dX2_fillGame_3 rfl, List.forall_mem_cons.mpr ⟨s_icmp_ge C0 dX2_fillGame_4 rfl, List.forall_mem_cons.mpr ⟨s_aload_n C0 dX2_fillGame_7 rfl, List.forall_mem_cons.mpr ⟨s_iload_n C0 dX2_fillGame_8 rfl, List.forall_mem_cons.mpr ⟨s_callV (ci := 2) C0 (kX2_addOuting l) dX2_fillGame_9 rfl qX2_addOuting tw5_107 tw5_109 twp_38 tw1_9 tw5_110 rfl (by decide) (by decide), List.forall_mem_cons.mpr ⟨s_if_eq C0 dX2_fillGame_12 rfl, List.forall_mem_cons.mpr ⟨s_iinc C0 dX2_fillGame_15 rfl (by decide), List.forall_mem_cons.mpr ⟨s_goto C0 dX2_fillGame_18 rfl, List.forall_mem_cons.mpr ⟨s_iload_n C0 dX2_fillGame_21 rfl, List.forall_mem_cons.mpr ⟨s_iret C0 hr dX2_fillGame_22, fun _ h => absurd h List.not_mem_nil⟩⟩⟩⟩⟩⟩⟩⟩⟩⟩⟩⟩⟩
def fX2_fillGame : Mf := mf 3 (fun K => tl K lX2_fillGame)
theorem kX2_fillGame (l : Launch) : Okm l yX2_fillGame cX2_fillGame 3 (some .int) 5 fX2_fillGame := Okm_tl (own := RX2) (by decide +kernel) rfl (fun C0 hr => hX2_fillGame_0 l C0 hr)
theorem dX2_weighChanges_0 : decode cX2_weighChanges 0 = .ok (.aload_n 0, 1) := by decide +kernel
theorem dX2_weighChanges_1 : decode cX2_weighChanges 1 = .ok (.getfield 33, 3) := by decide +kernel
theorem dX2_weighChanges_4 : decode cX2_weighChanges 4 = .ok (.getfield 88, 3) := by decide +kernel
theorem dX2_weighChanges_7 : decode cX2_weighChanges 7 = .ok (.iload_n 1, 1) := by decide +kernel
theorem dX2_weighChanges_8 : decode cX2_weighChanges 8 = .ok (.iload_n 2, 1) := by decide +kernel
theorem dX2_weighChanges_9 : decode cX2_weighChanges 9 = .ok (.invokevirtual 108, 3) := by decide +kernel
theorem dX2_weighChanges_12 : decode cX2_weighChanges 12 = .ok (.istore_n 3, 1) := by decide +kernel
theorem dX2_weighChanges_13 : decode cX2_weighChanges 13 = .ok (.aload_n 0, 1) := by decide +kernel
theorem dX2_weighChanges_14 : decode cX2_weighChanges 14 = .ok (.getfield 33, 3) := by decide +kernel
theorem dX2_weighChanges_17 : decode cX2_weighChanges 17 = .ok (.iload_n 1, 1) := by decide +kernel
theorem dX2_weighChanges_18 : decode cX2_weighChanges 18 = .ok (.iload_n 2, 1) := by decide +kernel
theorem dX2_weighChanges_19 : decode cX2_weighChanges 19 = .ok (.invokevirtual 115, 3) := by decide +kernel
theorem dX2_weighChanges_22 : decode cX2_weighChanges 22 = .ok (.istore 4, 2) := by decide +kernel
theorem dX2_weighChanges_24 : decode cX2_weighChanges 24 = .ok (.iconst 0, 1) := by decide +kernel
theorem dX2_weighChanges_25 : decode cX2_weighChanges 25 = .ok (.istore 5, 2) := by decide +kernel
theorem dX2_weighChanges_27 : decode cX2_weighChanges 27 = .ok (.iload 5, 2) := by decide +kernel
theorem dX2_weighChanges_29 : decode cX2_weighChanges 29 = .ok (.aload_n 0, 1) := by decide +kernel
theorem dX2_weighChanges_30 : decode cX2_weighChanges 30 = .ok (.getfield 33, 3) := by decide +kernel
theorem dX2_weighChanges_33 : decode cX2_weighChanges 33 = .ok (.getfield 41, 3) := by decide +kernel
theorem dX2_weighChanges_36 : decode cX2_weighChanges 36 = .ok (.getfield 47, 3) := by decide +kernel
theorem dX2_weighChanges_39 : decode cX2_weighChanges 39 = .ok (.if_icmp .ge 86, 3) := by decide +kernel
theorem dX2_weighChanges_42 : decode cX2_weighChanges 42 = .ok (.aload_n 0, 1) := by decide +kernel
theorem dX2_weighChanges_43 : decode cX2_weighChanges 43 = .ok (.getfield 33, 3) := by decide +kernel
theorem dX2_weighChanges_46 : decode cX2_weighChanges 46 = .ok (.iload 5, 2) := by decide +kernel
theorem dX2_weighChanges_48 : decode cX2_weighChanges 48 = .ok (.iload_n 1, 1) := by decide +kernel
theorem dX2_weighChanges_49 : decode cX2_weighChanges 49 = .ok (.iload_n 3, 1) := by decide +kernel
theorem dX2_weighChanges_50 : decode cX2_weighChanges 50 = .ok (.invokevirtual 77, 3) := by decide +kernel
theorem dX2_weighChanges_53 : decode cX2_weighChanges 53 = .ok (.iload 4, 2) := by decide +kernel
theorem dX2_weighChanges_55 : decode cX2_weighChanges 55 = .ok (.isub, 1) := by decide +kernel
theorem dX2_weighChanges_56 : decode cX2_weighChanges 56 = .ok (.istore 6, 2) := by decide +kernel
theorem dX2_weighChanges_58 : decode cX2_weighChanges 58 = .ok (.iload 6, 2) := by decide +kernel
theorem dX2_weighChanges_60 : decode cX2_weighChanges 60 = .ok (.aload_n 0, 1) := by decide +kernel
theorem dX2_weighChanges_61 : decode cX2_weighChanges 61 = .ok (.getfield 21, 3) := by decide +kernel
theorem dX2_weighChanges_64 : decode cX2_weighChanges 64 = .ok (.if_icmp .le 55, 3) := by decide +kernel
theorem dX2_weighChanges_67 : decode cX2_weighChanges 67 = .ok (.aload_n 0, 1) := by decide +kernel
theorem dX2_weighChanges_68 : decode cX2_weighChanges 68 = .ok (.getfield 33, 3) := by decide +kernel
theorem dX2_weighChanges_71 : decode cX2_weighChanges 71 = .ok (.getfield 88, 3) := by decide +kernel
theorem dX2_weighChanges_74 : decode cX2_weighChanges 74 = .ok (.iload 5, 2) := by decide +kernel
theorem dX2_weighChanges_76 : decode cX2_weighChanges 76 = .ok (.iload_n 1, 1) := by decide +kernel
theorem dX2_weighChanges_77 : decode cX2_weighChanges 77 = .ok (.invokevirtual 118, 3) := by decide +kernel
theorem dX2_weighChanges_80 : decode cX2_weighChanges 80 = .ok (.ifCond .ne 39, 3) := by decide +kernel
theorem dX2_weighChanges_83 : decode cX2_weighChanges 83 = .ok (.aload_n 0, 1) := by decide +kernel
theorem dX2_weighChanges_84 : decode cX2_weighChanges 84 = .ok (.getfield 37, 3) := by decide +kernel
theorem dX2_weighChanges_87 : decode cX2_weighChanges 87 = .ok (.iload 5, 2) := by decide +kernel
theorem dX2_weighChanges_89 : decode cX2_weighChanges 89 = .ok (.iload_n 1, 1) := by decide +kernel
theorem dX2_weighChanges_90 : decode cX2_weighChanges 90 = .ok (.iload_n 3, 1) := by decide +kernel
theorem dX2_weighChanges_91 : decode cX2_weighChanges 91 = .ok (.invokevirtual 64, 3) := by decide +kernel
theorem dX2_weighChanges_94 : decode cX2_weighChanges 94 = .ok (.ifCond .eq 25, 3) := by decide +kernel
theorem dX2_weighChanges_97 : decode cX2_weighChanges 97 = .ok (.aload_n 0, 1) := by decide +kernel
theorem dX2_weighChanges_98 : decode cX2_weighChanges 98 = .ok (.iload 6, 2) := by decide +kernel
theorem dX2_weighChanges_100 : decode cX2_weighChanges 100 = .ok (.putfield 21, 3) := by decide +kernel
theorem dX2_weighChanges_103 : decode cX2_weighChanges 103 = .ok (.aload_n 0, 1) := by decide +kernel
theorem dX2_weighChanges_104 : decode cX2_weighChanges 104 = .ok (.iload_n 1, 1) := by decide +kernel
theorem dX2_weighChanges_105 : decode cX2_weighChanges 105 = .ok (.putfield 24, 3) := by decide +kernel
theorem dX2_weighChanges_108 : decode cX2_weighChanges 108 = .ok (.aload_n 0, 1) := by decide +kernel
theorem dX2_weighChanges_109 : decode cX2_weighChanges 109 = .ok (.iload_n 2, 1) := by decide +kernel
theorem dX2_weighChanges_110 : decode cX2_weighChanges 110 = .ok (.putfield 27, 3) := by decide +kernel
theorem dX2_weighChanges_113 : decode cX2_weighChanges 113 = .ok (.aload_n 0, 1) := by decide +kernel
theorem dX2_weighChanges_114 : decode cX2_weighChanges 114 = .ok (.iload 5, 2) := by decide +kernel
theorem dX2_weighChanges_116 : decode cX2_weighChanges 116 = .ok (.putfield 30, 3) := by decide +kernel
theorem dX2_weighChanges_119 : decode cX2_weighChanges 119 = .ok (.iinc 5 1, 3) := by decide +kernel
theorem dX2_weighChanges_122 : decode cX2_weighChanges 122 = .ok (.goto (-95), 3) := by decide +kernel
theorem dX2_weighChanges_125 : decode cX2_weighChanges 125 = .ok (.return_, 1) := by decide +kernel
def lX2_weighChanges_0 : List (Nat × (Op ⊕ Nat)) := [(0, .inl (o_aload 0 1)), (1, .inl (o_get 2 0 4)), (4, .inl (o_get 1 1 7)), (7, .inl (o_iload 1 8)), (8, .inl (o_iload 2 9)), (9, .inl (o_callV fX5_throwsAt 2 5 12)), (12, .inl (o_istore 3 13)), (13, .inl (o_aload 0 14)), (14, .inl (o_get 2 0 17)), (17, .inl (o_iload 1 18)), (18, .inl (o_iload 2 19)), (19, .inl (o_callV fX1_valueAt 2 1 22)), (22, .inl (o_istore 4 24)), (24, .inl (o_pushI (nI 0) 25)), (25, .inl (o_istore 5 27)), (27, .inl (o_iload 5 29)), (29, .inl (o_aload 0 30)), (30, .inl (o_get 2 0 33)), (33, .inl (o_get 1 0 36)), (36, .inl (o_get 9 0 39)), (39, .inl (o_icmp_ge 125 42)), (42, .inl (o_aload 0 43)), (43, .inl (o_get 2 0 46)), (46, .inl (o_iload 5 48)), (48, .inl (o_iload 1 49)), (49, .inl (o_iload 3 50)), (50, .inl (o_callV fX1_valueOf 3 1 53)), (53, .inl (o_iload 4 55)), (55, .inl (o_isub 56)), (56, .inl (o_istore 6 58)), (58, .inl (o_iload 6 60)), (60, .inl (o_aload 0 61)), (61, .inl (o_get 2 5 64)), (64, .inl (o_icmp_le 119 67)), (67, .inl (o_aload 0 68)), (68, .inl (o_get 2 0 71)), (71, .inl (o_get 1 1 74)), (74, .inl (o_iload 5 76)), (76, .inl (o_iload 1 77)), (77, .inl (o_callV fX5_has 2 5 80))]
def lX2_weighChanges_1 : List (Nat × (Op ⊕ Nat)) := [(80, .inl (o_if_ne 119 83)), (83, .inl (o_aload 0 84)), (84, .inl (o_get 2 1 87)), (87, .inl (o_iload 5 89)), (89, .inl (o_iload 1 90)), (90, .inl (o_iload 3 91)), (91, .inl (o_callV fX3_allowsIn 3 3 94)), (94, .inl (o_if_eq 119 97)), (97, .inl (o_aload 0 98)), (98, .inl (o_iload 6 100)), (100, .inl (o_putI 2 5 103)), (103, .inl (o_aload 0 104)), (104, .inl (o_iload 1 105)), (105, .inl (o_putI 2 6 108)), (108, .inl (o_aload 0 109)), (109, .inl (o_iload 2 110)), (110, .inl (o_putI 2 7 113)), (113, .inl (o_aload 0 114)), (114, .inl (o_iload 5 116)), (116, .inl (o_putI 2 8 119)), (119, .inl (o_iinc 5 (nI 1) 122)), (122, .inl (o_goto 27)), (125, .inr 3)]
def lX2_weighChanges : List (Nat × (Op ⊕ Nat)) := lX2_weighChanges_0 ++ (lX2_weighChanges_1)
theorem qX2_weighChanges : yX2_weighChanges.cls = RX2 ∧ yX2_weighChanges.cls ≠ "java/lang/invoke/MethodHandle" ∧ yX2_weighChanges.cls ≠ "java/lang/invoke/VarHandle" ∧ (parseMethodDescriptor yX2_weighChanges.desc).map (fun d => d.parameters.length) = some 2 := by decide +kernel
set_option maxRecDepth 10000 in
theorem hX2_weighChanges_0 (l : Launch) {p : Program} {e : Env} {s : State} {m : MethodId} {args : Array Value} {below : List Frame} {meth : Method} {c : Code} {D : va_G} {ad adV : Nat → Nat} {cA : Nat → ClassId} {K : Kt} (C0 : Cx p s m args meth c D ad adV cA cX2_weighChanges 7 RX2) (hr : meth.sig.returnType = none) : ∀ q ∈ lX2_weighChanges_0, Sd p l e (rmd 5) s m args below meth c (MQ below (QQ D ad cA K) args s 0 0 (AA ad)) D ad cA 7 q.1 (opOf K q.2) := List.forall_mem_cons.mpr ⟨s_aload_n C0 dX2_weighChanges_0 rfl, List.forall_mem_cons.mpr ⟨s_get (ci := 2) (k := 0) C0 dX2_weighChanges_1 inX2 rfl (by decide) tw2_28, List.forall_mem_cons.mpr ⟨s_get (ci := 1) (k := 1) C0 dX2_weighChanges_4 inX1 rfl (by decide) tw1_198, List.forall_mem_cons.mpr ⟨s_iload_n C0 dX2_weighChanges_7 rfl, List.forall_mem_cons.mpr ⟨s_iload_n C0 dX2_weighChanges_8 rfl, List.forall_mem_cons.mpr ⟨s_callV (ci := 5) C0 (kX5_throwsAt l) dX2_weighChanges_9 rfl qX5_throwsAt tw5_95 tw3_132 tw3_133 tw1_5 tw3_134 rfl (by decide) (by decide), List.forall_mem_cons.mpr ⟨s_istore_n C0 dX2_weighChanges_12 rfl (by decide), List.forall_mem_cons.mpr ⟨s_aload_n C0 dX2_weighChanges_13 rfl, List.forall_mem_cons.mpr ⟨s_get (ci := 2) (k := 0) C0 dX2_weighChanges_14 inX2 rfl (by decide) tw2_28, List.forall_mem_cons.mpr ⟨s_iload_n C0 dX2_weighChanges_17 rfl, List.forall_mem_cons.mpr ⟨s_iload_n C0 dX2_weighChanges_18 rfl, List.forall_mem_cons.mpr ⟨s_callV (ci := 1) C0 (kX1_valueAt l) dX2_weighChanges_19 rfl qX1_valueAt tw5_96 tw3_236 tw3_237 tw1_6 tw3_238 rfl (by decide) (by decide), List.forall_mem_cons.mpr ⟨s_istore C0 dX2_weighChanges_22 (by decide), List.forall_mem_cons.mpr ⟨s_iconst C0 dX2_weighChanges_24 rfl, List.forall_mem_cons.mpr ⟨s_istore C0 dX2_weighChanges_25 (by decide), List.forall_mem_cons.mpr ⟨s_iload C0 dX2_weighChanges_27, List.forall_mem_cons.mpr ⟨s_aload_n C0 dX2_weighChanges_29 rfl, List.forall_mem_cons.mpr ⟨s_get (ci := 2) (k := 0) C0 dX2_weighChanges_30 inX2 rfl (by decide) tw2_28, List.forall_mem_cons.mpr ⟨s_get (ci := 1) (k := 0) C0 dX2_weighChanges_33 inX1 rfl (by decide) tw1_192, List.forall_mem_cons.mpr ⟨s_get (ci := 9) (k := 0) C0 dX2_weighChanges_36 inX9 rfl (by decide) tw1_82, List.forall_mem_cons.mpr ⟨s_icmp_ge C0 dX2_weighChanges_39 rfl, List.forall_mem_cons.mpr ⟨s_aload_n C0 dX2_weighChanges_42 rfl, List.forall_mem_cons.mpr ⟨s_get (ci := 2) (k := 0) C0 dX2_weighChanges_43 inX2 rfl (by decide) tw2_28, List.forall_mem_cons.mpr ⟨s_iload C0 dX2_weighChanges_46, List.forall_mem_cons.mpr ⟨s_iload_n C0 dX2_weighChanges_48 rfl, List.forall_mem_cons.mpr ⟨s_iload_n C0 dX2_weighChanges_49 rfl, List.forall_mem_cons.mpr ⟨s_callV (ci := 1) C0 (kX1_valueOf l) dX2_weighChanges_50 rfl qX1_valueOf tw4_189 tw3_202 tw3_203 tw1_6 tw3_204 rfl (by decide) (by decide), List.forall_mem_cons.mpr ⟨s_iload C0 dX2_weighChanges_53, List.forall_mem_cons.mpr ⟨s_isub C0 dX2_weighChanges_55, List.forall_mem_cons.mpr ⟨s_istore C0 dX2_weighChanges_56 (by decide), List.forall_mem_cons.mpr ⟨s_iload C0 dX2_weighChanges_58, List.forall_mem_cons.mpr ⟨s_aload_n C0 dX2_weighChanges_60 rfl, List.forall_mem_cons.mpr ⟨s_get (ci := 2) (k := 5) C0 dX2_weighChanges_61 inX2 rfl (by decide) tw2_36, List.forall_mem_cons.mpr ⟨s_icmp_le C0 dX2_weighChanges_64 rfl, List.forall_mem_cons.mpr ⟨s_aload_n C0 dX2_weighChanges_67 rfl, List.forall_mem_cons.mpr ⟨s_get (ci := 2) (k := 0) C0 dX2_weighChanges_68 inX2 rfl (by decide) tw2_28, List.forall_mem_cons.mpr ⟨s_get (ci := 1) (k := 1) C0 dX2_weighChanges_71 inX1 rfl (by decide) tw1_198, List.forall_mem_cons.mpr ⟨s_iload C0 dX2_weighChanges_74, List.forall_mem_cons.mpr ⟨s_iload_n C0 dX2_weighChanges_76 rfl, List.forall_mem_cons.mpr ⟨s_callV (ci := 5) C0 (kX5_has l) dX2_weighChanges_77 rfl qX5_has tw5_97 tw3_193 tw3_194 tw1_5 tw3_195 rfl (by decide) (by decide), fun _ h => absurd h List.not_mem_nil⟩⟩⟩⟩⟩⟩⟩⟩⟩⟩⟩⟩⟩⟩⟩⟩⟩⟩⟩⟩⟩⟩⟩⟩⟩⟩⟩⟩⟩⟩⟩⟩⟩⟩⟩⟩⟩⟩⟩⟩
set_option maxRecDepth 10000 in
theorem hX2_weighChanges_1 (l : Launch) {p : Program} {e : Env} {s : State} {m : MethodId} {args : Array Value} {below : List Frame} {meth : Method} {c : Code} {D : va_G} {ad adV : Nat → Nat} {cA : Nat → ClassId} {K : Kt} (C0 : Cx p s m args meth c D ad adV cA cX2_weighChanges 7 RX2) (hr : meth.sig.returnType = none) : ∀ q ∈ lX2_weighChanges_1, Sd p l e (rmd 5) s m args below meth c (MQ below (QQ D ad cA K) args s 0 0 (AA ad)) D ad cA 7 q.1 (opOf K q.2) := List.forall_mem_cons.mpr ⟨s_if_ne C0 dX2_weighChanges_80 rfl, List.forall_mem_cons.mpr ⟨s_aload_n C0 dX2_weighChanges_83 rfl, List.forall_mem_cons.mpr ⟨s_get (ci := 2) (k := 1) C0 dX2_weighChanges_84 inX2 rfl (by decide) tw2_29, List.forall_mem_cons.mpr ⟨s_iload C0 dX2_weighChanges_87, List.forall_mem_cons.mpr ⟨s_iload_n C0 dX2_weighChanges_89 rfl, List.forall_mem_cons.mpr ⟨s_iload_n C0 dX2_weighChanges_90 rfl, List.forall_mem_cons.mpr ⟨s_callV (ci := 3) C0 (kX3_allowsIn l) dX2_weighChanges_91 rfl qX3_allowsIn tw4_183 tw4_38 tw4_39 tw1_7 tw4_40 rfl (by decide) (by decide), List.forall_mem_cons.mpr ⟨s_if_eq C0 dX2_weighChanges_94 rfl, List.forall_mem_cons.mpr ⟨s_aload_n C0 dX2_weighChanges_97 rfl, List.forall_mem_cons.mpr ⟨s_iload C0 dX2_weighChanges_98, List.forall_mem_cons.mpr ⟨s_putI (ci := 2) (k := 5) C0 dX2_weighChanges_100 inX2 tyX2_ok nmX2 rfl (by decide) rfl rfl tw2_36, List.forall_mem_cons.mpr ⟨s_aload_n C0 dX2_weighChanges_103 rfl, List.forall_mem_cons.mpr ⟨s_iload_n C0 dX2_weighChanges_104 rfl, List.forall_mem_cons.mpr ⟨s_putI (ci := 2) (k := 6) C0 dX2_weighChanges_105 inX2 tyX2_ok nmX2 rfl (by decide) rfl rfl tw2_37, List.forall_mem_cons.mpr ⟨s_aload_n C0 dX2_weighChanges_108 rfl, List.forall_mem_cons.mpr ⟨s_iload_n C0 dX2_weighChanges_109 rfl, List.forall_mem_cons.mpr ⟨s_putI (ci := 2) (k := 7) C0 dX2_weighChanges_110 inX2 tyX2_ok nmX2 rfl (by decide) rfl rfl tw2_38, List.forall_mem_cons.mpr ⟨s_aload_n C0 dX2_weighChanges_113 rfl, List.forall_mem_cons.mpr ⟨s_iload C0 dX2_weighChanges_114, List.forall_mem_cons.mpr ⟨s_putI (ci := 2) (k := 8) C0 dX2_weighChanges_116 inX2 tyX2_ok nmX2 rfl (by decide) rfl rfl tw2_39, List.forall_mem_cons.mpr ⟨s_iinc C0 dX2_weighChanges_119 rfl (by decide), List.forall_mem_cons.mpr ⟨s_goto C0 dX2_weighChanges_122 rfl, List.forall_mem_cons.mpr ⟨s_vret C0 hr dX2_weighChanges_125, fun _ h => absurd h List.not_mem_nil⟩⟩⟩⟩⟩⟩⟩⟩⟩⟩⟩⟩⟩⟩⟩⟩⟩⟩⟩⟩⟩⟩⟩
def fX2_weighChanges : Mf := mf 7 (fun K => tl K lX2_weighChanges)
theorem kX2_weighChanges (l : Launch) : Okm l yX2_weighChanges cX2_weighChanges 7 none 5 fX2_weighChanges := Okm_tl (own := RX2) (by decide +kernel) rfl (fun C0 hr => List.forall_mem_append.mpr ⟨hX2_weighChanges_0 l C0 hr, hX2_weighChanges_1 l C0 hr⟩)
theorem dX5_change_0 : decode cX5_change 0 = .ok (.aload_n 0, 1) := by decide +kernel
theorem dX5_change_1 : decode cX5_change 1 = .ok (.getfield 21, 3) := by decide +kernel
theorem dX5_change_4 : decode cX5_change 4 = .ok (.aload_n 0, 1) := by decide +kernel
theorem dX5_change_5 : decode cX5_change 5 = .ok (.iload_n 1, 1) := by decide +kernel
theorem dX5_change_6 : decode cX5_change 6 = .ok (.iload_n 2, 1) := by decide +kernel
theorem dX5_change_7 : decode cX5_change 7 = .ok (.invokevirtual 38, 3) := by decide +kernel
theorem dX5_change_10 : decode cX5_change 10 = .ok (.bipush 20, 2) := by decide +kernel
theorem dX5_change_12 : decode cX5_change 12 = .ok (.imul, 1) := by decide +kernel
theorem dX5_change_13 : decode cX5_change 13 = .ok (.iload_n 1, 1) := by decide +kernel
theorem dX5_change_14 : decode cX5_change 14 = .ok (.iadd, 1) := by decide +kernel
theorem dX5_change_15 : decode cX5_change 15 = .ok (.iconst 0, 1) := by decide +kernel
theorem dX5_change_16 : decode cX5_change 16 = .ok (.iastore, 1) := by decide +kernel
theorem dX5_change_17 : decode cX5_change 17 = .ok (.aload_n 0, 1) := by decide +kernel
theorem dX5_change_18 : decode cX5_change 18 = .ok (.iload_n 1, 1) := by decide +kernel
theorem dX5_change_19 : decode cX5_change 19 = .ok (.iload_n 2, 1) := by decide +kernel
theorem dX5_change_20 : decode cX5_change 20 = .ok (.iload_n 3, 1) := by decide +kernel
theorem dX5_change_21 : decode cX5_change 21 = .ok (.iload 4, 2) := by decide +kernel
theorem dX5_change_23 : decode cX5_change 23 = .ok (.invokevirtual 34, 3) := by decide +kernel
theorem dX5_change_26 : decode cX5_change 26 = .ok (.return_, 1) := by decide +kernel
def lX5_change : List (Nat × (Op ⊕ Nat)) := [(0, .inl (o_aload 0 1)), (1, .inl (o_get 5 3 4)), (4, .inl (o_aload 0 5)), (5, .inl (o_iload 1 6)), (6, .inl (o_iload 2 7)), (7, .inl (o_callV fX5_armAt 2 5 10)), (10, .inl (o_pushI (nI 20) 12)), (12, .inl (o_imul 13)), (13, .inl (o_iload 1 14)), (14, .inl (o_iadd 15)), (15, .inl (o_pushI (nI 0) 16)), (16, .inl (o_iast 17)), (17, .inl (o_aload 0 18)), (18, .inl (o_iload 1 19)), (19, .inl (o_iload 2 20)), (20, .inl (o_iload 3 21)), (21, .inl (o_iload 4 23)), (23, .inl (o_callV fX5_setAt 4 5 26)), (26, .inr 3)]
theorem qX5_change : yX5_change.cls = RX5 ∧ yX5_change.cls ≠ "java/lang/invoke/MethodHandle" ∧ yX5_change.cls ≠ "java/lang/invoke/VarHandle" ∧ (parseMethodDescriptor yX5_change.desc).map (fun d => d.parameters.length) = some 4 := by decide +kernel
set_option maxRecDepth 10000 in
theorem hX5_change_0 (l : Launch) {p : Program} {e : Env} {s : State} {m : MethodId} {args : Array Value} {below : List Frame} {meth : Method} {c : Code} {D : va_G} {ad adV : Nat → Nat} {cA : Nat → ClassId} {K : Kt} (C0 : Cx p s m args meth c D ad adV cA cX5_change 5 RX5) (hr : meth.sig.returnType = none) : ∀ q ∈ lX5_change, Sd p l e (rmd 1) s m args below meth c (MQ below (QQ D ad cA K) args s 0 0 (AA ad)) D ad cA 5 q.1 (opOf K q.2) := List.forall_mem_cons.mpr ⟨s_aload_n C0 dX5_change_0 rfl, List.forall_mem_cons.mpr ⟨s_get (ci := 5) (k := 3) C0 dX5_change_1 inX5 rfl (by decide) tw1_174, List.forall_mem_cons.mpr ⟨s_aload_n C0 dX5_change_4 rfl, List.forall_mem_cons.mpr ⟨s_iload_n C0 dX5_change_5 rfl, List.forall_mem_cons.mpr ⟨s_iload_n C0 dX5_change_6 rfl, List.forall_mem_cons.mpr ⟨s_callV (ci := 5) C0 (kX5_armAt l) dX5_change_7 rfl qX5_armAt tw3_127 tw3_128 tw3_129 tw1_5 tw3_130 rfl (by decide) (by decide), List.forall_mem_cons.mpr ⟨s_bipush C0 dX5_change_10 (by decide +kernel), List.forall_mem_cons.mpr ⟨s_imul C0 dX5_change_12, List.forall_mem_cons.mpr ⟨s_iload_n C0 dX5_change_13 rfl, List.forall_mem_cons.mpr ⟨s_iadd C0 dX5_change_14, List.forall_mem_cons.mpr ⟨s_iconst C0 dX5_change_15 rfl, List.forall_mem_cons.mpr ⟨s_iast C0 dX5_change_16, List.forall_mem_cons.mpr ⟨s_aload_n C0 dX5_change_17 rfl, List.forall_mem_cons.mpr ⟨s_iload_n C0 dX5_change_18 rfl, List.forall_mem_cons.mpr ⟨s_iload_n C0 dX5_change_19 rfl, List.forall_mem_cons.mpr ⟨s_iload_n C0 dX5_change_20 rfl, List.forall_mem_cons.mpr ⟨s_iload C0 dX5_change_21, List.forall_mem_cons.mpr ⟨s_callV (ci := 5) C0 (kX5_setAt l) dX5_change_23 rfl qX5_setAt tw3_135 tw3_137 twp_13 tw1_5 tw3_138 rfl (by decide) (by decide), List.forall_mem_cons.mpr ⟨s_vret C0 hr dX5_change_26, fun _ h => absurd h List.not_mem_nil⟩⟩⟩⟩⟩⟩⟩⟩⟩⟩⟩⟩⟩⟩⟩⟩⟩⟩⟩
def fX5_change : Mf := mf 5 (fun K => tl K lX5_change)
theorem kX5_change (l : Launch) : Okm l yX5_change cX5_change 5 none 1 fX5_change := Okm_tl (own := RX5) (by decide +kernel) rfl (fun C0 hr => hX5_change_0 l C0 hr)
theorem dX2_changeBest_0 : decode cX2_changeBest 0 = .ok (.aload_n 0, 1) := by decide +kernel
theorem dX2_changeBest_1 : decode cX2_changeBest 1 = .ok (.iconst 0, 1) := by decide +kernel
theorem dX2_changeBest_2 : decode cX2_changeBest 2 = .ok (.putfield 21, 3) := by decide +kernel
theorem dX2_changeBest_5 : decode cX2_changeBest 5 = .ok (.iconst 0, 1) := by decide +kernel
theorem dX2_changeBest_6 : decode cX2_changeBest 6 = .ok (.istore_n 1, 1) := by decide +kernel
theorem dX2_changeBest_7 : decode cX2_changeBest 7 = .ok (.iload_n 1, 1) := by decide +kernel
theorem dX2_changeBest_8 : decode cX2_changeBest 8 = .ok (.aload_n 0, 1) := by decide +kernel
theorem dX2_changeBest_9 : decode cX2_changeBest 9 = .ok (.getfield 33, 3) := by decide +kernel
theorem dX2_changeBest_12 : decode cX2_changeBest 12 = .ok (.getfield 41, 3) := by decide +kernel
theorem dX2_changeBest_15 : decode cX2_changeBest 15 = .ok (.getfield 97, 3) := by decide +kernel
theorem dX2_changeBest_18 : decode cX2_changeBest 18 = .ok (.if_icmp .ge 39, 3) := by decide +kernel
theorem dX2_changeBest_21 : decode cX2_changeBest 21 = .ok (.iconst 0, 1) := by decide +kernel
theorem dX2_changeBest_22 : decode cX2_changeBest 22 = .ok (.istore_n 2, 1) := by decide +kernel
theorem dX2_changeBest_23 : decode cX2_changeBest 23 = .ok (.iload_n 2, 1) := by decide +kernel
theorem dX2_changeBest_24 : decode cX2_changeBest 24 = .ok (.aload_n 0, 1) := by decide +kernel
theorem dX2_changeBest_25 : decode cX2_changeBest 25 = .ok (.getfield 33, 3) := by decide +kernel
theorem dX2_changeBest_28 : decode cX2_changeBest 28 = .ok (.getfield 88, 3) := by decide +kernel
theorem dX2_changeBest_31 : decode cX2_changeBest 31 = .ok (.getfield 100, 3) := by decide +kernel
theorem dX2_changeBest_34 : decode cX2_changeBest 34 = .ok (.iload_n 1, 1) := by decide +kernel
theorem dX2_changeBest_35 : decode cX2_changeBest 35 = .ok (.iaload, 1) := by decide +kernel
theorem dX2_changeBest_36 : decode cX2_changeBest 36 = .ok (.if_icmp .ge 15, 3) := by decide +kernel
theorem dX2_changeBest_39 : decode cX2_changeBest 39 = .ok (.aload_n 0, 1) := by decide +kernel
theorem dX2_changeBest_40 : decode cX2_changeBest 40 = .ok (.iload_n 1, 1) := by decide +kernel
theorem dX2_changeBest_41 : decode cX2_changeBest 41 = .ok (.iload_n 2, 1) := by decide +kernel
theorem dX2_changeBest_42 : decode cX2_changeBest 42 = .ok (.invokevirtual 104, 3) := by decide +kernel
theorem dX2_changeBest_45 : decode cX2_changeBest 45 = .ok (.iinc 2 1, 3) := by decide +kernel
theorem dX2_changeBest_48 : decode cX2_changeBest 48 = .ok (.goto (-25), 3) := by decide +kernel
theorem dX2_changeBest_51 : decode cX2_changeBest 51 = .ok (.iinc 1 1, 3) := by decide +kernel
theorem dX2_changeBest_54 : decode cX2_changeBest 54 = .ok (.goto (-47), 3) := by decide +kernel
theorem dX2_changeBest_57 : decode cX2_changeBest 57 = .ok (.aload_n 0, 1) := by decide +kernel
theorem dX2_changeBest_58 : decode cX2_changeBest 58 = .ok (.getfield 21, 3) := by decide +kernel
theorem dX2_changeBest_61 : decode cX2_changeBest 61 = .ok (.ifCond .ne 5, 3) := by decide +kernel
theorem dX2_changeBest_64 : decode cX2_changeBest 64 = .ok (.iconst 0, 1) := by decide +kernel
theorem dX2_changeBest_65 : decode cX2_changeBest 65 = .ok (.ireturn, 1) := by decide +kernel
theorem dX2_changeBest_66 : decode cX2_changeBest 66 = .ok (.aload_n 0, 1) := by decide +kernel
theorem dX2_changeBest_67 : decode cX2_changeBest 67 = .ok (.getfield 33, 3) := by decide +kernel
theorem dX2_changeBest_70 : decode cX2_changeBest 70 = .ok (.getfield 88, 3) := by decide +kernel
theorem dX2_changeBest_73 : decode cX2_changeBest 73 = .ok (.aload_n 0, 1) := by decide +kernel
theorem dX2_changeBest_74 : decode cX2_changeBest 74 = .ok (.getfield 24, 3) := by decide +kernel
theorem dX2_changeBest_77 : decode cX2_changeBest 77 = .ok (.aload_n 0, 1) := by decide +kernel
theorem dX2_changeBest_78 : decode cX2_changeBest 78 = .ok (.getfield 27, 3) := by decide +kernel
theorem dX2_changeBest_81 : decode cX2_changeBest 81 = .ok (.invokevirtual 108, 3) := by decide +kernel
theorem dX2_changeBest_84 : decode cX2_changeBest 84 = .ok (.istore_n 1, 1) := by decide +kernel
theorem dX2_changeBest_85 : decode cX2_changeBest 85 = .ok (.aload_n 0, 1) := by decide +kernel
theorem dX2_changeBest_86 : decode cX2_changeBest 86 = .ok (.getfield 33, 3) := by decide +kernel
theorem dX2_changeBest_89 : decode cX2_changeBest 89 = .ok (.getfield 88, 3) := by decide +kernel
theorem dX2_changeBest_92 : decode cX2_changeBest 92 = .ok (.aload_n 0, 1) := by decide +kernel
theorem dX2_changeBest_93 : decode cX2_changeBest 93 = .ok (.getfield 24, 3) := by decide +kernel
theorem dX2_changeBest_96 : decode cX2_changeBest 96 = .ok (.aload_n 0, 1) := by decide +kernel
theorem dX2_changeBest_97 : decode cX2_changeBest 97 = .ok (.getfield 27, 3) := by decide +kernel
theorem dX2_changeBest_100 : decode cX2_changeBest 100 = .ok (.aload_n 0, 1) := by decide +kernel
theorem dX2_changeBest_101 : decode cX2_changeBest 101 = .ok (.getfield 30, 3) := by decide +kernel
theorem dX2_changeBest_104 : decode cX2_changeBest 104 = .ok (.iload_n 1, 1) := by decide +kernel
theorem dX2_changeBest_105 : decode cX2_changeBest 105 = .ok (.invokevirtual 111, 3) := by decide +kernel
theorem dX2_changeBest_108 : decode cX2_changeBest 108 = .ok (.iconst 1, 1) := by decide +kernel
theorem dX2_changeBest_109 : decode cX2_changeBest 109 = .ok (.ireturn, 1) := by decide +kernel
def lX2_changeBest_0 : List (Nat × (Op ⊕ Nat)) := [(0, .inl (o_aload 0 1)), (1, .inl (o_pushI (nI 0) 2)), (2, .inl (o_putI 2 5 5)), (5, .inl (o_pushI (nI 0) 6)), (6, .inl (o_istore 1 7)), (7, .inl (o_iload 1 8)), (8, .inl (o_aload 0 9)), (9, .inl (o_get 2 0 12)), (12, .inl (o_get 1 0 15)), (15, .inl (o_get 9 4 18)), (18, .inl (o_icmp_ge 57 21)), (21, .inl (o_pushI (nI 0) 22)), (22, .inl (o_istore 2 23)), (23, .inl (o_iload 2 24)), (24, .inl (o_aload 0 25)), (25, .inl (o_get 2 0 28)), (28, .inl (o_get 1 1 31)), (31, .inl (o_get 5 0 34)), (34, .inl (o_iload 1 35)), (35, .inl (o_iald 36)), (36, .inl (o_icmp_ge 51 39)), (39, .inl (o_aload 0 40)), (40, .inl (o_iload 1 41)), (41, .inl (o_iload 2 42)), (42, .inl (o_callV fX2_weighChanges 2 2 45)), (45, .inl (o_iinc 2 (nI 1) 48)), (48, .inl (o_goto 23)), (51, .inl (o_iinc 1 (nI 1) 54)), (54, .inl (o_goto 7)), (57, .inl (o_aload 0 58)), (58, .inl (o_get 2 5 61)), (61, .inl (o_if_ne 66 64)), (64, .inl (o_pushI (nI 0) 65)), (65, .inr 1), (66, .inl (o_aload 0 67)), (67, .inl (o_get 2 0 70)), (70, .inl (o_get 1 1 73)), (73, .inl (o_aload 0 74)), (74, .inl (o_get 2 6 77)), (77, .inl (o_aload 0 78))]
def lX2_changeBest_1 : List (Nat × (Op ⊕ Nat)) := [(78, .inl (o_get 2 7 81)), (81, .inl (o_callV fX5_throwsAt 2 5 84)), (84, .inl (o_istore 1 85)), (85, .inl (o_aload 0 86)), (86, .inl (o_get 2 0 89)), (89, .inl (o_get 1 1 92)), (92, .inl (o_aload 0 93)), (93, .inl (o_get 2 6 96)), (96, .inl (o_aload 0 97)), (97, .inl (o_get 2 7 100)), (100, .inl (o_aload 0 101)), (101, .inl (o_get 2 8 104)), (104, .inl (o_iload 1 105)), (105, .inl (o_callV fX5_change 4 5 108)), (108, .inl (o_pushI (nI 1) 109)), (109, .inr 1)]
def lX2_changeBest : List (Nat × (Op ⊕ Nat)) := lX2_changeBest_0 ++ (lX2_changeBest_1)
theorem qX2_changeBest : yX2_changeBest.cls = RX2 ∧ yX2_changeBest.cls ≠ "java/lang/invoke/MethodHandle" ∧ yX2_changeBest.cls ≠ "java/lang/invoke/VarHandle" ∧ (parseMethodDescriptor yX2_changeBest.desc).map (fun d => d.parameters.length) = some 0 := by decide +kernel
set_option maxRecDepth 10000 in
theorem hX2_changeBest_0 (l : Launch) {p : Program} {e : Env} {s : State} {m : MethodId} {args : Array Value} {below : List Frame} {meth : Method} {c : Code} {D : va_G} {ad adV : Nat → Nat} {cA : Nat → ClassId} {K : Kt} (C0 : Cx p s m args meth c D ad adV cA cX2_changeBest 3 RX2) (hr : meth.sig.returnType = (some .boolean)) : ∀ q ∈ lX2_changeBest_0, Sd p l e (rmd 6) s m args below meth c (MQ below (QQ D ad cA K) args s 0 0 (AA ad)) D ad cA 3 q.1 (opOf K q.2) := List.forall_mem_cons.mpr ⟨s_aload_n C0 dX2_changeBest_0 rfl, List.forall_mem_cons.mpr ⟨s_iconst C0 dX2_changeBest_1 rfl, List.forall_mem_cons.mpr ⟨s_putI (ci := 2) (k := 5) C0 dX2_changeBest_2 inX2 tyX2_ok nmX2 rfl (by decide) rfl rfl tw2_36, List.forall_mem_cons.mpr ⟨s_iconst C0 dX2_changeBest_5 rfl, List.forall_mem_cons.mpr ⟨s_istore_n C0 dX2_changeBest_6 rfl (by decide), List.forall_mem_cons.mpr ⟨s_iload_n C0 dX2_changeBest_7 rfl, List.forall_mem_cons.mpr ⟨s_aload_n C0 dX2_changeBest_8 rfl, List.forall_mem_cons.mpr ⟨s_get (ci := 2) (k := 0) C0 dX2_changeBest_9 inX2 rfl (by decide) tw2_28, List.forall_mem_cons.mpr ⟨s_get (ci := 1) (k := 0) C0 dX2_changeBest_12 inX1 rfl (by decide) tw1_192, List.forall_mem_cons.mpr ⟨s_get (ci := 9) (k := 4) C0 dX2_changeBest_15 inX9 rfl (by decide) tw1_96, List.forall_mem_cons.mpr ⟨s_icmp_ge C0 dX2_changeBest_18 rfl, List.forall_mem_cons.mpr ⟨s_iconst C0 dX2_changeBest_21 rfl, List.forall_mem_cons.mpr ⟨s_istore_n C0 dX2_changeBest_22 rfl (by decide), List.forall_mem_cons.mpr ⟨s_iload_n C0 dX2_changeBest_23 rfl, List.forall_mem_cons.mpr ⟨s_aload_n C0 dX2_changeBest_24 rfl, List.forall_mem_cons.mpr ⟨s_get (ci := 2) (k := 0) C0 dX2_changeBest_25 inX2 rfl (by decide) tw2_28, List.forall_mem_cons.mpr ⟨s_get (ci := 1) (k := 1) C0 dX2_changeBest_28 inX1 rfl (by decide) tw1_198, List.forall_mem_cons.mpr ⟨s_get (ci := 5) (k := 0) C0 dX2_changeBest_31 inX5 rfl (by decide) tw1_168, List.forall_mem_cons.mpr ⟨s_iload_n C0 dX2_changeBest_34 rfl, List.forall_mem_cons.mpr ⟨s_iald C0 dX2_changeBest_35, List.forall_mem_cons.mpr ⟨s_icmp_ge C0 dX2_changeBest_36 rfl, List.forall_mem_cons.mpr ⟨s_aload_n C0 dX2_changeBest_39 rfl, List.forall_mem_cons.mpr ⟨s_iload_n C0 dX2_changeBest_40 rfl, List.forall_mem_cons.mpr ⟨s_iload_n C0 dX2_changeBest_41 rfl, List.forall_mem_cons.mpr ⟨s_callV (ci := 2) C0 (kX2_weighChanges l) dX2_changeBest_42 rfl qX2_weighChanges tw5_91 tw5_93 twp_37 tw1_9 tw5_94 rfl (by decide) (by decide), List.forall_mem_cons.mpr ⟨s_iinc C0 dX2_changeBest_45 rfl (by decide), List.forall_mem_cons.mpr ⟨s_goto C0 dX2_changeBest_48 rfl, List.forall_mem_cons.mpr ⟨s_iinc C0 dX2_changeBest_51 rfl (by decide), List.forall_mem_cons.mpr ⟨s_goto C0 dX2_changeBest_54 rfl, List.forall_mem_cons.mpr ⟨s_aload_n C0 dX2_changeBest_57 rfl, List.forall_mem_cons.mpr ⟨s_get (ci := 2) (k := 5) C0 dX2_changeBest_58 inX2 rfl (by decide) tw2_36, List.forall_mem_cons.mpr ⟨s_if_ne C0 dX2_changeBest_61 rfl, List.forall_mem_cons.mpr ⟨s_iconst C0 dX2_changeBest_64 rfl, List.forall_mem_cons.mpr ⟨s_zret C0 hr dX2_changeBest_65, List.forall_mem_cons.mpr ⟨s_aload_n C0 dX2_changeBest_66 rfl, List.forall_mem_cons.mpr ⟨s_get (ci := 2) (k := 0) C0 dX2_changeBest_67 inX2 rfl (by decide) tw2_28, List.forall_mem_cons.mpr ⟨s_get (ci := 1) (k := 1) C0 dX2_changeBest_70 inX1 rfl (by decide) tw1_198, List.forall_mem_cons.mpr ⟨s_aload_n C0 dX2_changeBest_73 rfl, List.forall_mem_cons.mpr ⟨s_get (ci := 2) (k := 6) C0 dX2_changeBest_74 inX2 rfl (by decide) tw2_37, List.forall_mem_cons.mpr ⟨s_aload_n C0 dX2_changeBest_77 rfl, fun _ h => absurd h List.not_mem_nil⟩⟩⟩⟩⟩⟩⟩⟩⟩⟩⟩⟩⟩⟩⟩⟩⟩⟩⟩⟩⟩⟩⟩⟩⟩⟩⟩⟩⟩⟩⟩⟩⟩⟩⟩⟩⟩⟩⟩⟩
set_option maxRecDepth 10000 in
theorem hX2_changeBest_1 (l : Launch) {p : Program} {e : Env} {s : State} {m : MethodId} {args : Array Value} {below : List Frame} {meth : Method} {c : Code} {D : va_G} {ad adV : Nat → Nat} {cA : Nat → ClassId} {K : Kt} (C0 : Cx p s m args meth c D ad adV cA cX2_changeBest 3 RX2) (hr : meth.sig.returnType = (some .boolean)) : ∀ q ∈ lX2_changeBest_1, Sd p l e (rmd 6) s m args below meth c (MQ below (QQ D ad cA K) args s 0 0 (AA ad)) D ad cA 3 q.1 (opOf K q.2) := List.forall_mem_cons.mpr ⟨s_get (ci := 2) (k := 7) C0 dX2_changeBest_78 inX2 rfl (by decide) tw2_38, List.forall_mem_cons.mpr ⟨s_callV (ci := 5) C0 (kX5_throwsAt l) dX2_changeBest_81 rfl qX5_throwsAt tw5_95 tw3_132 tw3_133 tw1_5 tw3_134 rfl (by decide) (by decide), List.forall_mem_cons.mpr ⟨s_istore_n C0 dX2_changeBest_84 rfl (by decide), List.forall_mem_cons.mpr ⟨s_aload_n C0 dX2_changeBest_85 rfl, List.forall_mem_cons.mpr ⟨s_get (ci := 2) (k := 0) C0 dX2_changeBest_86 inX2 rfl (by decide) tw2_28, List.forall_mem_cons.mpr ⟨s_get (ci := 1) (k := 1) C0 dX2_changeBest_89 inX1 rfl (by decide) tw1_198, List.forall_mem_cons.mpr ⟨s_aload_n C0 dX2_changeBest_92 rfl, List.forall_mem_cons.mpr ⟨s_get (ci := 2) (k := 6) C0 dX2_changeBest_93 inX2 rfl (by decide) tw2_37, List.forall_mem_cons.mpr ⟨s_aload_n C0 dX2_changeBest_96 rfl, List.forall_mem_cons.mpr ⟨s_get (ci := 2) (k := 7) C0 dX2_changeBest_97 inX2 rfl (by decide) tw2_38, List.forall_mem_cons.mpr ⟨s_aload_n C0 dX2_changeBest_100 rfl, List.forall_mem_cons.mpr ⟨s_get (ci := 2) (k := 8) C0 dX2_changeBest_101 inX2 rfl (by decide) tw2_39, List.forall_mem_cons.mpr ⟨s_iload_n C0 dX2_changeBest_104 rfl, List.forall_mem_cons.mpr ⟨s_callV (ci := 5) C0 (kX5_change l) dX2_changeBest_105 rfl qX5_change tw5_98 tw5_67 tw5_68 tw1_5 tw5_69 rfl (by decide) (by decide), List.forall_mem_cons.mpr ⟨s_iconst C0 dX2_changeBest_108 rfl, List.forall_mem_cons.mpr ⟨s_zret C0 hr dX2_changeBest_109, fun _ h => absurd h List.not_mem_nil⟩⟩⟩⟩⟩⟩⟩⟩⟩⟩⟩⟩⟩⟩⟩⟩
def fX2_changeBest : Mf := mf 3 (fun K => tl K lX2_changeBest)
theorem kX2_changeBest (l : Launch) : Okm l yX2_changeBest cX2_changeBest 3 (some .boolean) 6 fX2_changeBest := Okm_tl (own := RX2) (by decide +kernel) rfl (fun C0 hr => List.forall_mem_append.mpr ⟨hX2_changeBest_0 l C0 hr, hX2_changeBest_1 l C0 hr⟩)
theorem dX3_allowsAt_0 : decode cX3_allowsAt 0 = .ok (.aload_n 0, 1) := by decide +kernel
theorem dX3_allowsAt_1 : decode cX3_allowsAt 1 = .ok (.aload_n 0, 1) := by decide +kernel
theorem dX3_allowsAt_2 : decode cX3_allowsAt 2 = .ok (.getfield 19, 3) := by decide +kernel
theorem dX3_allowsAt_5 : decode cX3_allowsAt 5 = .ok (.getfield 23, 3) := by decide +kernel
theorem dX3_allowsAt_8 : decode cX3_allowsAt 8 = .ok (.iload_n 1, 1) := by decide +kernel
theorem dX3_allowsAt_9 : decode cX3_allowsAt 9 = .ok (.iload_n 2, 1) := by decide +kernel
theorem dX3_allowsAt_10 : decode cX3_allowsAt 10 = .ok (.invokevirtual 43, 3) := by decide +kernel
theorem dX3_allowsAt_13 : decode cX3_allowsAt 13 = .ok (.iload_n 1, 1) := by decide +kernel
theorem dX3_allowsAt_14 : decode cX3_allowsAt 14 = .ok (.aload_n 0, 1) := by decide +kernel
theorem dX3_allowsAt_15 : decode cX3_allowsAt 15 = .ok (.getfield 19, 3) := by decide +kernel
theorem dX3_allowsAt_18 : decode cX3_allowsAt 18 = .ok (.getfield 23, 3) := by decide +kernel
theorem dX3_allowsAt_21 : decode cX3_allowsAt 21 = .ok (.iload_n 1, 1) := by decide +kernel
theorem dX3_allowsAt_22 : decode cX3_allowsAt 22 = .ok (.iload_n 2, 1) := by decide +kernel
theorem dX3_allowsAt_23 : decode cX3_allowsAt 23 = .ok (.invokevirtual 46, 3) := by decide +kernel
theorem dX3_allowsAt_26 : decode cX3_allowsAt 26 = .ok (.invokevirtual 49, 3) := by decide +kernel
theorem dX3_allowsAt_29 : decode cX3_allowsAt 29 = .ok (.ireturn, 1) := by decide +kernel
def lX3_allowsAt : List (Nat × (Op ⊕ Nat)) := [(0, .inl (o_aload 0 1)), (1, .inl (o_aload 0 2)), (2, .inl (o_get 3 0 5)), (5, .inl (o_get 1 1 8)), (8, .inl (o_iload 1 9)), (9, .inl (o_iload 2 10)), (10, .inl (o_callV fX5_armAt 2 5 13)), (13, .inl (o_iload 1 14)), (14, .inl (o_aload 0 15)), (15, .inl (o_get 3 0 18)), (18, .inl (o_get 1 1 21)), (21, .inl (o_iload 1 22)), (22, .inl (o_iload 2 23)), (23, .inl (o_callV fX5_throwsAt 2 5 26)), (26, .inl (o_callV fX3_allowsIn 3 3 29)), (29, .inr 1)]
theorem qX3_allowsAt : yX3_allowsAt.cls = RX3 ∧ yX3_allowsAt.cls ≠ "java/lang/invoke/MethodHandle" ∧ yX3_allowsAt.cls ≠ "java/lang/invoke/VarHandle" ∧ (parseMethodDescriptor yX3_allowsAt.desc).map (fun d => d.parameters.length) = some 2 := by decide +kernel
set_option maxRecDepth 10000 in
theorem hX3_allowsAt_0 (l : Launch) {p : Program} {e : Env} {s : State} {m : MethodId} {args : Array Value} {below : List Frame} {meth : Method} {c : Code} {D : va_G} {ad adV : Nat → Nat} {cA : Nat → ClassId} {K : Kt} (C0 : Cx p s m args meth c D ad adV cA cX3_allowsAt 3 RX3) (hr : meth.sig.returnType = (some .boolean)) : ∀ q ∈ lX3_allowsAt, Sd p l e (rmd 5) s m args below meth c (MQ below (QQ D ad cA K) args s 0 0 (AA ad)) D ad cA 3 q.1 (opOf K q.2) := List.forall_mem_cons.mpr ⟨s_aload_n C0 dX3_allowsAt_0 rfl, List.forall_mem_cons.mpr ⟨s_aload_n C0 dX3_allowsAt_1 rfl, List.forall_mem_cons.mpr ⟨s_get (ci := 3) (k := 0) C0 dX3_allowsAt_2 inX3 rfl (by decide) tw1_210, List.forall_mem_cons.mpr ⟨s_get (ci := 1) (k := 1) C0 dX3_allowsAt_5 inX1 rfl (by decide) tw1_196, List.forall_mem_cons.mpr ⟨s_iload_n C0 dX3_allowsAt_8 rfl, List.forall_mem_cons.mpr ⟨s_iload_n C0 dX3_allowsAt_9 rfl, List.forall_mem_cons.mpr ⟨s_callV (ci := 5) C0 (kX5_armAt l) dX3_allowsAt_10 rfl qX5_armAt tw4_35 tw3_128 tw3_129 tw1_5 tw3_130 rfl (by decide) (by decide), List.forall_mem_cons.mpr ⟨s_iload_n C0 dX3_allowsAt_13 rfl, List.forall_mem_cons.mpr ⟨s_aload_n C0 dX3_allowsAt_14 rfl, List.forall_mem_cons.mpr ⟨s_get (ci := 3) (k := 0) C0 dX3_allowsAt_15 inX3 rfl (by decide) tw1_210, List.forall_mem_cons.mpr ⟨s_get (ci := 1) (k := 1) C0 dX3_allowsAt_18 inX1 rfl (by decide) tw1_196, List.forall_mem_cons.mpr ⟨s_iload_n C0 dX3_allowsAt_21 rfl, List.forall_mem_cons.mpr ⟨s_iload_n C0 dX3_allowsAt_22 rfl, List.forall_mem_cons.mpr ⟨s_callV (ci := 5) C0 (kX5_throwsAt l) dX3_allowsAt_23 rfl qX5_throwsAt tw4_36 tw3_132 tw3_133 tw1_5 tw3_134 rfl (by decide) (by decide), List.forall_mem_cons.mpr ⟨s_callV (ci := 3) C0 (kX3_allowsIn l) dX3_allowsAt_26 rfl qX3_allowsIn tw4_37 tw4_38 tw4_39 tw1_7 tw4_40 rfl (by decide) (by decide), List.forall_mem_cons.mpr ⟨s_zret C0 hr dX3_allowsAt_29, fun _ h => absurd h List.not_mem_nil⟩⟩⟩⟩⟩⟩⟩⟩⟩⟩⟩⟩⟩⟩⟩⟩
def fX3_allowsAt : Mf := mf 3 (fun K => tl K lX3_allowsAt)
theorem kX3_allowsAt (l : Launch) : Okm l yX3_allowsAt cX3_allowsAt 3 (some .boolean) 5 fX3_allowsAt := Okm_tl (own := RX3) (by decide +kernel) rfl (fun C0 hr => hX3_allowsAt_0 l C0 hr)
theorem dX3_allowsMoved_0 : decode cX3_allowsMoved 0 = .ok (.aload_n 0, 1) := by decide +kernel
theorem dX3_allowsMoved_1 : decode cX3_allowsMoved 1 = .ok (.iload_n 1, 1) := by decide +kernel
theorem dX3_allowsMoved_2 : decode cX3_allowsMoved 2 = .ok (.invokevirtual 35, 3) := by decide +kernel
theorem dX3_allowsMoved_5 : decode cX3_allowsMoved 5 = .ok (.aload_n 0, 1) := by decide +kernel
theorem dX3_allowsMoved_6 : decode cX3_allowsMoved 6 = .ok (.iload_n 2, 1) := by decide +kernel
theorem dX3_allowsMoved_7 : decode cX3_allowsMoved 7 = .ok (.iconst 0, 1) := by decide +kernel
theorem dX3_allowsMoved_8 : decode cX3_allowsMoved 8 = .ok (.invokevirtual 53, 3) := by decide +kernel
theorem dX3_allowsMoved_11 : decode cX3_allowsMoved 11 = .ok (.aload_n 0, 1) := by decide +kernel
theorem dX3_allowsMoved_12 : decode cX3_allowsMoved 12 = .ok (.iload_n 3, 1) := by decide +kernel
theorem dX3_allowsMoved_13 : decode cX3_allowsMoved 13 = .ok (.iload 4, 2) := by decide +kernel
theorem dX3_allowsMoved_15 : decode cX3_allowsMoved 15 = .ok (.invokevirtual 39, 3) := by decide +kernel
theorem dX3_allowsMoved_18 : decode cX3_allowsMoved 18 = .ok (.ifCond .ne 7, 3) := by decide +kernel
theorem dX3_allowsMoved_21 : decode cX3_allowsMoved 21 = .ok (.iconst 1, 1) := by decide +kernel
theorem dX3_allowsMoved_22 : decode cX3_allowsMoved 22 = .ok (.goto 4, 3) := by decide +kernel
theorem dX3_allowsMoved_25 : decode cX3_allowsMoved 25 = .ok (.iconst 0, 1) := by decide +kernel
theorem dX3_allowsMoved_26 : decode cX3_allowsMoved 26 = .ok (.ireturn, 1) := by decide +kernel
def lX3_allowsMoved : List (Nat × (Op ⊕ Nat)) := [(0, .inl (o_aload 0 1)), (1, .inl (o_iload 1 2)), (2, .inl (o_callV fX3_open 1 3 5)), (5, .inl (o_aload 0 6)), (6, .inl (o_iload 2 7)), (7, .inl (o_pushI (nI 0) 8)), (8, .inl (o_callV fX3_write 2 3 11)), (11, .inl (o_aload 0 12)), (12, .inl (o_iload 3 13)), (13, .inl (o_iload 4 15)), (15, .inl (o_callV fX3_clashes 2 3 18)), (18, .inl (o_if_ne 25 21)), (21, .inl (o_pushI (nI 1) 22)), (22, .inl (o_goto 26)), (25, .inl (o_pushI (nI 0) 26)), (26, .inr 1)]
theorem qX3_allowsMoved : yX3_allowsMoved.cls = RX3 ∧ yX3_allowsMoved.cls ≠ "java/lang/invoke/MethodHandle" ∧ yX3_allowsMoved.cls ≠ "java/lang/invoke/VarHandle" ∧ (parseMethodDescriptor yX3_allowsMoved.desc).map (fun d => d.parameters.length) = some 4 := by decide +kernel
set_option maxRecDepth 10000 in
theorem hX3_allowsMoved_0 (l : Launch) {p : Program} {e : Env} {s : State} {m : MethodId} {args : Array Value} {below : List Frame} {meth : Method} {c : Code} {D : va_G} {ad adV : Nat → Nat} {cA : Nat → ClassId} {K : Kt} (C0 : Cx p s m args meth c D ad adV cA cX3_allowsMoved 5 RX3) (hr : meth.sig.returnType = (some .boolean)) : ∀ q ∈ lX3_allowsMoved, Sd p l e (rmd 4) s m args below meth c (MQ below (QQ D ad cA K) args s 0 0 (AA ad)) D ad cA 5 q.1 (opOf K q.2) := List.forall_mem_cons.mpr ⟨s_aload_n C0 dX3_allowsMoved_0 rfl, List.forall_mem_cons.mpr ⟨s_iload_n C0 dX3_allowsMoved_1 rfl, List.forall_mem_cons.mpr ⟨s_callV (ci := 3) C0 (kX3_open l) dX3_allowsMoved_2 rfl qX3_open tw4_41 tw4_42 tw4_43 tw1_7 tw4_44 rfl (by decide) (by decide), List.forall_mem_cons.mpr ⟨s_aload_n C0 dX3_allowsMoved_5 rfl, List.forall_mem_cons.mpr ⟨s_iload_n C0 dX3_allowsMoved_6 rfl, List.forall_mem_cons.mpr ⟨s_iconst C0 dX3_allowsMoved_7 rfl, List.forall_mem_cons.mpr ⟨s_callV (ci := 3) C0 (kX3_write l) dX3_allowsMoved_8 rfl qX3_write tw5_82 tw4_154 tw4_155 tw1_7 tw4_156 rfl (by decide) (by decide), List.forall_mem_cons.mpr ⟨s_aload_n C0 dX3_allowsMoved_11 rfl, List.forall_mem_cons.mpr ⟨s_iload_n C0 dX3_allowsMoved_12 rfl, List.forall_mem_cons.mpr ⟨s_iload C0 dX3_allowsMoved_13, List.forall_mem_cons.mpr ⟨s_callV (ci := 3) C0 (kX3_clashes l) dX3_allowsMoved_15 rfl qX3_clashes tw4_50 tw4_51 tw4_52 tw1_7 tw4_53 rfl (by decide) (by decide), List.forall_mem_cons.mpr ⟨s_if_ne C0 dX3_allowsMoved_18 rfl, List.forall_mem_cons.mpr ⟨s_iconst C0 dX3_allowsMoved_21 rfl, List.forall_mem_cons.mpr ⟨s_goto C0 dX3_allowsMoved_22 rfl, List.forall_mem_cons.mpr ⟨s_iconst C0 dX3_allowsMoved_25 rfl, List.forall_mem_cons.mpr ⟨s_zret C0 hr dX3_allowsMoved_26, fun _ h => absurd h List.not_mem_nil⟩⟩⟩⟩⟩⟩⟩⟩⟩⟩⟩⟩⟩⟩⟩⟩
def fX3_allowsMoved : Mf := mf 5 (fun K => tl K lX3_allowsMoved)
theorem kX3_allowsMoved (l : Launch) : Okm l yX3_allowsMoved cX3_allowsMoved 5 (some .boolean) 4 fX3_allowsMoved := Okm_tl (own := RX3) (by decide +kernel) rfl (fun C0 hr => hX3_allowsMoved_0 l C0 hr)
theorem dX9_saveTo_0 : decode cX9_saveTo 0 = .ok (.aload_n 0, 1) := by decide +kernel
theorem dX9_saveTo_1 : decode cX9_saveTo 1 = .ok (.getfield 23, 3) := by decide +kernel
theorem dX9_saveTo_4 : decode cX9_saveTo 4 = .ok (.iconst 0, 1) := by decide +kernel
theorem dX9_saveTo_5 : decode cX9_saveTo 5 = .ok (.aload_n 1, 1) := by decide +kernel
theorem dX9_saveTo_6 : decode cX9_saveTo 6 = .ok (.iload_n 2, 1) := by decide +kernel
theorem dX9_saveTo_7 : decode cX9_saveTo 7 = .ok (.bipush 32, 2) := by decide +kernel
theorem dX9_saveTo_9 : decode cX9_saveTo 9 = .ok (.invokestatic 47, 3) := by decide +kernel
theorem dX9_saveTo_12 : decode cX9_saveTo 12 = .ok (.aload_n 0, 1) := by decide +kernel
theorem dX9_saveTo_13 : decode cX9_saveTo 13 = .ok (.getfield 32, 3) := by decide +kernel
theorem dX9_saveTo_16 : decode cX9_saveTo 16 = .ok (.iconst 0, 1) := by decide +kernel
theorem dX9_saveTo_17 : decode cX9_saveTo 17 = .ok (.aload_n 1, 1) := by decide +kernel
theorem dX9_saveTo_18 : decode cX9_saveTo 18 = .ok (.iload_n 2, 1) := by decide +kernel
theorem dX9_saveTo_19 : decode cX9_saveTo 19 = .ok (.bipush 32, 2) := by decide +kernel
theorem dX9_saveTo_21 : decode cX9_saveTo 21 = .ok (.iadd, 1) := by decide +kernel
theorem dX9_saveTo_22 : decode cX9_saveTo 22 = .ok (.iconst 3, 1) := by decide +kernel
theorem dX9_saveTo_23 : decode cX9_saveTo 23 = .ok (.invokestatic 47, 3) := by decide +kernel
theorem dX9_saveTo_26 : decode cX9_saveTo 26 = .ok (.aload_n 0, 1) := by decide +kernel
theorem dX9_saveTo_27 : decode cX9_saveTo 27 = .ok (.getfield 41, 3) := by decide +kernel
theorem dX9_saveTo_30 : decode cX9_saveTo 30 = .ok (.iconst 0, 1) := by decide +kernel
theorem dX9_saveTo_31 : decode cX9_saveTo 31 = .ok (.aload_n 1, 1) := by decide +kernel
theorem dX9_saveTo_32 : decode cX9_saveTo 32 = .ok (.iload_n 2, 1) := by decide +kernel
theorem dX9_saveTo_33 : decode cX9_saveTo 33 = .ok (.bipush 32, 2) := by decide +kernel
theorem dX9_saveTo_35 : decode cX9_saveTo 35 = .ok (.iadd, 1) := by decide +kernel
theorem dX9_saveTo_36 : decode cX9_saveTo 36 = .ok (.iconst 3, 1) := by decide +kernel
theorem dX9_saveTo_37 : decode cX9_saveTo 37 = .ok (.iadd, 1) := by decide +kernel
theorem dX9_saveTo_38 : decode cX9_saveTo 38 = .ok (.iconst 5, 1) := by decide +kernel
theorem dX9_saveTo_39 : decode cX9_saveTo 39 = .ok (.invokestatic 47, 3) := by decide +kernel
theorem dX9_saveTo_42 : decode cX9_saveTo 42 = .ok (.return_, 1) := by decide +kernel
def lX9_saveTo : List (Nat × (Op ⊕ Nat)) := [(0, .inl (o_aload 0 1)), (1, .inl (o_get 9 3 4)), (4, .inl (o_pushI (nI 0) 5)), (5, .inl (o_aload 1 6)), (6, .inl (o_iload 2 7)), (7, .inl (o_pushI (nI 32) 9)), (9, .inl (o_copyI 12)), (12, .inl (o_aload 0 13)), (13, .inl (o_get 9 6 16)), (16, .inl (o_pushI (nI 0) 17)), (17, .inl (o_aload 1 18)), (18, .inl (o_iload 2 19)), (19, .inl (o_pushI (nI 32) 21)), (21, .inl (o_iadd 22)), (22, .inl (o_pushI (nI 3) 23)), (23, .inl (o_copyI 26)), (26, .inl (o_aload 0 27)), (27, .inl (o_get 9 9 30)), (30, .inl (o_pushI (nI 0) 31)), (31, .inl (o_aload 1 32)), (32, .inl (o_iload 2 33)), (33, .inl (o_pushI (nI 32) 35)), (35, .inl (o_iadd 36)), (36, .inl (o_pushI (nI 3) 37)), (37, .inl (o_iadd 38)), (38, .inl (o_pushI (nI 5) 39)), (39, .inl (o_copyI 42)), (42, .inr 3)]
theorem qX9_saveTo : yX9_saveTo.cls = RX9 ∧ yX9_saveTo.cls ≠ "java/lang/invoke/MethodHandle" ∧ yX9_saveTo.cls ≠ "java/lang/invoke/VarHandle" ∧ (parseMethodDescriptor yX9_saveTo.desc).map (fun d => d.parameters.length) = some 2 := by decide +kernel
set_option maxRecDepth 10000 in
theorem hX9_saveTo_0 (l : Launch) {p : Program} {e : Env} {s : State} {m : MethodId} {args : Array Value} {below : List Frame} {meth : Method} {c : Code} {D : va_G} {ad adV : Nat → Nat} {cA : Nat → ClassId} {K : Kt} (C0 : Cx p s m args meth c D ad adV cA cX9_saveTo 3 RX9) (hr : meth.sig.returnType = none) : ∀ q ∈ lX9_saveTo, Sd p l e (rmd 1) s m args below meth c (MQ below (QQ D ad cA K) args s 0 0 (AA ad)) D ad cA 3 q.1 (opOf K q.2) := List.forall_mem_cons.mpr ⟨s_aload_n C0 dX9_saveTo_0 rfl, List.forall_mem_cons.mpr ⟨s_get (ci := 9) (k := 3) C0 dX9_saveTo_1 inX9 rfl (by decide) tw1_91, List.forall_mem_cons.mpr ⟨s_iconst C0 dX9_saveTo_4 rfl, List.forall_mem_cons.mpr ⟨s_aload_n C0 dX9_saveTo_5 rfl, List.forall_mem_cons.mpr ⟨s_iload_n C0 dX9_saveTo_6 rfl, List.forall_mem_cons.mpr ⟨s_bipush C0 dX9_saveTo_7 (by decide +kernel), List.forall_mem_cons.mpr ⟨s_copyI C0 dX9_saveTo_9 tw2_187 tw2_189 tw2_188 tw1_13 rfl (by decide), List.forall_mem_cons.mpr ⟨s_aload_n C0 dX9_saveTo_12 rfl, List.forall_mem_cons.mpr ⟨s_get (ci := 9) (k := 6) C0 dX9_saveTo_13 inX9 rfl (by decide) tw1_101, List.forall_mem_cons.mpr ⟨s_iconst C0 dX9_saveTo_16 rfl, List.forall_mem_cons.mpr ⟨s_aload_n C0 dX9_saveTo_17 rfl, List.forall_mem_cons.mpr ⟨s_iload_n C0 dX9_saveTo_18 rfl, List.forall_mem_cons.mpr ⟨s_bipush C0 dX9_saveTo_19 (by decide +kernel), List.forall_mem_cons.mpr ⟨s_iadd C0 dX9_saveTo_21, List.forall_mem_cons.mpr ⟨s_iconst C0 dX9_saveTo_22 rfl, List.forall_mem_cons.mpr ⟨s_copyI C0 dX9_saveTo_23 tw2_187 tw2_189 tw2_188 tw1_13 rfl (by decide), List.forall_mem_cons.mpr ⟨s_aload_n C0 dX9_saveTo_26 rfl, List.forall_mem_cons.mpr ⟨s_get (ci := 9) (k := 9) C0 dX9_saveTo_27 inX9 rfl (by decide) tw1_112, List.forall_mem_cons.mpr ⟨s_iconst C0 dX9_saveTo_30 rfl, List.forall_mem_cons.mpr ⟨s_aload_n C0 dX9_saveTo_31 rfl, List.forall_mem_cons.mpr ⟨s_iload_n C0 dX9_saveTo_32 rfl, List.forall_mem_cons.mpr ⟨s_bipush C0 dX9_saveTo_33 (by decide +kernel), List.forall_mem_cons.mpr ⟨s_iadd C0 dX9_saveTo_35, List.forall_mem_cons.mpr ⟨s_iconst C0 dX9_saveTo_36 rfl, List.forall_mem_cons.mpr ⟨s_iadd C0 dX9_saveTo_37, List.forall_mem_cons.mpr ⟨s_iconst C0 dX9_saveTo_38 rfl, List.forall_mem_cons.mpr ⟨s_copyI C0 dX9_saveTo_39 tw2_187 tw2_189 tw2_188 tw1_13 rfl (by decide), List.forall_mem_cons.mpr ⟨s_vret C0 hr dX9_saveTo_42, fun _ h => absurd h List.not_mem_nil⟩⟩⟩⟩⟩⟩⟩⟩⟩⟩⟩⟩⟩⟩⟩⟩⟩⟩⟩⟩⟩⟩⟩⟩⟩⟩⟩⟩
def fX9_saveTo : Mf := mf 3 (fun K => tl K lX9_saveTo)
theorem kX9_saveTo (l : Launch) : Okm l yX9_saveTo cX9_saveTo 3 none 1 fX9_saveTo := Okm_tl (own := RX9) (by decide +kernel) rfl (fun C0 hr => hX9_saveTo_0 l C0 hr)
theorem dX5_saveTo_0 : decode cX5_saveTo 0 = .ok (.aload_n 0, 1) := by decide +kernel
theorem dX5_saveTo_1 : decode cX5_saveTo 1 = .ok (.getfield 9, 3) := by decide +kernel
theorem dX5_saveTo_4 : decode cX5_saveTo 4 = .ok (.iconst 0, 1) := by decide +kernel
theorem dX5_saveTo_5 : decode cX5_saveTo 5 = .ok (.aload_n 1, 1) := by decide +kernel
theorem dX5_saveTo_6 : decode cX5_saveTo 6 = .ok (.iload_n 2, 1) := by decide +kernel
theorem dX5_saveTo_7 : decode cX5_saveTo 7 = .ok (.bipush 20, 2) := by decide +kernel
theorem dX5_saveTo_9 : decode cX5_saveTo 9 = .ok (.invokestatic 28, 3) := by decide +kernel
theorem dX5_saveTo_12 : decode cX5_saveTo 12 = .ok (.aload_n 0, 1) := by decide +kernel
theorem dX5_saveTo_13 : decode cX5_saveTo 13 = .ok (.getfield 15, 3) := by decide +kernel
theorem dX5_saveTo_16 : decode cX5_saveTo 16 = .ok (.iconst 0, 1) := by decide +kernel
theorem dX5_saveTo_17 : decode cX5_saveTo 17 = .ok (.aload_n 1, 1) := by decide +kernel
theorem dX5_saveTo_18 : decode cX5_saveTo 18 = .ok (.iload_n 2, 1) := by decide +kernel
theorem dX5_saveTo_19 : decode cX5_saveTo 19 = .ok (.bipush 20, 2) := by decide +kernel
theorem dX5_saveTo_21 : decode cX5_saveTo 21 = .ok (.iadd, 1) := by decide +kernel
theorem dX5_saveTo_22 : decode cX5_saveTo 22 = .ok (.bipush 60, 2) := by decide +kernel
theorem dX5_saveTo_24 : decode cX5_saveTo 24 = .ok (.invokestatic 28, 3) := by decide +kernel
theorem dX5_saveTo_27 : decode cX5_saveTo 27 = .ok (.aload_n 0, 1) := by decide +kernel
theorem dX5_saveTo_28 : decode cX5_saveTo 28 = .ok (.getfield 18, 3) := by decide +kernel
theorem dX5_saveTo_31 : decode cX5_saveTo 31 = .ok (.iconst 0, 1) := by decide +kernel
theorem dX5_saveTo_32 : decode cX5_saveTo 32 = .ok (.aload_n 1, 1) := by decide +kernel
theorem dX5_saveTo_33 : decode cX5_saveTo 33 = .ok (.iload_n 2, 1) := by decide +kernel
theorem dX5_saveTo_34 : decode cX5_saveTo 34 = .ok (.bipush 20, 2) := by decide +kernel
theorem dX5_saveTo_36 : decode cX5_saveTo 36 = .ok (.iadd, 1) := by decide +kernel
theorem dX5_saveTo_37 : decode cX5_saveTo 37 = .ok (.bipush 60, 2) := by decide +kernel
theorem dX5_saveTo_39 : decode cX5_saveTo 39 = .ok (.iadd, 1) := by decide +kernel
theorem dX5_saveTo_40 : decode cX5_saveTo 40 = .ok (.bipush 60, 2) := by decide +kernel
theorem dX5_saveTo_42 : decode cX5_saveTo 42 = .ok (.invokestatic 28, 3) := by decide +kernel
theorem dX5_saveTo_45 : decode cX5_saveTo 45 = .ok (.return_, 1) := by decide +kernel
def lX5_saveTo : List (Nat × (Op ⊕ Nat)) := [(0, .inl (o_aload 0 1)), (1, .inl (o_get 5 0 4)), (4, .inl (o_pushI (nI 0) 5)), (5, .inl (o_aload 1 6)), (6, .inl (o_iload 2 7)), (7, .inl (o_pushI (nI 20) 9)), (9, .inl (o_copyI 12)), (12, .inl (o_aload 0 13)), (13, .inl (o_get 5 1 16)), (16, .inl (o_pushI (nI 0) 17)), (17, .inl (o_aload 1 18)), (18, .inl (o_iload 2 19)), (19, .inl (o_pushI (nI 20) 21)), (21, .inl (o_iadd 22)), (22, .inl (o_pushI (nI 60) 24)), (24, .inl (o_copyI 27)), (27, .inl (o_aload 0 28)), (28, .inl (o_get 5 2 31)), (31, .inl (o_pushI (nI 0) 32)), (32, .inl (o_aload 1 33)), (33, .inl (o_iload 2 34)), (34, .inl (o_pushI (nI 20) 36)), (36, .inl (o_iadd 37)), (37, .inl (o_pushI (nI 60) 39)), (39, .inl (o_iadd 40)), (40, .inl (o_pushI (nI 60) 42)), (42, .inl (o_copyI 45)), (45, .inr 3)]
theorem qX5_saveTo : yX5_saveTo.cls = RX5 ∧ yX5_saveTo.cls ≠ "java/lang/invoke/MethodHandle" ∧ yX5_saveTo.cls ≠ "java/lang/invoke/VarHandle" ∧ (parseMethodDescriptor yX5_saveTo.desc).map (fun d => d.parameters.length) = some 2 := by decide +kernel
set_option maxRecDepth 10000 in
theorem hX5_saveTo_0 (l : Launch) {p : Program} {e : Env} {s : State} {m : MethodId} {args : Array Value} {below : List Frame} {meth : Method} {c : Code} {D : va_G} {ad adV : Nat → Nat} {cA : Nat → ClassId} {K : Kt} (C0 : Cx p s m args meth c D ad adV cA cX5_saveTo 3 RX5) (hr : meth.sig.returnType = none) : ∀ q ∈ lX5_saveTo, Sd p l e (rmd 1) s m args below meth c (MQ below (QQ D ad cA K) args s 0 0 (AA ad)) D ad cA 3 q.1 (opOf K q.2) := List.forall_mem_cons.mpr ⟨s_aload_n C0 dX5_saveTo_0 rfl, List.forall_mem_cons.mpr ⟨s_get (ci := 5) (k := 0) C0 dX5_saveTo_1 inX5 rfl (by decide) tw1_166, List.forall_mem_cons.mpr ⟨s_iconst C0 dX5_saveTo_4 rfl, List.forall_mem_cons.mpr ⟨s_aload_n C0 dX5_saveTo_5 rfl, List.forall_mem_cons.mpr ⟨s_iload_n C0 dX5_saveTo_6 rfl, List.forall_mem_cons.mpr ⟨s_bipush C0 dX5_saveTo_7 (by decide +kernel), List.forall_mem_cons.mpr ⟨s_copyI C0 dX5_saveTo_9 tw4_49 tw2_189 tw2_188 tw1_13 rfl (by decide), List.forall_mem_cons.mpr ⟨s_aload_n C0 dX5_saveTo_12 rfl, List.forall_mem_cons.mpr ⟨s_get (ci := 5) (k := 1) C0 dX5_saveTo_13 inX5 rfl (by decide) tw1_172, List.forall_mem_cons.mpr ⟨s_iconst C0 dX5_saveTo_16 rfl, List.forall_mem_cons.mpr ⟨s_aload_n C0 dX5_saveTo_17 rfl, List.forall_mem_cons.mpr ⟨s_iload_n C0 dX5_saveTo_18 rfl, List.forall_mem_cons.mpr ⟨s_bipush C0 dX5_saveTo_19 (by decide +kernel), List.forall_mem_cons.mpr ⟨s_iadd C0 dX5_saveTo_21, List.forall_mem_cons.mpr ⟨s_bipush C0 dX5_saveTo_22 (by decide +kernel), List.forall_mem_cons.mpr ⟨s_copyI C0 dX5_saveTo_24 tw4_49 tw2_189 tw2_188 tw1_13 rfl (by decide), List.forall_mem_cons.mpr ⟨s_aload_n C0 dX5_saveTo_27 rfl, List.forall_mem_cons.mpr ⟨s_get (ci := 5) (k := 2) C0 dX5_saveTo_28 inX5 rfl (by decide) tw1_173, List.forall_mem_cons.mpr ⟨s_iconst C0 dX5_saveTo_31 rfl, List.forall_mem_cons.mpr ⟨s_aload_n C0 dX5_saveTo_32 rfl, List.forall_mem_cons.mpr ⟨s_iload_n C0 dX5_saveTo_33 rfl, List.forall_mem_cons.mpr ⟨s_bipush C0 dX5_saveTo_34 (by decide +kernel), List.forall_mem_cons.mpr ⟨s_iadd C0 dX5_saveTo_36, List.forall_mem_cons.mpr ⟨s_bipush C0 dX5_saveTo_37 (by decide +kernel), List.forall_mem_cons.mpr ⟨s_iadd C0 dX5_saveTo_39, List.forall_mem_cons.mpr ⟨s_bipush C0 dX5_saveTo_40 (by decide +kernel), List.forall_mem_cons.mpr ⟨s_copyI C0 dX5_saveTo_42 tw4_49 tw2_189 tw2_188 tw1_13 rfl (by decide), List.forall_mem_cons.mpr ⟨s_vret C0 hr dX5_saveTo_45, fun _ h => absurd h List.not_mem_nil⟩⟩⟩⟩⟩⟩⟩⟩⟩⟩⟩⟩⟩⟩⟩⟩⟩⟩⟩⟩⟩⟩⟩⟩⟩⟩⟩⟩
def fX5_saveTo : Mf := mf 3 (fun K => tl K lX5_saveTo)
theorem kX5_saveTo (l : Launch) : Okm l yX5_saveTo cX5_saveTo 3 none 1 fX5_saveTo := Okm_tl (own := RX5) (by decide +kernel) rfl (fun C0 hr => hX5_saveTo_0 l C0 hr)
theorem dX4_keep_0 : decode cX4_keep 0 = .ok (.aload_n 0, 1) := by decide +kernel
theorem dX4_keep_1 : decode cX4_keep 1 = .ok (.getfield 26, 3) := by decide +kernel
theorem dX4_keep_4 : decode cX4_keep 4 = .ok (.aload_n 0, 1) := by decide +kernel
theorem dX4_keep_5 : decode cX4_keep 5 = .ok (.getfield 15, 3) := by decide +kernel
theorem dX4_keep_8 : decode cX4_keep 8 = .ok (.aload_n 0, 1) := by decide +kernel
theorem dX4_keep_9 : decode cX4_keep 9 = .ok (.getfield 19, 3) := by decide +kernel
theorem dX4_keep_12 : decode cX4_keep 12 = .ok (.sipush 180, 3) := by decide +kernel
theorem dX4_keep_15 : decode cX4_keep 15 = .ok (.imul, 1) := by decide +kernel
theorem dX4_keep_16 : decode cX4_keep 16 = .ok (.invokevirtual 34, 3) := by decide +kernel
theorem dX4_keep_19 : decode cX4_keep 19 = .ok (.aload_n 0, 1) := by decide +kernel
theorem dX4_keep_20 : decode cX4_keep 20 = .ok (.getfield 30, 3) := by decide +kernel
theorem dX4_keep_23 : decode cX4_keep 23 = .ok (.aload_n 0, 1) := by decide +kernel
theorem dX4_keep_24 : decode cX4_keep 24 = .ok (.getfield 15, 3) := by decide +kernel
theorem dX4_keep_27 : decode cX4_keep 27 = .ok (.aload_n 0, 1) := by decide +kernel
theorem dX4_keep_28 : decode cX4_keep 28 = .ok (.getfield 19, 3) := by decide +kernel
theorem dX4_keep_31 : decode cX4_keep 31 = .ok (.sipush 180, 3) := by decide +kernel
theorem dX4_keep_34 : decode cX4_keep 34 = .ok (.imul, 1) := by decide +kernel
theorem dX4_keep_35 : decode cX4_keep 35 = .ok (.bipush 40, 2) := by decide +kernel
theorem dX4_keep_37 : decode cX4_keep 37 = .ok (.iadd, 1) := by decide +kernel
theorem dX4_keep_38 : decode cX4_keep 38 = .ok (.invokevirtual 38, 3) := by decide +kernel
theorem dX4_keep_41 : decode cX4_keep 41 = .ok (.aload_n 0, 1) := by decide +kernel
theorem dX4_keep_42 : decode cX4_keep 42 = .ok (.aload_n 0, 1) := by decide +kernel
theorem dX4_keep_43 : decode cX4_keep 43 = .ok (.getfield 19, 3) := by decide +kernel
theorem dX4_keep_46 : decode cX4_keep 46 = .ok (.iconst 1, 1) := by decide +kernel
theorem dX4_keep_47 : decode cX4_keep 47 = .ok (.iadd, 1) := by decide +kernel
theorem dX4_keep_48 : decode cX4_keep 48 = .ok (.bipush 10, 2) := by decide +kernel
theorem dX4_keep_50 : decode cX4_keep 50 = .ok (.irem, 1) := by decide +kernel
theorem dX4_keep_51 : decode cX4_keep 51 = .ok (.putfield 19, 3) := by decide +kernel
theorem dX4_keep_54 : decode cX4_keep 54 = .ok (.aload_n 0, 1) := by decide +kernel
theorem dX4_keep_55 : decode cX4_keep 55 = .ok (.aload_n 0, 1) := by decide +kernel
theorem dX4_keep_56 : decode cX4_keep 56 = .ok (.getfield 23, 3) := by decide +kernel
theorem dX4_keep_59 : decode cX4_keep 59 = .ok (.iconst 1, 1) := by decide +kernel
theorem dX4_keep_60 : decode cX4_keep 60 = .ok (.iadd, 1) := by decide +kernel
theorem dX4_keep_61 : decode cX4_keep 61 = .ok (.bipush 10, 2) := by decide +kernel
theorem dX4_keep_63 : decode cX4_keep 63 = .ok (.invokestatic 39, 3) := by decide +kernel
theorem dX4_keep_66 : decode cX4_keep 66 = .ok (.putfield 23, 3) := by decide +kernel
theorem dX4_keep_69 : decode cX4_keep 69 = .ok (.return_, 1) := by decide +kernel
def lX4_keep : List (Nat × (Op ⊕ Nat)) := [(0, .inl (o_aload 0 1)), (1, .inl (o_get 4 0 4)), (4, .inl (o_aload 0 5)), (5, .inl (o_get 4 2 8)), (8, .inl (o_aload 0 9)), (9, .inl (o_get 4 3 12)), (12, .inl (o_pushI (nI 180) 15)), (15, .inl (o_imul 16)), (16, .inl (o_callV fX9_saveTo 2 9 19)), (19, .inl (o_aload 0 20)), (20, .inl (o_get 4 1 23)), (23, .inl (o_aload 0 24)), (24, .inl (o_get 4 2 27)), (27, .inl (o_aload 0 28)), (28, .inl (o_get 4 3 31)), (31, .inl (o_pushI (nI 180) 34)), (34, .inl (o_imul 35)), (35, .inl (o_pushI (nI 40) 37)), (37, .inl (o_iadd 38)), (38, .inl (o_callV fX5_saveTo 2 5 41)), (41, .inl (o_aload 0 42)), (42, .inl (o_aload 0 43)), (43, .inl (o_get 4 3 46)), (46, .inl (o_pushI (nI 1) 47)), (47, .inl (o_iadd 48)), (48, .inl (o_pushI (nI 10) 50)), (50, .inl (o_irem 51)), (51, .inl (o_putI 4 3 54)), (54, .inl (o_aload 0 55)), (55, .inl (o_aload 0 56)), (56, .inl (o_get 4 4 59)), (59, .inl (o_pushI (nI 1) 60)), (60, .inl (o_iadd 61)), (61, .inl (o_pushI (nI 10) 63)), (63, .inl (o_min 66)), (66, .inl (o_putI 4 4 69)), (69, .inr 3)]
theorem qX4_keep : yX4_keep.cls = RX4 ∧ yX4_keep.cls ≠ "java/lang/invoke/MethodHandle" ∧ yX4_keep.cls ≠ "java/lang/invoke/VarHandle" ∧ (parseMethodDescriptor yX4_keep.desc).map (fun d => d.parameters.length) = some 0 := by decide +kernel
set_option maxRecDepth 10000 in
theorem hX4_keep_0 (l : Launch) {p : Program} {e : Env} {s : State} {m : MethodId} {args : Array Value} {below : List Frame} {meth : Method} {c : Code} {D : va_G} {ad adV : Nat → Nat} {cA : Nat → ClassId} {K : Kt} (C0 : Cx p s m args meth c D ad adV cA cX4_keep 1 RX4) (hr : meth.sig.returnType = none) : ∀ q ∈ lX4_keep, Sd p l e (rmd 2) s m args below meth c (MQ below (QQ D ad cA K) args s 0 0 (AA ad)) D ad cA 1 q.1 (opOf K q.2) := List.forall_mem_cons.mpr ⟨s_aload_n C0 dX4_keep_0 rfl, List.forall_mem_cons.mpr ⟨s_get (ci := 4) (k := 0) C0 dX4_keep_1 inX4 rfl (by decide) tw2_101, List.forall_mem_cons.mpr ⟨s_aload_n C0 dX4_keep_4 rfl, List.forall_mem_cons.mpr ⟨s_get (ci := 4) (k := 2) C0 dX4_keep_5 inX4 rfl (by decide) tw2_103, List.forall_mem_cons.mpr ⟨s_aload_n C0 dX4_keep_8 rfl, List.forall_mem_cons.mpr ⟨s_get (ci := 4) (k := 3) C0 dX4_keep_9 inX4 rfl (by decide) tw2_104, List.forall_mem_cons.mpr ⟨s_sipush C0 dX4_keep_12 (by decide +kernel), List.forall_mem_cons.mpr ⟨s_imul C0 dX4_keep_15, List.forall_mem_cons.mpr ⟨s_callV (ci := 9) C0 (kX9_saveTo l) dX4_keep_16 rfl qX9_saveTo tw5_44 tw5_45 tw5_46 tw1_4 tw5_47 rfl (by decide) (by decide), List.forall_mem_cons.mpr ⟨s_aload_n C0 dX4_keep_19 rfl, List.forall_mem_cons.mpr ⟨s_get (ci := 4) (k := 1) C0 dX4_keep_20 inX4 rfl (by decide) tw2_102, List.forall_mem_cons.mpr ⟨s_aload_n C0 dX4_keep_23 rfl, List.forall_mem_cons.mpr ⟨s_get (ci := 4) (k := 2) C0 dX4_keep_24 inX4 rfl (by decide) tw2_103, List.forall_mem_cons.mpr ⟨s_aload_n C0 dX4_keep_27 rfl, List.forall_mem_cons.mpr ⟨s_get (ci := 4) (k := 3) C0 dX4_keep_28 inX4 rfl (by decide) tw2_104, List.forall_mem_cons.mpr ⟨s_sipush C0 dX4_keep_31 (by decide +kernel), List.forall_mem_cons.mpr ⟨s_imul C0 dX4_keep_34, List.forall_mem_cons.mpr ⟨s_bipush C0 dX4_keep_35 (by decide +kernel), List.forall_mem_cons.mpr ⟨s_iadd C0 dX4_keep_37, List.forall_mem_cons.mpr ⟨s_callV (ci := 5) C0 (kX5_saveTo l) dX4_keep_38 rfl qX5_saveTo tw5_48 tw5_49 tw5_50 tw1_5 tw5_51 rfl (by decide) (by decide), List.forall_mem_cons.mpr ⟨s_aload_n C0 dX4_keep_41 rfl, List.forall_mem_cons.mpr ⟨s_aload_n C0 dX4_keep_42 rfl, List.forall_mem_cons.mpr ⟨s_get (ci := 4) (k := 3) C0 dX4_keep_43 inX4 rfl (by decide) tw2_104, List.forall_mem_cons.mpr ⟨s_iconst C0 dX4_keep_46 rfl, List.forall_mem_cons.mpr ⟨s_iadd C0 dX4_keep_47, List.forall_mem_cons.mpr ⟨s_bipush C0 dX4_keep_48 (by decide +kernel), List.forall_mem_cons.mpr ⟨s_irem C0 dX4_keep_50, List.forall_mem_cons.mpr ⟨s_putI (ci := 4) (k := 3) C0 dX4_keep_51 inX4 tyX4_ok nmX4 rfl (by decide) rfl rfl tw2_104, List.forall_mem_cons.mpr ⟨s_aload_n C0 dX4_keep_54 rfl, List.forall_mem_cons.mpr ⟨s_aload_n C0 dX4_keep_55 rfl, List.forall_mem_cons.mpr ⟨s_get (ci := 4) (k := 4) C0 dX4_keep_56 inX4 rfl (by decide) tw2_105, List.forall_mem_cons.mpr ⟨s_iconst C0 dX4_keep_59 rfl, List.forall_mem_cons.mpr ⟨s_iadd C0 dX4_keep_60, List.forall_mem_cons.mpr ⟨s_bipush C0 dX4_keep_61 (by decide +kernel), List.forall_mem_cons.mpr ⟨s_min C0 dX4_keep_63 tw5_52 tw2_195 tw1_14 twm_min rfl (by decide), List.forall_mem_cons.mpr ⟨s_putI (ci := 4) (k := 4) C0 dX4_keep_66 inX4 tyX4_ok nmX4 rfl (by decide) rfl rfl tw2_105, List.forall_mem_cons.mpr ⟨s_vret C0 hr dX4_keep_69, fun _ h => absurd h List.not_mem_nil⟩⟩⟩⟩⟩⟩⟩⟩⟩⟩⟩⟩⟩⟩⟩⟩⟩⟩⟩⟩⟩⟩⟩⟩⟩⟩⟩⟩⟩⟩⟩⟩⟩⟩⟩⟩⟩
def fX4_keep : Mf := mf 1 (fun K => tl K lX4_keep)
theorem kX4_keep (l : Launch) : Okm l yX4_keep cX4_keep 1 none 2 fX4_keep := Okm_tl (own := RX4) (by decide +kernel) rfl (fun C0 hr => hX4_keep_0 l C0 hr)
theorem dX9_loadFrom_0 : decode cX9_loadFrom 0 = .ok (.aload_n 1, 1) := by decide +kernel
theorem dX9_loadFrom_1 : decode cX9_loadFrom 1 = .ok (.iload_n 2, 1) := by decide +kernel
theorem dX9_loadFrom_2 : decode cX9_loadFrom 2 = .ok (.aload_n 0, 1) := by decide +kernel
theorem dX9_loadFrom_3 : decode cX9_loadFrom 3 = .ok (.getfield 23, 3) := by decide +kernel
theorem dX9_loadFrom_6 : decode cX9_loadFrom 6 = .ok (.iconst 0, 1) := by decide +kernel
theorem dX9_loadFrom_7 : decode cX9_loadFrom 7 = .ok (.bipush 32, 2) := by decide +kernel
theorem dX9_loadFrom_9 : decode cX9_loadFrom 9 = .ok (.invokestatic 47, 3) := by decide +kernel
theorem dX9_loadFrom_12 : decode cX9_loadFrom 12 = .ok (.aload_n 1, 1) := by decide +kernel
theorem dX9_loadFrom_13 : decode cX9_loadFrom 13 = .ok (.iload_n 2, 1) := by decide +kernel
theorem dX9_loadFrom_14 : decode cX9_loadFrom 14 = .ok (.bipush 32, 2) := by decide +kernel
theorem dX9_loadFrom_16 : decode cX9_loadFrom 16 = .ok (.iadd, 1) := by decide +kernel
theorem dX9_loadFrom_17 : decode cX9_loadFrom 17 = .ok (.aload_n 0, 1) := by decide +kernel
theorem dX9_loadFrom_18 : decode cX9_loadFrom 18 = .ok (.getfield 32, 3) := by decide +kernel
theorem dX9_loadFrom_21 : decode cX9_loadFrom 21 = .ok (.iconst 0, 1) := by decide +kernel
theorem dX9_loadFrom_22 : decode cX9_loadFrom 22 = .ok (.iconst 3, 1) := by decide +kernel
theorem dX9_loadFrom_23 : decode cX9_loadFrom 23 = .ok (.invokestatic 47, 3) := by decide +kernel
theorem dX9_loadFrom_26 : decode cX9_loadFrom 26 = .ok (.aload_n 1, 1) := by decide +kernel
theorem dX9_loadFrom_27 : decode cX9_loadFrom 27 = .ok (.iload_n 2, 1) := by decide +kernel
theorem dX9_loadFrom_28 : decode cX9_loadFrom 28 = .ok (.bipush 32, 2) := by decide +kernel
theorem dX9_loadFrom_30 : decode cX9_loadFrom 30 = .ok (.iadd, 1) := by decide +kernel
theorem dX9_loadFrom_31 : decode cX9_loadFrom 31 = .ok (.iconst 3, 1) := by decide +kernel
theorem dX9_loadFrom_32 : decode cX9_loadFrom 32 = .ok (.iadd, 1) := by decide +kernel
theorem dX9_loadFrom_33 : decode cX9_loadFrom 33 = .ok (.aload_n 0, 1) := by decide +kernel
theorem dX9_loadFrom_34 : decode cX9_loadFrom 34 = .ok (.getfield 41, 3) := by decide +kernel
theorem dX9_loadFrom_37 : decode cX9_loadFrom 37 = .ok (.iconst 0, 1) := by decide +kernel
theorem dX9_loadFrom_38 : decode cX9_loadFrom 38 = .ok (.iconst 5, 1) := by decide +kernel
theorem dX9_loadFrom_39 : decode cX9_loadFrom 39 = .ok (.invokestatic 47, 3) := by decide +kernel
theorem dX9_loadFrom_42 : decode cX9_loadFrom 42 = .ok (.return_, 1) := by decide +kernel
def lX9_loadFrom : List (Nat × (Op ⊕ Nat)) := [(0, .inl (o_aload 1 1)), (1, .inl (o_iload 2 2)), (2, .inl (o_aload 0 3)), (3, .inl (o_get 9 3 6)), (6, .inl (o_pushI (nI 0) 7)), (7, .inl (o_pushI (nI 32) 9)), (9, .inl (o_copyI 12)), (12, .inl (o_aload 1 13)), (13, .inl (o_iload 2 14)), (14, .inl (o_pushI (nI 32) 16)), (16, .inl (o_iadd 17)), (17, .inl (o_aload 0 18)), (18, .inl (o_get 9 6 21)), (21, .inl (o_pushI (nI 0) 22)), (22, .inl (o_pushI (nI 3) 23)), (23, .inl (o_copyI 26)), (26, .inl (o_aload 1 27)), (27, .inl (o_iload 2 28)), (28, .inl (o_pushI (nI 32) 30)), (30, .inl (o_iadd 31)), (31, .inl (o_pushI (nI 3) 32)), (32, .inl (o_iadd 33)), (33, .inl (o_aload 0 34)), (34, .inl (o_get 9 9 37)), (37, .inl (o_pushI (nI 0) 38)), (38, .inl (o_pushI (nI 5) 39)), (39, .inl (o_copyI 42)), (42, .inr 3)]
theorem qX9_loadFrom : yX9_loadFrom.cls = RX9 ∧ yX9_loadFrom.cls ≠ "java/lang/invoke/MethodHandle" ∧ yX9_loadFrom.cls ≠ "java/lang/invoke/VarHandle" ∧ (parseMethodDescriptor yX9_loadFrom.desc).map (fun d => d.parameters.length) = some 2 := by decide +kernel
set_option maxRecDepth 10000 in
theorem hX9_loadFrom_0 (l : Launch) {p : Program} {e : Env} {s : State} {m : MethodId} {args : Array Value} {below : List Frame} {meth : Method} {c : Code} {D : va_G} {ad adV : Nat → Nat} {cA : Nat → ClassId} {K : Kt} (C0 : Cx p s m args meth c D ad adV cA cX9_loadFrom 3 RX9) (hr : meth.sig.returnType = none) : ∀ q ∈ lX9_loadFrom, Sd p l e (rmd 1) s m args below meth c (MQ below (QQ D ad cA K) args s 0 0 (AA ad)) D ad cA 3 q.1 (opOf K q.2) := List.forall_mem_cons.mpr ⟨s_aload_n C0 dX9_loadFrom_0 rfl, List.forall_mem_cons.mpr ⟨s_iload_n C0 dX9_loadFrom_1 rfl, List.forall_mem_cons.mpr ⟨s_aload_n C0 dX9_loadFrom_2 rfl, List.forall_mem_cons.mpr ⟨s_get (ci := 9) (k := 3) C0 dX9_loadFrom_3 inX9 rfl (by decide) tw1_91, List.forall_mem_cons.mpr ⟨s_iconst C0 dX9_loadFrom_6 rfl, List.forall_mem_cons.mpr ⟨s_bipush C0 dX9_loadFrom_7 (by decide +kernel), List.forall_mem_cons.mpr ⟨s_copyI C0 dX9_loadFrom_9 tw2_187 tw2_189 tw2_188 tw1_13 rfl (by decide), List.forall_mem_cons.mpr ⟨s_aload_n C0 dX9_loadFrom_12 rfl, List.forall_mem_cons.mpr ⟨s_iload_n C0 dX9_loadFrom_13 rfl, List.forall_mem_cons.mpr ⟨s_bipush C0 dX9_loadFrom_14 (by decide +kernel), List.forall_mem_cons.mpr ⟨s_iadd C0 dX9_loadFrom_16, List.forall_mem_cons.mpr ⟨s_aload_n C0 dX9_loadFrom_17 rfl, List.forall_mem_cons.mpr ⟨s_get (ci := 9) (k := 6) C0 dX9_loadFrom_18 inX9 rfl (by decide) tw1_101, List.forall_mem_cons.mpr ⟨s_iconst C0 dX9_loadFrom_21 rfl, List.forall_mem_cons.mpr ⟨s_iconst C0 dX9_loadFrom_22 rfl, List.forall_mem_cons.mpr ⟨s_copyI C0 dX9_loadFrom_23 tw2_187 tw2_189 tw2_188 tw1_13 rfl (by decide), List.forall_mem_cons.mpr ⟨s_aload_n C0 dX9_loadFrom_26 rfl, List.forall_mem_cons.mpr ⟨s_iload_n C0 dX9_loadFrom_27 rfl, List.forall_mem_cons.mpr ⟨s_bipush C0 dX9_loadFrom_28 (by decide +kernel), List.forall_mem_cons.mpr ⟨s_iadd C0 dX9_loadFrom_30, List.forall_mem_cons.mpr ⟨s_iconst C0 dX9_loadFrom_31 rfl, List.forall_mem_cons.mpr ⟨s_iadd C0 dX9_loadFrom_32, List.forall_mem_cons.mpr ⟨s_aload_n C0 dX9_loadFrom_33 rfl, List.forall_mem_cons.mpr ⟨s_get (ci := 9) (k := 9) C0 dX9_loadFrom_34 inX9 rfl (by decide) tw1_112, List.forall_mem_cons.mpr ⟨s_iconst C0 dX9_loadFrom_37 rfl, List.forall_mem_cons.mpr ⟨s_iconst C0 dX9_loadFrom_38 rfl, List.forall_mem_cons.mpr ⟨s_copyI C0 dX9_loadFrom_39 tw2_187 tw2_189 tw2_188 tw1_13 rfl (by decide), List.forall_mem_cons.mpr ⟨s_vret C0 hr dX9_loadFrom_42, fun _ h => absurd h List.not_mem_nil⟩⟩⟩⟩⟩⟩⟩⟩⟩⟩⟩⟩⟩⟩⟩⟩⟩⟩⟩⟩⟩⟩⟩⟩⟩⟩⟩⟩
def fX9_loadFrom : Mf := mf 3 (fun K => tl K lX9_loadFrom)
theorem kX9_loadFrom (l : Launch) : Okm l yX9_loadFrom cX9_loadFrom 3 none 1 fX9_loadFrom := Okm_tl (own := RX9) (by decide +kernel) rfl (fun C0 hr => hX9_loadFrom_0 l C0 hr)
theorem dX5_remove_0 : decode cX5_remove 0 = .ok (.aload_n 0, 1) := by decide +kernel
theorem dX5_remove_1 : decode cX5_remove 1 = .ok (.getfield 21, 3) := by decide +kernel
theorem dX5_remove_4 : decode cX5_remove 4 = .ok (.aload_n 0, 1) := by decide +kernel
theorem dX5_remove_5 : decode cX5_remove 5 = .ok (.iload_n 1, 1) := by decide +kernel
theorem dX5_remove_6 : decode cX5_remove 6 = .ok (.iload_n 2, 1) := by decide +kernel
theorem dX5_remove_7 : decode cX5_remove 7 = .ok (.invokevirtual 38, 3) := by decide +kernel
theorem dX5_remove_10 : decode cX5_remove 10 = .ok (.bipush 20, 2) := by decide +kernel
theorem dX5_remove_12 : decode cX5_remove 12 = .ok (.imul, 1) := by decide +kernel
theorem dX5_remove_13 : decode cX5_remove 13 = .ok (.iload_n 1, 1) := by decide +kernel
theorem dX5_remove_14 : decode cX5_remove 14 = .ok (.iadd, 1) := by decide +kernel
theorem dX5_remove_15 : decode cX5_remove 15 = .ok (.iconst 0, 1) := by decide +kernel
theorem dX5_remove_16 : decode cX5_remove 16 = .ok (.iastore, 1) := by decide +kernel
theorem dX5_remove_17 : decode cX5_remove 17 = .ok (.iload_n 2, 1) := by decide +kernel
theorem dX5_remove_18 : decode cX5_remove 18 = .ok (.istore_n 3, 1) := by decide +kernel
theorem dX5_remove_19 : decode cX5_remove 19 = .ok (.iload_n 3, 1) := by decide +kernel
theorem dX5_remove_20 : decode cX5_remove 20 = .ok (.iconst 1, 1) := by decide +kernel
theorem dX5_remove_21 : decode cX5_remove 21 = .ok (.iadd, 1) := by decide +kernel
theorem dX5_remove_22 : decode cX5_remove 22 = .ok (.aload_n 0, 1) := by decide +kernel
theorem dX5_remove_23 : decode cX5_remove 23 = .ok (.getfield 9, 3) := by decide +kernel
theorem dX5_remove_26 : decode cX5_remove 26 = .ok (.iload_n 1, 1) := by decide +kernel
theorem dX5_remove_27 : decode cX5_remove 27 = .ok (.iaload, 1) := by decide +kernel
theorem dX5_remove_28 : decode cX5_remove 28 = .ok (.if_icmp .ge 31, 3) := by decide +kernel
theorem dX5_remove_31 : decode cX5_remove 31 = .ok (.aload_n 0, 1) := by decide +kernel
theorem dX5_remove_32 : decode cX5_remove 32 = .ok (.iload_n 1, 1) := by decide +kernel
theorem dX5_remove_33 : decode cX5_remove 33 = .ok (.iload_n 3, 1) := by decide +kernel
theorem dX5_remove_34 : decode cX5_remove 34 = .ok (.aload_n 0, 1) := by decide +kernel
theorem dX5_remove_35 : decode cX5_remove 35 = .ok (.iload_n 1, 1) := by decide +kernel
theorem dX5_remove_36 : decode cX5_remove 36 = .ok (.iload_n 3, 1) := by decide +kernel
theorem dX5_remove_37 : decode cX5_remove 37 = .ok (.iconst 1, 1) := by decide +kernel
theorem dX5_remove_38 : decode cX5_remove 38 = .ok (.iadd, 1) := by decide +kernel
theorem dX5_remove_39 : decode cX5_remove 39 = .ok (.invokevirtual 38, 3) := by decide +kernel
theorem dX5_remove_42 : decode cX5_remove 42 = .ok (.aload_n 0, 1) := by decide +kernel
theorem dX5_remove_43 : decode cX5_remove 43 = .ok (.iload_n 1, 1) := by decide +kernel
theorem dX5_remove_44 : decode cX5_remove 44 = .ok (.iload_n 3, 1) := by decide +kernel
theorem dX5_remove_45 : decode cX5_remove 45 = .ok (.iconst 1, 1) := by decide +kernel
theorem dX5_remove_46 : decode cX5_remove 46 = .ok (.iadd, 1) := by decide +kernel
theorem dX5_remove_47 : decode cX5_remove 47 = .ok (.invokevirtual 41, 3) := by decide +kernel
theorem dX5_remove_50 : decode cX5_remove 50 = .ok (.invokevirtual 34, 3) := by decide +kernel
theorem dX5_remove_53 : decode cX5_remove 53 = .ok (.iinc 3 1, 3) := by decide +kernel
theorem dX5_remove_56 : decode cX5_remove 56 = .ok (.goto (-37), 3) := by decide +kernel
theorem dX5_remove_59 : decode cX5_remove 59 = .ok (.aload_n 0, 1) := by decide +kernel
theorem dX5_remove_60 : decode cX5_remove 60 = .ok (.getfield 9, 3) := by decide +kernel
theorem dX5_remove_63 : decode cX5_remove 63 = .ok (.iload_n 1, 1) := by decide +kernel
theorem dX5_remove_64 : decode cX5_remove 64 = .ok (.dup2, 1) := by decide +kernel
theorem dX5_remove_65 : decode cX5_remove 65 = .ok (.iaload, 1) := by decide +kernel
theorem dX5_remove_66 : decode cX5_remove 66 = .ok (.iconst 1, 1) := by decide +kernel
theorem dX5_remove_67 : decode cX5_remove 67 = .ok (.isub, 1) := by decide +kernel
theorem dX5_remove_68 : decode cX5_remove 68 = .ok (.iastore, 1) := by decide +kernel
theorem dX5_remove_69 : decode cX5_remove 69 = .ok (.return_, 1) := by decide +kernel
def lX5_remove_0 : List (Nat × (Op ⊕ Nat)) := [(0, .inl (o_aload 0 1)), (1, .inl (o_get 5 3 4)), (4, .inl (o_aload 0 5)), (5, .inl (o_iload 1 6)), (6, .inl (o_iload 2 7)), (7, .inl (o_callV fX5_armAt 2 5 10)), (10, .inl (o_pushI (nI 20) 12)), (12, .inl (o_imul 13)), (13, .inl (o_iload 1 14)), (14, .inl (o_iadd 15)), (15, .inl (o_pushI (nI 0) 16)), (16, .inl (o_iast 17)), (17, .inl (o_iload 2 18)), (18, .inl (o_istore 3 19)), (19, .inl (o_iload 3 20)), (20, .inl (o_pushI (nI 1) 21)), (21, .inl (o_iadd 22)), (22, .inl (o_aload 0 23)), (23, .inl (o_get 5 0 26)), (26, .inl (o_iload 1 27)), (27, .inl (o_iald 28)), (28, .inl (o_icmp_ge 59 31)), (31, .inl (o_aload 0 32)), (32, .inl (o_iload 1 33)), (33, .inl (o_iload 3 34)), (34, .inl (o_aload 0 35)), (35, .inl (o_iload 1 36)), (36, .inl (o_iload 3 37)), (37, .inl (o_pushI (nI 1) 38)), (38, .inl (o_iadd 39)), (39, .inl (o_callV fX5_armAt 2 5 42)), (42, .inl (o_aload 0 43)), (43, .inl (o_iload 1 44)), (44, .inl (o_iload 3 45)), (45, .inl (o_pushI (nI 1) 46)), (46, .inl (o_iadd 47)), (47, .inl (o_callV fX5_throwsAt 2 5 50)), (50, .inl (o_callV fX5_setAt 4 5 53)), (53, .inl (o_iinc 3 (nI 1) 56)), (56, .inl (o_goto 19))]
def lX5_remove_1 : List (Nat × (Op ⊕ Nat)) := [(59, .inl (o_aload 0 60)), (60, .inl (o_get 5 0 63)), (63, .inl (o_iload 1 64)), (64, .inl (o_dup2 65)), (65, .inl (o_iald 66)), (66, .inl (o_pushI (nI 1) 67)), (67, .inl (o_isub 68)), (68, .inl (o_iast 69)), (69, .inr 3)]
def lX5_remove : List (Nat × (Op ⊕ Nat)) := lX5_remove_0 ++ (lX5_remove_1)
theorem qX5_remove : yX5_remove.cls = RX5 ∧ yX5_remove.cls ≠ "java/lang/invoke/MethodHandle" ∧ yX5_remove.cls ≠ "java/lang/invoke/VarHandle" ∧ (parseMethodDescriptor yX5_remove.desc).map (fun d => d.parameters.length) = some 2 := by decide +kernel
set_option maxRecDepth 10000 in
theorem hX5_remove_0 (l : Launch) {p : Program} {e : Env} {s : State} {m : MethodId} {args : Array Value} {below : List Frame} {meth : Method} {c : Code} {D : va_G} {ad adV : Nat → Nat} {cA : Nat → ClassId} {K : Kt} (C0 : Cx p s m args meth c D ad adV cA cX5_remove 4 RX5) (hr : meth.sig.returnType = none) : ∀ q ∈ lX5_remove_0, Sd p l e (rmd 1) s m args below meth c (MQ below (QQ D ad cA K) args s 0 0 (AA ad)) D ad cA 4 q.1 (opOf K q.2) := List.forall_mem_cons.mpr ⟨s_aload_n C0 dX5_remove_0 rfl, List.forall_mem_cons.mpr ⟨s_get (ci := 5) (k := 3) C0 dX5_remove_1 inX5 rfl (by decide) tw1_174, List.forall_mem_cons.mpr ⟨s_aload_n C0 dX5_remove_4 rfl, List.forall_mem_cons.mpr ⟨s_iload_n C0 dX5_remove_5 rfl, List.forall_mem_cons.mpr ⟨s_iload_n C0 dX5_remove_6 rfl, List.forall_mem_cons.mpr ⟨s_callV (ci := 5) C0 (kX5_armAt l) dX5_remove_7 rfl qX5_armAt tw3_127 tw3_128 tw3_129 tw1_5 tw3_130 rfl (by decide) (by decide), List.forall_mem_cons.mpr ⟨s_bipush C0 dX5_remove_10 (by decide +kernel), List.forall_mem_cons.mpr ⟨s_imul C0 dX5_remove_12, List.forall_mem_cons.mpr ⟨s_iload_n C0 dX5_remove_13 rfl, List.forall_mem_cons.mpr ⟨s_iadd C0 dX5_remove_14, List.forall_mem_cons.mpr ⟨s_iconst C0 dX5_remove_15 rfl, List.forall_mem_cons.mpr ⟨s_iast C0 dX5_remove_16, List.forall_mem_cons.mpr ⟨s_iload_n C0 dX5_remove_17 rfl, List.forall_mem_cons.mpr ⟨s_istore_n C0 dX5_remove_18 rfl (by decide), List.forall_mem_cons.mpr ⟨s_iload_n C0 dX5_remove_19 rfl, List.forall_mem_cons.mpr ⟨s_iconst C0 dX5_remove_20 rfl, List.forall_mem_cons.mpr ⟨s_iadd C0 dX5_remove_21, List.forall_mem_cons.mpr ⟨s_aload_n C0 dX5_remove_22 rfl, List.forall_mem_cons.mpr ⟨s_get (ci := 5) (k := 0) C0 dX5_remove_23 inX5 rfl (by decide) tw1_166, List.forall_mem_cons.mpr ⟨s_iload_n C0 dX5_remove_26 rfl, List.forall_mem_cons.mpr ⟨s_iald C0 dX5_remove_27, List.forall_mem_cons.mpr ⟨s_icmp_ge C0 dX5_remove_28 rfl, List.forall_mem_cons.mpr ⟨s_aload_n C0 dX5_remove_31 rfl, List.forall_mem_cons.mpr ⟨s_iload_n C0 dX5_remove_32 rfl, List.forall_mem_cons.mpr ⟨s_iload_n C0 dX5_remove_33 rfl, List.forall_mem_cons.mpr ⟨s_aload_n C0 dX5_remove_34 rfl, List.forall_mem_cons.mpr ⟨s_iload_n C0 dX5_remove_35 rfl, List.forall_mem_cons.mpr ⟨s_iload_n C0 dX5_remove_36 rfl, List.forall_mem_cons.mpr ⟨s_iconst C0 dX5_remove_37 rfl, List.forall_mem_cons.mpr ⟨s_iadd C0 dX5_remove_38, List.forall_mem_cons.mpr ⟨s_callV (ci := 5) C0 (kX5_armAt l) dX5_remove_39 rfl qX5_armAt tw3_127 tw3_128 tw3_129 tw1_5 tw3_130 rfl (by decide) (by decide), List.forall_mem_cons.mpr ⟨s_aload_n C0 dX5_remove_42 rfl, List.forall_mem_cons.mpr ⟨s_iload_n C0 dX5_remove_43 rfl, List.forall_mem_cons.mpr ⟨s_iload_n C0 dX5_remove_44 rfl, List.forall_mem_cons.mpr ⟨s_iconst C0 dX5_remove_45 rfl, List.forall_mem_cons.mpr ⟨s_iadd C0 dX5_remove_46, List.forall_mem_cons.mpr ⟨s_callV (ci := 5) C0 (kX5_throwsAt l) dX5_remove_47 rfl qX5_throwsAt tw3_131 tw3_132 tw3_133 tw1_5 tw3_134 rfl (by decide) (by decide), List.forall_mem_cons.mpr ⟨s_callV (ci := 5) C0 (kX5_setAt l) dX5_remove_50 rfl qX5_setAt tw3_135 tw3_137 twp_13 tw1_5 tw3_138 rfl (by decide) (by decide), List.forall_mem_cons.mpr ⟨s_iinc C0 dX5_remove_53 rfl (by decide), List.forall_mem_cons.mpr ⟨s_goto C0 dX5_remove_56 rfl, fun _ h => absurd h List.not_mem_nil⟩⟩⟩⟩⟩⟩⟩⟩⟩⟩⟩⟩⟩⟩⟩⟩⟩⟩⟩⟩⟩⟩⟩⟩⟩⟩⟩⟩⟩⟩⟩⟩⟩⟩⟩⟩⟩⟩⟩⟩
set_option maxRecDepth 10000 in
theorem hX5_remove_1 (l : Launch) {p : Program} {e : Env} {s : State} {m : MethodId} {args : Array Value} {below : List Frame} {meth : Method} {c : Code} {D : va_G} {ad adV : Nat → Nat} {cA : Nat → ClassId} {K : Kt} (C0 : Cx p s m args meth c D ad adV cA cX5_remove 4 RX5) (hr : meth.sig.returnType = none) : ∀ q ∈ lX5_remove_1, Sd p l e (rmd 1) s m args below meth c (MQ below (QQ D ad cA K) args s 0 0 (AA ad)) D ad cA 4 q.1 (opOf K q.2) := List.forall_mem_cons.mpr ⟨s_aload_n C0 dX5_remove_59 rfl, List.forall_mem_cons.mpr ⟨s_get (ci := 5) (k := 0) C0 dX5_remove_60 inX5 rfl (by decide) tw1_166, List.forall_mem_cons.mpr ⟨s_iload_n C0 dX5_remove_63 rfl, List.forall_mem_cons.mpr ⟨s_dup2 C0 dX5_remove_64, List.forall_mem_cons.mpr ⟨s_iald C0 dX5_remove_65, List.forall_mem_cons.mpr ⟨s_iconst C0 dX5_remove_66 rfl, List.forall_mem_cons.mpr ⟨s_isub C0 dX5_remove_67, List.forall_mem_cons.mpr ⟨s_iast C0 dX5_remove_68, List.forall_mem_cons.mpr ⟨s_vret C0 hr dX5_remove_69, fun _ h => absurd h List.not_mem_nil⟩⟩⟩⟩⟩⟩⟩⟩⟩
def fX5_remove : Mf := mf 4 (fun K => tl K lX5_remove)
theorem kX5_remove (l : Launch) : Okm l yX5_remove cX5_remove 4 none 1 fX5_remove := Okm_tl (own := RX5) (by decide +kernel) rfl (fun C0 hr => List.forall_mem_append.mpr ⟨hX5_remove_0 l C0 hr, hX5_remove_1 l C0 hr⟩)
theorem dX5_emptyGame_0 : decode cX5_emptyGame 0 = .ok (.aload_n 0, 1) := by decide +kernel
theorem dX5_emptyGame_1 : decode cX5_emptyGame 1 = .ok (.getfield 9, 3) := by decide +kernel
theorem dX5_emptyGame_4 : decode cX5_emptyGame 4 = .ok (.iload_n 1, 1) := by decide +kernel
theorem dX5_emptyGame_5 : decode cX5_emptyGame 5 = .ok (.iaload, 1) := by decide +kernel
theorem dX5_emptyGame_6 : decode cX5_emptyGame 6 = .ok (.iconst 1, 1) := by decide +kernel
theorem dX5_emptyGame_7 : decode cX5_emptyGame 7 = .ok (.isub, 1) := by decide +kernel
theorem dX5_emptyGame_8 : decode cX5_emptyGame 8 = .ok (.istore_n 2, 1) := by decide +kernel
theorem dX5_emptyGame_9 : decode cX5_emptyGame 9 = .ok (.iload_n 2, 1) := by decide +kernel
theorem dX5_emptyGame_10 : decode cX5_emptyGame 10 = .ok (.ifCond .lt 15, 3) := by decide +kernel
theorem dX5_emptyGame_13 : decode cX5_emptyGame 13 = .ok (.aload_n 0, 1) := by decide +kernel
theorem dX5_emptyGame_14 : decode cX5_emptyGame 14 = .ok (.iload_n 1, 1) := by decide +kernel
theorem dX5_emptyGame_15 : decode cX5_emptyGame 15 = .ok (.iload_n 2, 1) := by decide +kernel
theorem dX5_emptyGame_16 : decode cX5_emptyGame 16 = .ok (.invokevirtual 44, 3) := by decide +kernel
theorem dX5_emptyGame_19 : decode cX5_emptyGame 19 = .ok (.iinc 2 (-1), 3) := by decide +kernel
theorem dX5_emptyGame_22 : decode cX5_emptyGame 22 = .ok (.goto (-13), 3) := by decide +kernel
theorem dX5_emptyGame_25 : decode cX5_emptyGame 25 = .ok (.return_, 1) := by decide +kernel
def lX5_emptyGame : List (Nat × (Op ⊕ Nat)) := [(0, .inl (o_aload 0 1)), (1, .inl (o_get 5 0 4)), (4, .inl (o_iload 1 5)), (5, .inl (o_iald 6)), (6, .inl (o_pushI (nI 1) 7)), (7, .inl (o_isub 8)), (8, .inl (o_istore 2 9)), (9, .inl (o_iload 2 10)), (10, .inl (o_if_lt 25 13)), (13, .inl (o_aload 0 14)), (14, .inl (o_iload 1 15)), (15, .inl (o_iload 2 16)), (16, .inl (o_callV fX5_remove 2 5 19)), (19, .inl (o_iinc 2 ((-1)) 22)), (22, .inl (o_goto 9)), (25, .inr 3)]
theorem qX5_emptyGame : yX5_emptyGame.cls = RX5 ∧ yX5_emptyGame.cls ≠ "java/lang/invoke/MethodHandle" ∧ yX5_emptyGame.cls ≠ "java/lang/invoke/VarHandle" ∧ (parseMethodDescriptor yX5_emptyGame.desc).map (fun d => d.parameters.length) = some 1 := by decide +kernel
set_option maxRecDepth 10000 in
theorem hX5_emptyGame_0 (l : Launch) {p : Program} {e : Env} {s : State} {m : MethodId} {args : Array Value} {below : List Frame} {meth : Method} {c : Code} {D : va_G} {ad adV : Nat → Nat} {cA : Nat → ClassId} {K : Kt} (C0 : Cx p s m args meth c D ad adV cA cX5_emptyGame 3 RX5) (hr : meth.sig.returnType = none) : ∀ q ∈ lX5_emptyGame, Sd p l e (rmd 2) s m args below meth c (MQ below (QQ D ad cA K) args s 0 0 (AA ad)) D ad cA 3 q.1 (opOf K q.2) := List.forall_mem_cons.mpr ⟨s_aload_n C0 dX5_emptyGame_0 rfl, List.forall_mem_cons.mpr ⟨s_get (ci := 5) (k := 0) C0 dX5_emptyGame_1 inX5 rfl (by decide) tw1_166, List.forall_mem_cons.mpr ⟨s_iload_n C0 dX5_emptyGame_4 rfl, List.forall_mem_cons.mpr ⟨s_iald C0 dX5_emptyGame_5, List.forall_mem_cons.mpr ⟨s_iconst C0 dX5_emptyGame_6 rfl, List.forall_mem_cons.mpr ⟨s_isub C0 dX5_emptyGame_7, List.forall_mem_cons.mpr ⟨s_istore_n C0 dX5_emptyGame_8 rfl (by decide), List.forall_mem_cons.mpr ⟨s_iload_n C0 dX5_emptyGame_9 rfl, List.forall_mem_cons.mpr ⟨s_if_lt C0 dX5_emptyGame_10 rfl, List.forall_mem_cons.mpr ⟨s_aload_n C0 dX5_emptyGame_13 rfl, List.forall_mem_cons.mpr ⟨s_iload_n C0 dX5_emptyGame_14 rfl, List.forall_mem_cons.mpr ⟨s_iload_n C0 dX5_emptyGame_15 rfl, List.forall_mem_cons.mpr ⟨s_callV (ci := 5) C0 (kX5_remove l) dX5_emptyGame_16 rfl qX5_remove tw3_123 tw3_124 tw3_125 tw1_5 tw3_126 rfl (by decide) (by decide), List.forall_mem_cons.mpr ⟨s_iinc C0 dX5_emptyGame_19 rfl (by decide), List.forall_mem_cons.mpr ⟨s_goto C0 dX5_emptyGame_22 rfl, List.forall_mem_cons.mpr ⟨s_vret C0 hr dX5_emptyGame_25, fun _ h => absurd h List.not_mem_nil⟩⟩⟩⟩⟩⟩⟩⟩⟩⟩⟩⟩⟩⟩⟩⟩
def fX5_emptyGame : Mf := mf 3 (fun K => tl K lX5_emptyGame)
theorem kX5_emptyGame (l : Launch) : Okm l yX5_emptyGame cX5_emptyGame 3 none 2 fX5_emptyGame := Okm_tl (own := RX5) (by decide +kernel) rfl (fun C0 hr => hX5_emptyGame_0 l C0 hr)
theorem dX5_empty_0 : decode cX5_empty 0 = .ok (.iconst 0, 1) := by decide +kernel
theorem dX5_empty_1 : decode cX5_empty 1 = .ok (.istore_n 1, 1) := by decide +kernel
theorem dX5_empty_2 : decode cX5_empty 2 = .ok (.iload_n 1, 1) := by decide +kernel
theorem dX5_empty_3 : decode cX5_empty 3 = .ok (.bipush 20, 2) := by decide +kernel
theorem dX5_empty_5 : decode cX5_empty 5 = .ok (.if_icmp .ge 14, 3) := by decide +kernel
theorem dX5_empty_8 : decode cX5_empty 8 = .ok (.aload_n 0, 1) := by decide +kernel
theorem dX5_empty_9 : decode cX5_empty 9 = .ok (.iload_n 1, 1) := by decide +kernel
theorem dX5_empty_10 : decode cX5_empty 10 = .ok (.invokevirtual 48, 3) := by decide +kernel
theorem dX5_empty_13 : decode cX5_empty 13 = .ok (.iinc 1 1, 3) := by decide +kernel
theorem dX5_empty_16 : decode cX5_empty 16 = .ok (.goto (-14), 3) := by decide +kernel
theorem dX5_empty_19 : decode cX5_empty 19 = .ok (.return_, 1) := by decide +kernel
def lX5_empty : List (Nat × (Op ⊕ Nat)) := [(0, .inl (o_pushI (nI 0) 1)), (1, .inl (o_istore 1 2)), (2, .inl (o_iload 1 3)), (3, .inl (o_pushI (nI 20) 5)), (5, .inl (o_icmp_ge 19 8)), (8, .inl (o_aload 0 9)), (9, .inl (o_iload 1 10)), (10, .inl (o_callV fX5_emptyGame 1 5 13)), (13, .inl (o_iinc 1 (nI 1) 16)), (16, .inl (o_goto 2)), (19, .inr 3)]
theorem qX5_empty : yX5_empty.cls = RX5 ∧ yX5_empty.cls ≠ "java/lang/invoke/MethodHandle" ∧ yX5_empty.cls ≠ "java/lang/invoke/VarHandle" ∧ (parseMethodDescriptor yX5_empty.desc).map (fun d => d.parameters.length) = some 0 := by decide +kernel
set_option maxRecDepth 10000 in
theorem hX5_empty_0 (l : Launch) {p : Program} {e : Env} {s : State} {m : MethodId} {args : Array Value} {below : List Frame} {meth : Method} {c : Code} {D : va_G} {ad adV : Nat → Nat} {cA : Nat → ClassId} {K : Kt} (C0 : Cx p s m args meth c D ad adV cA cX5_empty 2 RX5) (hr : meth.sig.returnType = none) : ∀ q ∈ lX5_empty, Sd p l e (rmd 3) s m args below meth c (MQ below (QQ D ad cA K) args s 0 0 (AA ad)) D ad cA 2 q.1 (opOf K q.2) := List.forall_mem_cons.mpr ⟨s_iconst C0 dX5_empty_0 rfl, List.forall_mem_cons.mpr ⟨s_istore_n C0 dX5_empty_1 rfl (by decide), List.forall_mem_cons.mpr ⟨s_iload_n C0 dX5_empty_2 rfl, List.forall_mem_cons.mpr ⟨s_bipush C0 dX5_empty_3 (by decide +kernel), List.forall_mem_cons.mpr ⟨s_icmp_ge C0 dX5_empty_5 rfl, List.forall_mem_cons.mpr ⟨s_aload_n C0 dX5_empty_8 rfl, List.forall_mem_cons.mpr ⟨s_iload_n C0 dX5_empty_9 rfl, List.forall_mem_cons.mpr ⟨s_callV (ci := 5) C0 (kX5_emptyGame l) dX5_empty_10 rfl qX5_emptyGame tw3_119 tw3_120 tw3_121 tw1_5 tw3_122 rfl (by decide) (by decide), List.forall_mem_cons.mpr ⟨s_iinc C0 dX5_empty_13 rfl (by decide), List.forall_mem_cons.mpr ⟨s_goto C0 dX5_empty_16 rfl, List.forall_mem_cons.mpr ⟨s_vret C0 hr dX5_empty_19, fun _ h => absurd h List.not_mem_nil⟩⟩⟩⟩⟩⟩⟩⟩⟩⟩⟩
def fX5_empty : Mf := mf 2 (fun K => tl K lX5_empty)
theorem kX5_empty (l : Launch) : Okm l yX5_empty cX5_empty 2 none 3 fX5_empty := Okm_tl (own := RX5) (by decide +kernel) rfl (fun C0 hr => hX5_empty_0 l C0 hr)
theorem dX5_loadFrom_0 : decode cX5_loadFrom 0 = .ok (.aload_n 0, 1) := by decide +kernel
theorem dX5_loadFrom_1 : decode cX5_loadFrom 1 = .ok (.invokevirtual 52, 3) := by decide +kernel
theorem dX5_loadFrom_4 : decode cX5_loadFrom 4 = .ok (.iconst 0, 1) := by decide +kernel
theorem dX5_loadFrom_5 : decode cX5_loadFrom 5 = .ok (.istore_n 3, 1) := by decide +kernel
theorem dX5_loadFrom_6 : decode cX5_loadFrom 6 = .ok (.iload_n 3, 1) := by decide +kernel
theorem dX5_loadFrom_7 : decode cX5_loadFrom 7 = .ok (.bipush 20, 2) := by decide +kernel
theorem dX5_loadFrom_9 : decode cX5_loadFrom 9 = .ok (.if_icmp .ge 67, 3) := by decide +kernel
theorem dX5_loadFrom_12 : decode cX5_loadFrom 12 = .ok (.aload_n 1, 1) := by decide +kernel
theorem dX5_loadFrom_13 : decode cX5_loadFrom 13 = .ok (.iload_n 2, 1) := by decide +kernel
theorem dX5_loadFrom_14 : decode cX5_loadFrom 14 = .ok (.iload_n 3, 1) := by decide +kernel
theorem dX5_loadFrom_15 : decode cX5_loadFrom 15 = .ok (.iadd, 1) := by decide +kernel
theorem dX5_loadFrom_16 : decode cX5_loadFrom 16 = .ok (.iaload, 1) := by decide +kernel
theorem dX5_loadFrom_17 : decode cX5_loadFrom 17 = .ok (.istore 4, 2) := by decide +kernel
theorem dX5_loadFrom_19 : decode cX5_loadFrom 19 = .ok (.iconst 0, 1) := by decide +kernel
theorem dX5_loadFrom_20 : decode cX5_loadFrom 20 = .ok (.istore 5, 2) := by decide +kernel
theorem dX5_loadFrom_22 : decode cX5_loadFrom 22 = .ok (.iload 5, 2) := by decide +kernel
theorem dX5_loadFrom_24 : decode cX5_loadFrom 24 = .ok (.iload 4, 2) := by decide +kernel
theorem dX5_loadFrom_26 : decode cX5_loadFrom 26 = .ok (.if_icmp .ge 44, 3) := by decide +kernel
theorem dX5_loadFrom_29 : decode cX5_loadFrom 29 = .ok (.iload 5, 2) := by decide +kernel
theorem dX5_loadFrom_31 : decode cX5_loadFrom 31 = .ok (.iconst 3, 1) := by decide +kernel
theorem dX5_loadFrom_32 : decode cX5_loadFrom 32 = .ok (.if_icmp .ge 38, 3) := by decide +kernel
theorem dX5_loadFrom_35 : decode cX5_loadFrom 35 = .ok (.iload_n 2, 1) := by decide +kernel
theorem dX5_loadFrom_36 : decode cX5_loadFrom 36 = .ok (.bipush 20, 2) := by decide +kernel
theorem dX5_loadFrom_38 : decode cX5_loadFrom 38 = .ok (.iadd, 1) := by decide +kernel
theorem dX5_loadFrom_39 : decode cX5_loadFrom 39 = .ok (.iload_n 3, 1) := by decide +kernel
theorem dX5_loadFrom_40 : decode cX5_loadFrom 40 = .ok (.iconst 3, 1) := by decide +kernel
theorem dX5_loadFrom_41 : decode cX5_loadFrom 41 = .ok (.imul, 1) := by decide +kernel
theorem dX5_loadFrom_42 : decode cX5_loadFrom 42 = .ok (.iadd, 1) := by decide +kernel
theorem dX5_loadFrom_43 : decode cX5_loadFrom 43 = .ok (.iload 5, 2) := by decide +kernel
theorem dX5_loadFrom_45 : decode cX5_loadFrom 45 = .ok (.iadd, 1) := by decide +kernel
theorem dX5_loadFrom_46 : decode cX5_loadFrom 46 = .ok (.istore 6, 2) := by decide +kernel
theorem dX5_loadFrom_48 : decode cX5_loadFrom 48 = .ok (.aload_n 0, 1) := by decide +kernel
theorem dX5_loadFrom_49 : decode cX5_loadFrom 49 = .ok (.iload_n 3, 1) := by decide +kernel
theorem dX5_loadFrom_50 : decode cX5_loadFrom 50 = .ok (.aload_n 1, 1) := by decide +kernel
theorem dX5_loadFrom_51 : decode cX5_loadFrom 51 = .ok (.iload 6, 2) := by decide +kernel
theorem dX5_loadFrom_53 : decode cX5_loadFrom 53 = .ok (.iaload, 1) := by decide +kernel
theorem dX5_loadFrom_54 : decode cX5_loadFrom 54 = .ok (.aload_n 1, 1) := by decide +kernel
theorem dX5_loadFrom_55 : decode cX5_loadFrom 55 = .ok (.iload 6, 2) := by decide +kernel
theorem dX5_loadFrom_57 : decode cX5_loadFrom 57 = .ok (.bipush 60, 2) := by decide +kernel
theorem dX5_loadFrom_59 : decode cX5_loadFrom 59 = .ok (.iadd, 1) := by decide +kernel
theorem dX5_loadFrom_60 : decode cX5_loadFrom 60 = .ok (.iaload, 1) := by decide +kernel
theorem dX5_loadFrom_61 : decode cX5_loadFrom 61 = .ok (.invokevirtual 55, 3) := by decide +kernel
theorem dX5_loadFrom_64 : decode cX5_loadFrom 64 = .ok (.iinc 5 1, 3) := by decide +kernel
theorem dX5_loadFrom_67 : decode cX5_loadFrom 67 = .ok (.goto (-45), 3) := by decide +kernel
theorem dX5_loadFrom_70 : decode cX5_loadFrom 70 = .ok (.iinc 3 1, 3) := by decide +kernel
theorem dX5_loadFrom_73 : decode cX5_loadFrom 73 = .ok (.goto (-67), 3) := by decide +kernel
theorem dX5_loadFrom_76 : decode cX5_loadFrom 76 = .ok (.return_, 1) := by decide +kernel
def lX5_loadFrom_0 : List (Nat × (Op ⊕ Nat)) := [(0, .inl (o_aload 0 1)), (1, .inl (o_callV fX5_empty 0 5 4)), (4, .inl (o_pushI (nI 0) 5)), (5, .inl (o_istore 3 6)), (6, .inl (o_iload 3 7)), (7, .inl (o_pushI (nI 20) 9)), (9, .inl (o_icmp_ge 76 12)), (12, .inl (o_aload 1 13)), (13, .inl (o_iload 2 14)), (14, .inl (o_iload 3 15)), (15, .inl (o_iadd 16)), (16, .inl (o_iald 17)), (17, .inl (o_istore 4 19)), (19, .inl (o_pushI (nI 0) 20)), (20, .inl (o_istore 5 22)), (22, .inl (o_iload 5 24)), (24, .inl (o_iload 4 26)), (26, .inl (o_icmp_ge 70 29)), (29, .inl (o_iload 5 31)), (31, .inl (o_pushI (nI 3) 32)), (32, .inl (o_icmp_ge 70 35)), (35, .inl (o_iload 2 36)), (36, .inl (o_pushI (nI 20) 38)), (38, .inl (o_iadd 39)), (39, .inl (o_iload 3 40)), (40, .inl (o_pushI (nI 3) 41)), (41, .inl (o_imul 42)), (42, .inl (o_iadd 43)), (43, .inl (o_iload 5 45)), (45, .inl (o_iadd 46)), (46, .inl (o_istore 6 48)), (48, .inl (o_aload 0 49)), (49, .inl (o_iload 3 50)), (50, .inl (o_aload 1 51)), (51, .inl (o_iload 6 53)), (53, .inl (o_iald 54)), (54, .inl (o_aload 1 55)), (55, .inl (o_iload 6 57)), (57, .inl (o_pushI (nI 60) 59)), (59, .inl (o_iadd 60))]
def lX5_loadFrom_1 : List (Nat × (Op ⊕ Nat)) := [(60, .inl (o_iald 61)), (61, .inl (o_callV fX5_add 3 5 64)), (64, .inl (o_iinc 5 (nI 1) 67)), (67, .inl (o_goto 22)), (70, .inl (o_iinc 3 (nI 1) 73)), (73, .inl (o_goto 6)), (76, .inr 3)]
def lX5_loadFrom : List (Nat × (Op ⊕ Nat)) := lX5_loadFrom_0 ++ (lX5_loadFrom_1)
theorem qX5_loadFrom : yX5_loadFrom.cls = RX5 ∧ yX5_loadFrom.cls ≠ "java/lang/invoke/MethodHandle" ∧ yX5_loadFrom.cls ≠ "java/lang/invoke/VarHandle" ∧ (parseMethodDescriptor yX5_loadFrom.desc).map (fun d => d.parameters.length) = some 2 := by decide +kernel
set_option maxRecDepth 10000 in
theorem hX5_loadFrom_0 (l : Launch) {p : Program} {e : Env} {s : State} {m : MethodId} {args : Array Value} {below : List Frame} {meth : Method} {c : Code} {D : va_G} {ad adV : Nat → Nat} {cA : Nat → ClassId} {K : Kt} (C0 : Cx p s m args meth c D ad adV cA cX5_loadFrom 7 RX5) (hr : meth.sig.returnType = none) : ∀ q ∈ lX5_loadFrom_0, Sd p l e (rmd 4) s m args below meth c (MQ below (QQ D ad cA K) args s 0 0 (AA ad)) D ad cA 7 q.1 (opOf K q.2) := List.forall_mem_cons.mpr ⟨s_aload_n C0 dX5_loadFrom_0 rfl, List.forall_mem_cons.mpr ⟨s_callV (ci := 5) C0 (kX5_empty l) dX5_loadFrom_1 rfl qX5_empty tw5_155 tw3_116 tw3_117 tw1_5 tw3_118 rfl (by decide) (by decide), List.forall_mem_cons.mpr ⟨s_iconst C0 dX5_loadFrom_4 rfl, List.forall_mem_cons.mpr ⟨s_istore_n C0 dX5_loadFrom_5 rfl (by decide), List.forall_mem_cons.mpr ⟨s_iload_n C0 dX5_loadFrom_6 rfl, List.forall_mem_cons.mpr ⟨s_bipush C0 dX5_loadFrom_7 (by decide +kernel), List.forall_mem_cons.mpr ⟨s_icmp_ge C0 dX5_loadFrom_9 rfl, List.forall_mem_cons.mpr ⟨s_aload_n C0 dX5_loadFrom_12 rfl, List.forall_mem_cons.mpr ⟨s_iload_n C0 dX5_loadFrom_13 rfl, List.forall_mem_cons.mpr ⟨s_iload_n C0 dX5_loadFrom_14 rfl, List.forall_mem_cons.mpr ⟨s_iadd C0 dX5_loadFrom_15, List.forall_mem_cons.mpr ⟨s_iald C0 dX5_loadFrom_16, List.forall_mem_cons.mpr ⟨s_istore C0 dX5_loadFrom_17 (by decide), List.forall_mem_cons.mpr ⟨s_iconst C0 dX5_loadFrom_19 rfl, List.forall_mem_cons.mpr ⟨s_istore C0 dX5_loadFrom_20 (by decide), List.forall_mem_cons.mpr ⟨s_iload C0 dX5_loadFrom_22, List.forall_mem_cons.mpr ⟨s_iload C0 dX5_loadFrom_24, List.forall_mem_cons.mpr ⟨s_icmp_ge C0 dX5_loadFrom_26 rfl, List.forall_mem_cons.mpr ⟨s_iload C0 dX5_loadFrom_29, List.forall_mem_cons.mpr ⟨s_iconst C0 dX5_loadFrom_31 rfl, List.forall_mem_cons.mpr ⟨s_icmp_ge C0 dX5_loadFrom_32 rfl, List.forall_mem_cons.mpr ⟨s_iload_n C0 dX5_loadFrom_35 rfl, List.forall_mem_cons.mpr ⟨s_bipush C0 dX5_loadFrom_36 (by decide +kernel), List.forall_mem_cons.mpr ⟨s_iadd C0 dX5_loadFrom_38, List.forall_mem_cons.mpr ⟨s_iload_n C0 dX5_loadFrom_39 rfl, List.forall_mem_cons.mpr ⟨s_iconst C0 dX5_loadFrom_40 rfl, List.forall_mem_cons.mpr ⟨s_imul C0 dX5_loadFrom_41, List.forall_mem_cons.mpr ⟨s_iadd C0 dX5_loadFrom_42, List.forall_mem_cons.mpr ⟨s_iload C0 dX5_loadFrom_43, List.forall_mem_cons.mpr ⟨s_iadd C0 dX5_loadFrom_45, List.forall_mem_cons.mpr ⟨s_istore C0 dX5_loadFrom_46 (by decide), List.forall_mem_cons.mpr ⟨s_aload_n C0 dX5_loadFrom_48 rfl, List.forall_mem_cons.mpr ⟨s_iload_n C0 dX5_loadFrom_49 rfl, List.forall_mem_cons.mpr ⟨s_aload_n C0 dX5_loadFrom_50 rfl, List.forall_mem_cons.mpr ⟨s_iload C0 dX5_loadFrom_51, List.forall_mem_cons.mpr ⟨s_iald C0 dX5_loadFrom_53, List.forall_mem_cons.mpr ⟨s_aload_n C0 dX5_loadFrom_54 rfl, List.forall_mem_cons.mpr ⟨s_iload C0 dX5_loadFrom_55, List.forall_mem_cons.mpr ⟨s_bipush C0 dX5_loadFrom_57 (by decide +kernel), List.forall_mem_cons.mpr ⟨s_iadd C0 dX5_loadFrom_59, fun _ h => absurd h List.not_mem_nil⟩⟩⟩⟩⟩⟩⟩⟩⟩⟩⟩⟩⟩⟩⟩⟩⟩⟩⟩⟩⟩⟩⟩⟩⟩⟩⟩⟩⟩⟩⟩⟩⟩⟩⟩⟩⟩⟩⟩⟩
set_option maxRecDepth 10000 in
theorem hX5_loadFrom_1 (l : Launch) {p : Program} {e : Env} {s : State} {m : MethodId} {args : Array Value} {below : List Frame} {meth : Method} {c : Code} {D : va_G} {ad adV : Nat → Nat} {cA : Nat → ClassId} {K : Kt} (C0 : Cx p s m args meth c D ad adV cA cX5_loadFrom 7 RX5) (hr : meth.sig.returnType = none) : ∀ q ∈ lX5_loadFrom_1, Sd p l e (rmd 4) s m args below meth c (MQ below (QQ D ad cA K) args s 0 0 (AA ad)) D ad cA 7 q.1 (opOf K q.2) := List.forall_mem_cons.mpr ⟨s_iald C0 dX5_loadFrom_60, List.forall_mem_cons.mpr ⟨s_callV (ci := 5) C0 (kX5_add l) dX5_loadFrom_61 rfl qX5_add tw5_156 tw5_54 tw5_55 tw1_5 tw5_56 rfl (by decide) (by decide), List.forall_mem_cons.mpr ⟨s_iinc C0 dX5_loadFrom_64 rfl (by decide), List.forall_mem_cons.mpr ⟨s_goto C0 dX5_loadFrom_67 rfl, List.forall_mem_cons.mpr ⟨s_iinc C0 dX5_loadFrom_70 rfl (by decide), List.forall_mem_cons.mpr ⟨s_goto C0 dX5_loadFrom_73 rfl, List.forall_mem_cons.mpr ⟨s_vret C0 hr dX5_loadFrom_76, fun _ h => absurd h List.not_mem_nil⟩⟩⟩⟩⟩⟩⟩
def fX5_loadFrom : Mf := mf 7 (fun K => tl K lX5_loadFrom)
theorem kX5_loadFrom (l : Launch) : Okm l yX5_loadFrom cX5_loadFrom 7 none 4 fX5_loadFrom := Okm_tl (own := RX5) (by decide +kernel) rfl (fun C0 hr => List.forall_mem_append.mpr ⟨hX5_loadFrom_0 l C0 hr, hX5_loadFrom_1 l C0 hr⟩)
theorem dX4_goBack_0 : decode cX4_goBack 0 = .ok (.aload_n 0, 1) := by decide +kernel
theorem dX4_goBack_1 : decode cX4_goBack 1 = .ok (.aload_n 0, 1) := by decide +kernel
theorem dX4_goBack_2 : decode cX4_goBack 2 = .ok (.getfield 19, 3) := by decide +kernel
theorem dX4_goBack_5 : decode cX4_goBack 5 = .ok (.bipush 10, 2) := by decide +kernel
theorem dX4_goBack_7 : decode cX4_goBack 7 = .ok (.iadd, 1) := by decide +kernel
theorem dX4_goBack_8 : decode cX4_goBack 8 = .ok (.iconst 1, 1) := by decide +kernel
theorem dX4_goBack_9 : decode cX4_goBack 9 = .ok (.isub, 1) := by decide +kernel
theorem dX4_goBack_10 : decode cX4_goBack 10 = .ok (.bipush 10, 2) := by decide +kernel
theorem dX4_goBack_12 : decode cX4_goBack 12 = .ok (.irem, 1) := by decide +kernel
theorem dX4_goBack_13 : decode cX4_goBack 13 = .ok (.putfield 19, 3) := by decide +kernel
theorem dX4_goBack_16 : decode cX4_goBack 16 = .ok (.aload_n 0, 1) := by decide +kernel
theorem dX4_goBack_17 : decode cX4_goBack 17 = .ok (.dup, 1) := by decide +kernel
theorem dX4_goBack_18 : decode cX4_goBack 18 = .ok (.getfield 23, 3) := by decide +kernel
theorem dX4_goBack_21 : decode cX4_goBack 21 = .ok (.iconst 1, 1) := by decide +kernel
theorem dX4_goBack_22 : decode cX4_goBack 22 = .ok (.isub, 1) := by decide +kernel
theorem dX4_goBack_23 : decode cX4_goBack 23 = .ok (.putfield 23, 3) := by decide +kernel
theorem dX4_goBack_26 : decode cX4_goBack 26 = .ok (.aload_n 0, 1) := by decide +kernel
theorem dX4_goBack_27 : decode cX4_goBack 27 = .ok (.getfield 26, 3) := by decide +kernel
theorem dX4_goBack_30 : decode cX4_goBack 30 = .ok (.aload_n 0, 1) := by decide +kernel
theorem dX4_goBack_31 : decode cX4_goBack 31 = .ok (.getfield 15, 3) := by decide +kernel
theorem dX4_goBack_34 : decode cX4_goBack 34 = .ok (.aload_n 0, 1) := by decide +kernel
theorem dX4_goBack_35 : decode cX4_goBack 35 = .ok (.getfield 19, 3) := by decide +kernel
theorem dX4_goBack_38 : decode cX4_goBack 38 = .ok (.sipush 180, 3) := by decide +kernel
theorem dX4_goBack_41 : decode cX4_goBack 41 = .ok (.imul, 1) := by decide +kernel
theorem dX4_goBack_42 : decode cX4_goBack 42 = .ok (.invokevirtual 45, 3) := by decide +kernel
theorem dX4_goBack_45 : decode cX4_goBack 45 = .ok (.aload_n 0, 1) := by decide +kernel
theorem dX4_goBack_46 : decode cX4_goBack 46 = .ok (.getfield 30, 3) := by decide +kernel
theorem dX4_goBack_49 : decode cX4_goBack 49 = .ok (.aload_n 0, 1) := by decide +kernel
theorem dX4_goBack_50 : decode cX4_goBack 50 = .ok (.getfield 15, 3) := by decide +kernel
theorem dX4_goBack_53 : decode cX4_goBack 53 = .ok (.aload_n 0, 1) := by decide +kernel
theorem dX4_goBack_54 : decode cX4_goBack 54 = .ok (.getfield 19, 3) := by decide +kernel
theorem dX4_goBack_57 : decode cX4_goBack 57 = .ok (.sipush 180, 3) := by decide +kernel
theorem dX4_goBack_60 : decode cX4_goBack 60 = .ok (.imul, 1) := by decide +kernel
theorem dX4_goBack_61 : decode cX4_goBack 61 = .ok (.bipush 40, 2) := by decide +kernel
theorem dX4_goBack_63 : decode cX4_goBack 63 = .ok (.iadd, 1) := by decide +kernel
theorem dX4_goBack_64 : decode cX4_goBack 64 = .ok (.invokevirtual 48, 3) := by decide +kernel
theorem dX4_goBack_67 : decode cX4_goBack 67 = .ok (.return_, 1) := by decide +kernel
def lX4_goBack : List (Nat × (Op ⊕ Nat)) := [(0, .inl (o_aload 0 1)), (1, .inl (o_aload 0 2)), (2, .inl (o_get 4 3 5)), (5, .inl (o_pushI (nI 10) 7)), (7, .inl (o_iadd 8)), (8, .inl (o_pushI (nI 1) 9)), (9, .inl (o_isub 10)), (10, .inl (o_pushI (nI 10) 12)), (12, .inl (o_irem 13)), (13, .inl (o_putI 4 3 16)), (16, .inl (o_aload 0 17)), (17, .inl (o_dup 18)), (18, .inl (o_get 4 4 21)), (21, .inl (o_pushI (nI 1) 22)), (22, .inl (o_isub 23)), (23, .inl (o_putI 4 4 26)), (26, .inl (o_aload 0 27)), (27, .inl (o_get 4 0 30)), (30, .inl (o_aload 0 31)), (31, .inl (o_get 4 2 34)), (34, .inl (o_aload 0 35)), (35, .inl (o_get 4 3 38)), (38, .inl (o_pushI (nI 180) 41)), (41, .inl (o_imul 42)), (42, .inl (o_callV fX9_loadFrom 2 9 45)), (45, .inl (o_aload 0 46)), (46, .inl (o_get 4 1 49)), (49, .inl (o_aload 0 50)), (50, .inl (o_get 4 2 53)), (53, .inl (o_aload 0 54)), (54, .inl (o_get 4 3 57)), (57, .inl (o_pushI (nI 180) 60)), (60, .inl (o_imul 61)), (61, .inl (o_pushI (nI 40) 63)), (63, .inl (o_iadd 64)), (64, .inl (o_callV fX5_loadFrom 2 5 67)), (67, .inr 3)]
theorem qX4_goBack : yX4_goBack.cls = RX4 ∧ yX4_goBack.cls ≠ "java/lang/invoke/MethodHandle" ∧ yX4_goBack.cls ≠ "java/lang/invoke/VarHandle" ∧ (parseMethodDescriptor yX4_goBack.desc).map (fun d => d.parameters.length) = some 0 := by decide +kernel
set_option maxRecDepth 10000 in
theorem hX4_goBack_0 (l : Launch) {p : Program} {e : Env} {s : State} {m : MethodId} {args : Array Value} {below : List Frame} {meth : Method} {c : Code} {D : va_G} {ad adV : Nat → Nat} {cA : Nat → ClassId} {K : Kt} (C0 : Cx p s m args meth c D ad adV cA cX4_goBack 1 RX4) (hr : meth.sig.returnType = none) : ∀ q ∈ lX4_goBack, Sd p l e (rmd 5) s m args below meth c (MQ below (QQ D ad cA K) args s 0 0 (AA ad)) D ad cA 1 q.1 (opOf K q.2) := List.forall_mem_cons.mpr ⟨s_aload_n C0 dX4_goBack_0 rfl, List.forall_mem_cons.mpr ⟨s_aload_n C0 dX4_goBack_1 rfl, List.forall_mem_cons.mpr ⟨s_get (ci := 4) (k := 3) C0 dX4_goBack_2 inX4 rfl (by decide) tw2_104, List.forall_mem_cons.mpr ⟨s_bipush C0 dX4_goBack_5 (by decide +kernel), List.forall_mem_cons.mpr ⟨s_iadd C0 dX4_goBack_7, List.forall_mem_cons.mpr ⟨s_iconst C0 dX4_goBack_8 rfl, List.forall_mem_cons.mpr ⟨s_isub C0 dX4_goBack_9, List.forall_mem_cons.mpr ⟨s_bipush C0 dX4_goBack_10 (by decide +kernel), List.forall_mem_cons.mpr ⟨s_irem C0 dX4_goBack_12, List.forall_mem_cons.mpr ⟨s_putI (ci := 4) (k := 3) C0 dX4_goBack_13 inX4 tyX4_ok nmX4 rfl (by decide) rfl rfl tw2_104, List.forall_mem_cons.mpr ⟨s_aload_n C0 dX4_goBack_16 rfl, List.forall_mem_cons.mpr ⟨s_dup C0 dX4_goBack_17, List.forall_mem_cons.mpr ⟨s_get (ci := 4) (k := 4) C0 dX4_goBack_18 inX4 rfl (by decide) tw2_105, List.forall_mem_cons.mpr ⟨s_iconst C0 dX4_goBack_21 rfl, List.forall_mem_cons.mpr ⟨s_isub C0 dX4_goBack_22, List.forall_mem_cons.mpr ⟨s_putI (ci := 4) (k := 4) C0 dX4_goBack_23 inX4 tyX4_ok nmX4 rfl (by decide) rfl rfl tw2_105, List.forall_mem_cons.mpr ⟨s_aload_n C0 dX4_goBack_26 rfl, List.forall_mem_cons.mpr ⟨s_get (ci := 4) (k := 0) C0 dX4_goBack_27 inX4 rfl (by decide) tw2_101, List.forall_mem_cons.mpr ⟨s_aload_n C0 dX4_goBack_30 rfl, List.forall_mem_cons.mpr ⟨s_get (ci := 4) (k := 2) C0 dX4_goBack_31 inX4 rfl (by decide) tw2_103, List.forall_mem_cons.mpr ⟨s_aload_n C0 dX4_goBack_34 rfl, List.forall_mem_cons.mpr ⟨s_get (ci := 4) (k := 3) C0 dX4_goBack_35 inX4 rfl (by decide) tw2_104, List.forall_mem_cons.mpr ⟨s_sipush C0 dX4_goBack_38 (by decide +kernel), List.forall_mem_cons.mpr ⟨s_imul C0 dX4_goBack_41, List.forall_mem_cons.mpr ⟨s_callV (ci := 9) C0 (kX9_loadFrom l) dX4_goBack_42 rfl qX9_loadFrom tw5_147 tw5_148 tw5_149 tw1_4 tw5_150 rfl (by decide) (by decide), List.forall_mem_cons.mpr ⟨s_aload_n C0 dX4_goBack_45 rfl, List.forall_mem_cons.mpr ⟨s_get (ci := 4) (k := 1) C0 dX4_goBack_46 inX4 rfl (by decide) tw2_102, List.forall_mem_cons.mpr ⟨s_aload_n C0 dX4_goBack_49 rfl, List.forall_mem_cons.mpr ⟨s_get (ci := 4) (k := 2) C0 dX4_goBack_50 inX4 rfl (by decide) tw2_103, List.forall_mem_cons.mpr ⟨s_aload_n C0 dX4_goBack_53 rfl, List.forall_mem_cons.mpr ⟨s_get (ci := 4) (k := 3) C0 dX4_goBack_54 inX4 rfl (by decide) tw2_104, List.forall_mem_cons.mpr ⟨s_sipush C0 dX4_goBack_57 (by decide +kernel), List.forall_mem_cons.mpr ⟨s_imul C0 dX4_goBack_60, List.forall_mem_cons.mpr ⟨s_bipush C0 dX4_goBack_61 (by decide +kernel), List.forall_mem_cons.mpr ⟨s_iadd C0 dX4_goBack_63, List.forall_mem_cons.mpr ⟨s_callV (ci := 5) C0 (kX5_loadFrom l) dX4_goBack_64 rfl qX5_loadFrom tw5_151 tw5_152 tw5_153 tw1_5 tw5_154 rfl (by decide) (by decide), List.forall_mem_cons.mpr ⟨s_vret C0 hr dX4_goBack_67, fun _ h => absurd h List.not_mem_nil⟩⟩⟩⟩⟩⟩⟩⟩⟩⟩⟩⟩⟩⟩⟩⟩⟩⟩⟩⟩⟩⟩⟩⟩⟩⟩⟩⟩⟩⟩⟩⟩⟩⟩⟩⟩⟩
def fX4_goBack : Mf := mf 1 (fun K => tl K lX4_goBack)
theorem kX4_goBack (l : Launch) : Okm l yX4_goBack cX4_goBack 1 none 5 fX4_goBack := Okm_tl (own := RX4) (by decide +kernel) rfl (fun C0 hr => hX4_goBack_0 l C0 hr)
theorem dX9_empty_0 : decode cX9_empty 0 = .ok (.aload_n 0, 1) := by decide +kernel
theorem dX9_empty_1 : decode cX9_empty 1 = .ok (.iconst 0, 1) := by decide +kernel
theorem dX9_empty_2 : decode cX9_empty 2 = .ok (.putfield 9, 3) := by decide +kernel
theorem dX9_empty_5 : decode cX9_empty 5 = .ok (.aload_n 0, 1) := by decide +kernel
theorem dX9_empty_6 : decode cX9_empty 6 = .ok (.iconst 0, 1) := by decide +kernel
theorem dX9_empty_7 : decode cX9_empty 7 = .ok (.putfield 26, 3) := by decide +kernel
theorem dX9_empty_10 : decode cX9_empty 10 = .ok (.aload_n 0, 1) := by decide +kernel
theorem dX9_empty_11 : decode cX9_empty 11 = .ok (.iconst 0, 1) := by decide +kernel
theorem dX9_empty_12 : decode cX9_empty 12 = .ok (.putfield 35, 3) := by decide +kernel
theorem dX9_empty_15 : decode cX9_empty 15 = .ok (.getstatic 44, 3) := by decide +kernel
theorem dX9_empty_18 : decode cX9_empty 18 = .ok (.iconst 0, 1) := by decide +kernel
theorem dX9_empty_19 : decode cX9_empty 19 = .ok (.aload_n 0, 1) := by decide +kernel
theorem dX9_empty_20 : decode cX9_empty 20 = .ok (.getfield 32, 3) := by decide +kernel
theorem dX9_empty_23 : decode cX9_empty 23 = .ok (.iconst 0, 1) := by decide +kernel
theorem dX9_empty_24 : decode cX9_empty 24 = .ok (.iconst 3, 1) := by decide +kernel
theorem dX9_empty_25 : decode cX9_empty 25 = .ok (.invokestatic 47, 3) := by decide +kernel
theorem dX9_empty_28 : decode cX9_empty 28 = .ok (.return_, 1) := by decide +kernel
def lX9_empty : List (Nat × (Op ⊕ Nat)) := [(0, .inl (o_aload 0 1)), (1, .inl (o_pushI (nI 0) 2)), (2, .inl (o_putI 9 0 5)), (5, .inl (o_aload 0 6)), (6, .inl (o_pushI (nI 0) 7)), (7, .inl (o_putI 9 4 10)), (10, .inl (o_aload 0 11)), (11, .inl (o_pushI (nI 0) 12)), (12, .inl (o_putI 9 7 15)), (15, .inl (o_pushR 106 18)), (18, .inl (o_pushI (nI 0) 19)), (19, .inl (o_aload 0 20)), (20, .inl (o_get 9 6 23)), (23, .inl (o_pushI (nI 0) 24)), (24, .inl (o_pushI (nI 3) 25)), (25, .inl (o_copyR 28)), (28, .inr 3)]
theorem qX9_empty : yX9_empty.cls = RX9 ∧ yX9_empty.cls ≠ "java/lang/invoke/MethodHandle" ∧ yX9_empty.cls ≠ "java/lang/invoke/VarHandle" ∧ (parseMethodDescriptor yX9_empty.desc).map (fun d => d.parameters.length) = some 0 := by decide +kernel
set_option maxRecDepth 10000 in
theorem hX9_empty_0 (l : Launch) {p : Program} {e : Env} {s : State} {m : MethodId} {args : Array Value} {below : List Frame} {meth : Method} {c : Code} {D : va_G} {ad adV : Nat → Nat} {cA : Nat → ClassId} {K : Kt} (C0 : Cx p s m args meth c D ad adV cA cX9_empty 1 RX9) (hr : meth.sig.returnType = none) : ∀ q ∈ lX9_empty, Sd p l e (rmd 1) s m args below meth c (MQ below (QQ D ad cA K) args s 0 0 (AA ad)) D ad cA 1 q.1 (opOf K q.2) := List.forall_mem_cons.mpr ⟨s_aload_n C0 dX9_empty_0 rfl, List.forall_mem_cons.mpr ⟨s_iconst C0 dX9_empty_1 rfl, List.forall_mem_cons.mpr ⟨s_putI (ci := 9) (k := 0) C0 dX9_empty_2 inX9 tyX9_ok nmX9 rfl (by decide) rfl rfl tw1_80, List.forall_mem_cons.mpr ⟨s_aload_n C0 dX9_empty_5 rfl, List.forall_mem_cons.mpr ⟨s_iconst C0 dX9_empty_6 rfl, List.forall_mem_cons.mpr ⟨s_putI (ci := 9) (k := 4) C0 dX9_empty_7 inX9 tyX9_ok nmX9 rfl (by decide) rfl rfl tw1_92, List.forall_mem_cons.mpr ⟨s_aload_n C0 dX9_empty_10 rfl, List.forall_mem_cons.mpr ⟨s_iconst C0 dX9_empty_11 rfl, List.forall_mem_cons.mpr ⟨s_putI (ci := 9) (k := 7) C0 dX9_empty_12 inX9 tyX9_ok nmX9 rfl (by decide) rfl rfl tw1_107, List.forall_mem_cons.mpr ⟨s_getsN (k := 6) C0 dX9_empty_15 (List.mem_of_getElem? (i := 0) rfl) (by decide) rfl, List.forall_mem_cons.mpr ⟨s_iconst C0 dX9_empty_18 rfl, List.forall_mem_cons.mpr ⟨s_aload_n C0 dX9_empty_19 rfl, List.forall_mem_cons.mpr ⟨s_get (ci := 9) (k := 6) C0 dX9_empty_20 inX9 rfl (by decide) tw1_101, List.forall_mem_cons.mpr ⟨s_iconst C0 dX9_empty_23 rfl, List.forall_mem_cons.mpr ⟨s_iconst C0 dX9_empty_24 rfl, List.forall_mem_cons.mpr ⟨s_copyR C0 dX9_empty_25 tw2_187 tw2_189 tw2_188 tw1_13 rfl (by decide), List.forall_mem_cons.mpr ⟨s_vret C0 hr dX9_empty_28, fun _ h => absurd h List.not_mem_nil⟩⟩⟩⟩⟩⟩⟩⟩⟩⟩⟩⟩⟩⟩⟩⟩⟩
def fX9_empty : Mf := mf 1 (fun K => tl K lX9_empty)
theorem kX9_empty (l : Launch) : Okm l yX9_empty cX9_empty 1 none 1 fX9_empty := Okm_tl (own := RX9) (by decide +kernel) rfl (fun C0 hr => hX9_empty_0 l C0 hr)
theorem dX8_beginTokens_0 : decode cX8_beginTokens 0 = .ok (.aload_n 0, 1) := by decide +kernel
theorem dX8_beginTokens_1 : decode cX8_beginTokens 1 = .ok (.iconst 0, 1) := by decide +kernel
theorem dX8_beginTokens_2 : decode cX8_beginTokens 2 = .ok (.iload_n 1, 1) := by decide +kernel
theorem dX8_beginTokens_3 : decode cX8_beginTokens 3 = .ok (.aload_n 0, 1) := by decide +kernel
theorem dX8_beginTokens_4 : decode cX8_beginTokens 4 = .ok (.getfield 15, 3) := by decide +kernel
theorem dX8_beginTokens_7 : decode cX8_beginTokens 7 = .ok (.invokestatic 38, 3) := by decide +kernel
theorem dX8_beginTokens_10 : decode cX8_beginTokens 10 = .ok (.invokestatic 44, 3) := by decide +kernel
theorem dX8_beginTokens_13 : decode cX8_beginTokens 13 = .ok (.putfield 19, 3) := by decide +kernel
theorem dX8_beginTokens_16 : decode cX8_beginTokens 16 = .ok (.aload_n 0, 1) := by decide +kernel
theorem dX8_beginTokens_17 : decode cX8_beginTokens 17 = .ok (.iconst 0, 1) := by decide +kernel
theorem dX8_beginTokens_18 : decode cX8_beginTokens 18 = .ok (.putfield 22, 3) := by decide +kernel
theorem dX8_beginTokens_21 : decode cX8_beginTokens 21 = .ok (.return_, 1) := by decide +kernel
def lX8_beginTokens : List (Nat × (Op ⊕ Nat)) := [(0, .inl (o_aload 0 1)), (1, .inl (o_pushI (nI 0) 2)), (2, .inl (o_iload 1 3)), (3, .inl (o_aload 0 4)), (4, .inl (o_get 8 1 7)), (7, .inl (o_min 10)), (10, .inl (o_max 13)), (13, .inl (o_putI 8 2 16)), (16, .inl (o_aload 0 17)), (17, .inl (o_pushI (nI 0) 18)), (18, .inl (o_putI 8 3 21)), (21, .inr 3)]
theorem qX8_beginTokens : yX8_beginTokens.cls = RX8 ∧ yX8_beginTokens.cls ≠ "java/lang/invoke/MethodHandle" ∧ yX8_beginTokens.cls ≠ "java/lang/invoke/VarHandle" ∧ (parseMethodDescriptor yX8_beginTokens.desc).map (fun d => d.parameters.length) = some 1 := by decide +kernel
set_option maxRecDepth 10000 in
theorem hX8_beginTokens_0 (l : Launch) {p : Program} {e : Env} {s : State} {m : MethodId} {args : Array Value} {below : List Frame} {meth : Method} {c : Code} {D : va_G} {ad adV : Nat → Nat} {cA : Nat → ClassId} {K : Kt} (C0 : Cx p s m args meth c D ad adV cA cX8_beginTokens 2 RX8) (hr : meth.sig.returnType = none) : ∀ q ∈ lX8_beginTokens, Sd p l e (rmd 1) s m args below meth c (MQ below (QQ D ad cA K) args s 0 0 (AA ad)) D ad cA 2 q.1 (opOf K q.2) := List.forall_mem_cons.mpr ⟨s_aload_n C0 dX8_beginTokens_0 rfl, List.forall_mem_cons.mpr ⟨s_iconst C0 dX8_beginTokens_1 rfl, List.forall_mem_cons.mpr ⟨s_iload_n C0 dX8_beginTokens_2 rfl, List.forall_mem_cons.mpr ⟨s_aload_n C0 dX8_beginTokens_3 rfl, List.forall_mem_cons.mpr ⟨s_get (ci := 8) (k := 1) C0 dX8_beginTokens_4 inX8 rfl (by decide) tw1_38, List.forall_mem_cons.mpr ⟨s_min C0 dX8_beginTokens_7 tw2_194 tw2_195 tw1_14 twm_min rfl (by decide), List.forall_mem_cons.mpr ⟨s_max C0 dX8_beginTokens_10 tw2_197 tw2_198 tw1_14 twm_max rfl (by decide), List.forall_mem_cons.mpr ⟨s_putI (ci := 8) (k := 2) C0 dX8_beginTokens_13 inX8 tyX8_ok nmX8 rfl (by decide) rfl rfl tw1_40, List.forall_mem_cons.mpr ⟨s_aload_n C0 dX8_beginTokens_16 rfl, List.forall_mem_cons.mpr ⟨s_iconst C0 dX8_beginTokens_17 rfl, List.forall_mem_cons.mpr ⟨s_putI (ci := 8) (k := 3) C0 dX8_beginTokens_18 inX8 tyX8_ok nmX8 rfl (by decide) rfl rfl tw1_41, List.forall_mem_cons.mpr ⟨s_vret C0 hr dX8_beginTokens_21, fun _ h => absurd h List.not_mem_nil⟩⟩⟩⟩⟩⟩⟩⟩⟩⟩⟩⟩
def fX8_beginTokens : Mf := mf 2 (fun K => tl K lX8_beginTokens)
theorem kX8_beginTokens (l : Launch) : Okm l yX8_beginTokens cX8_beginTokens 2 none 1 fX8_beginTokens := Okm_tl (own := RX8) (by decide +kernel) rfl (fun C0 hr => hX8_beginTokens_0 l C0 hr)
theorem dX8_isLetter_0 : decode cX8_isLetter 0 = .ok (.iload_n 0, 1) := by decide +kernel
theorem dX8_isLetter_1 : decode cX8_isLetter 1 = .ok (.bipush 97, 2) := by decide +kernel
theorem dX8_isLetter_3 : decode cX8_isLetter 3 = .ok (.if_icmp .lt 13, 3) := by decide +kernel
theorem dX8_isLetter_6 : decode cX8_isLetter 6 = .ok (.iload_n 0, 1) := by decide +kernel
theorem dX8_isLetter_7 : decode cX8_isLetter 7 = .ok (.bipush 122, 2) := by decide +kernel
theorem dX8_isLetter_9 : decode cX8_isLetter 9 = .ok (.if_icmp .gt 7, 3) := by decide +kernel
theorem dX8_isLetter_12 : decode cX8_isLetter 12 = .ok (.iconst 1, 1) := by decide +kernel
theorem dX8_isLetter_13 : decode cX8_isLetter 13 = .ok (.goto 4, 3) := by decide +kernel
theorem dX8_isLetter_16 : decode cX8_isLetter 16 = .ok (.iconst 0, 1) := by decide +kernel
theorem dX8_isLetter_17 : decode cX8_isLetter 17 = .ok (.ireturn, 1) := by decide +kernel
def lX8_isLetter : List (Nat × (Op ⊕ Nat)) := [(0, .inl (o_iload 0 1)), (1, .inl (o_pushI (nI 97) 3)), (3, .inl (o_icmp_lt 16 6)), (6, .inl (o_iload 0 7)), (7, .inl (o_pushI (nI 122) 9)), (9, .inl (o_icmp_gt 16 12)), (12, .inl (o_pushI (nI 1) 13)), (13, .inl (o_goto 17)), (16, .inl (o_pushI (nI 0) 17)), (17, .inr 1)]
theorem qX8_isLetter : yX8_isLetter.cls ≠ "java/lang/invoke/MethodHandle" ∧ yX8_isLetter.cls ≠ "java/lang/invoke/VarHandle" ∧ (parseMethodDescriptor yX8_isLetter.desc).map (fun d => d.parameters.length) = some 1 := by decide +kernel
set_option maxRecDepth 10000 in
theorem hX8_isLetter_0 (l : Launch) {p : Program} {e : Env} {s : State} {m : MethodId} {args : Array Value} {below : List Frame} {meth : Method} {c : Code} {D : va_G} {ad adV : Nat → Nat} {cA : Nat → ClassId} {K : Kt} (C0 : Cx p s m args meth c D ad adV cA cX8_isLetter 1 RX8) (hr : meth.sig.returnType = (some .boolean)) : ∀ q ∈ lX8_isLetter, Sd p l e (rmd 0) s m args below meth c (MQ below (QQ D ad cA K) args s 0 0 (AA ad)) D ad cA 1 q.1 (opOf K q.2) := List.forall_mem_cons.mpr ⟨s_iload_n C0 dX8_isLetter_0 rfl, List.forall_mem_cons.mpr ⟨s_bipush C0 dX8_isLetter_1 (by decide +kernel), List.forall_mem_cons.mpr ⟨s_icmp_lt C0 dX8_isLetter_3 rfl, List.forall_mem_cons.mpr ⟨s_iload_n C0 dX8_isLetter_6 rfl, List.forall_mem_cons.mpr ⟨s_bipush C0 dX8_isLetter_7 (by decide +kernel), List.forall_mem_cons.mpr ⟨s_icmp_gt C0 dX8_isLetter_9 rfl, List.forall_mem_cons.mpr ⟨s_iconst C0 dX8_isLetter_12 rfl, List.forall_mem_cons.mpr ⟨s_goto C0 dX8_isLetter_13 rfl, List.forall_mem_cons.mpr ⟨s_iconst C0 dX8_isLetter_16 rfl, List.forall_mem_cons.mpr ⟨s_zret C0 hr dX8_isLetter_17, fun _ h => absurd h List.not_mem_nil⟩⟩⟩⟩⟩⟩⟩⟩⟩⟩
def fX8_isLetter : Mf := mf 1 (fun K => tl K lX8_isLetter)
theorem kX8_isLetter (l : Launch) : Okm l yX8_isLetter cX8_isLetter 1 (some .boolean) 0 fX8_isLetter := Okm_tl (own := RX8) (by decide +kernel) rfl (fun C0 hr => hX8_isLetter_0 l C0 hr)
theorem dX8_scanWord_0 : decode cX8_scanWord 0 = .ok (.aload_n 0, 1) := by decide +kernel
theorem dX8_scanWord_1 : decode cX8_scanWord 1 = .ok (.lconst 0, 1) := by decide +kernel
theorem dX8_scanWord_2 : decode cX8_scanWord 2 = .ok (.putfield 34, 3) := by decide +kernel
theorem dX8_scanWord_5 : decode cX8_scanWord 5 = .ok (.aload_n 0, 1) := by decide +kernel
theorem dX8_scanWord_6 : decode cX8_scanWord 6 = .ok (.getfield 22, 3) := by decide +kernel
theorem dX8_scanWord_9 : decode cX8_scanWord 9 = .ok (.aload_n 0, 1) := by decide +kernel
theorem dX8_scanWord_10 : decode cX8_scanWord 10 = .ok (.getfield 19, 3) := by decide +kernel
theorem dX8_scanWord_13 : decode cX8_scanWord 13 = .ok (.if_icmp .ge 57, 3) := by decide +kernel
theorem dX8_scanWord_16 : decode cX8_scanWord 16 = .ok (.aload_n 0, 1) := by decide +kernel
theorem dX8_scanWord_17 : decode cX8_scanWord 17 = .ok (.getfield 9, 3) := by decide +kernel
theorem dX8_scanWord_20 : decode cX8_scanWord 20 = .ok (.aload_n 0, 1) := by decide +kernel
theorem dX8_scanWord_21 : decode cX8_scanWord 21 = .ok (.getfield 22, 3) := by decide +kernel
theorem dX8_scanWord_24 : decode cX8_scanWord 24 = .ok (.baload, 1) := by decide +kernel
theorem dX8_scanWord_25 : decode cX8_scanWord 25 = .ok (.invokestatic 47, 3) := by decide +kernel
theorem dX8_scanWord_28 : decode cX8_scanWord 28 = .ok (.ifCond .eq 42, 3) := by decide +kernel
theorem dX8_scanWord_31 : decode cX8_scanWord 31 = .ok (.aload_n 0, 1) := by decide +kernel
theorem dX8_scanWord_32 : decode cX8_scanWord 32 = .ok (.aload_n 0, 1) := by decide +kernel
theorem dX8_scanWord_33 : decode cX8_scanWord 33 = .ok (.getfield 34, 3) := by decide +kernel
theorem dX8_scanWord_36 : decode cX8_scanWord 36 = .ok (.iconst 5, 1) := by decide +kernel
theorem dX8_scanWord_37 : decode cX8_scanWord 37 = .ok (.lshl, 1) := by decide +kernel
theorem dX8_scanWord_38 : decode cX8_scanWord 38 = .ok (.aload_n 0, 1) := by decide +kernel
theorem dX8_scanWord_39 : decode cX8_scanWord 39 = .ok (.getfield 9, 3) := by decide +kernel
theorem dX8_scanWord_42 : decode cX8_scanWord 42 = .ok (.aload_n 0, 1) := by decide +kernel
theorem dX8_scanWord_43 : decode cX8_scanWord 43 = .ok (.getfield 22, 3) := by decide +kernel
theorem dX8_scanWord_46 : decode cX8_scanWord 46 = .ok (.baload, 1) := by decide +kernel
theorem dX8_scanWord_47 : decode cX8_scanWord 47 = .ok (.bipush 97, 2) := by decide +kernel
theorem dX8_scanWord_49 : decode cX8_scanWord 49 = .ok (.isub, 1) := by decide +kernel
theorem dX8_scanWord_50 : decode cX8_scanWord 50 = .ok (.iconst 1, 1) := by decide +kernel
theorem dX8_scanWord_51 : decode cX8_scanWord 51 = .ok (.iadd, 1) := by decide +kernel
theorem dX8_scanWord_52 : decode cX8_scanWord 52 = .ok (.i2l, 1) := by decide +kernel
theorem dX8_scanWord_53 : decode cX8_scanWord 53 = .ok (.lor, 1) := by decide +kernel
theorem dX8_scanWord_54 : decode cX8_scanWord 54 = .ok (.putfield 34, 3) := by decide +kernel
theorem dX8_scanWord_57 : decode cX8_scanWord 57 = .ok (.aload_n 0, 1) := by decide +kernel
theorem dX8_scanWord_58 : decode cX8_scanWord 58 = .ok (.dup, 1) := by decide +kernel
theorem dX8_scanWord_59 : decode cX8_scanWord 59 = .ok (.getfield 22, 3) := by decide +kernel
theorem dX8_scanWord_62 : decode cX8_scanWord 62 = .ok (.iconst 1, 1) := by decide +kernel
theorem dX8_scanWord_63 : decode cX8_scanWord 63 = .ok (.iadd, 1) := by decide +kernel
theorem dX8_scanWord_64 : decode cX8_scanWord 64 = .ok (.putfield 22, 3) := by decide +kernel
theorem dX8_scanWord_67 : decode cX8_scanWord 67 = .ok (.goto (-62), 3) := by decide +kernel
theorem dX8_scanWord_70 : decode cX8_scanWord 70 = .ok (.aload_n 0, 1) := by decide +kernel
theorem dX8_scanWord_71 : decode cX8_scanWord 71 = .ok (.aload_n 0, 1) := by decide +kernel
theorem dX8_scanWord_72 : decode cX8_scanWord 72 = .ok (.getfield 22, 3) := by decide +kernel
theorem dX8_scanWord_75 : decode cX8_scanWord 75 = .ok (.aload_n 0, 1) := by decide +kernel
theorem dX8_scanWord_76 : decode cX8_scanWord 76 = .ok (.getfield 28, 3) := by decide +kernel
theorem dX8_scanWord_79 : decode cX8_scanWord 79 = .ok (.isub, 1) := by decide +kernel
theorem dX8_scanWord_80 : decode cX8_scanWord 80 = .ok (.bipush 7, 2) := by decide +kernel
theorem dX8_scanWord_82 : decode cX8_scanWord 82 = .ok (.if_icmp .gt 7, 3) := by decide +kernel
theorem dX8_scanWord_85 : decode cX8_scanWord 85 = .ok (.iconst 1, 1) := by decide +kernel
theorem dX8_scanWord_86 : decode cX8_scanWord 86 = .ok (.goto 4, 3) := by decide +kernel
theorem dX8_scanWord_89 : decode cX8_scanWord 89 = .ok (.iconst 4, 1) := by decide +kernel
theorem dX8_scanWord_90 : decode cX8_scanWord 90 = .ok (.putfield 25, 3) := by decide +kernel
theorem dX8_scanWord_93 : decode cX8_scanWord 93 = .ok (.return_, 1) := by decide +kernel
def lX8_scanWord_0 : List (Nat × (Op ⊕ Nat)) := [(0, .inl (o_aload 0 1)), (1, .inl (o_pushL (lN 0) 2)), (2, .inl (o_putL 8 7 5)), (5, .inl (o_aload 0 6)), (6, .inl (o_get 8 3 9)), (9, .inl (o_aload 0 10)), (10, .inl (o_get 8 2 13)), (13, .inl (o_icmp_ge 70 16)), (16, .inl (o_aload 0 17)), (17, .inl (o_get 8 0 20)), (20, .inl (o_aload 0 21)), (21, .inl (o_get 8 3 24)), (24, .inl (o_bald 25)), (25, .inl (o_callS fX8_isLetter 1 28)), (28, .inl (o_if_eq 70 31)), (31, .inl (o_aload 0 32)), (32, .inl (o_aload 0 33)), (33, .inl (o_get 8 7 36)), (36, .inl (o_pushI (nI 5) 37)), (37, .inl (o_lshl 38)), (38, .inl (o_aload 0 39)), (39, .inl (o_get 8 0 42)), (42, .inl (o_aload 0 43)), (43, .inl (o_get 8 3 46)), (46, .inl (o_bald 47)), (47, .inl (o_pushI (nI 97) 49)), (49, .inl (o_isub 50)), (50, .inl (o_pushI (nI 1) 51)), (51, .inl (o_iadd 52)), (52, .inl (o_i2l 53)), (53, .inl (o_lor 54)), (54, .inl (o_putL 8 7 57)), (57, .inl (o_aload 0 58)), (58, .inl (o_dup 59)), (59, .inl (o_get 8 3 62)), (62, .inl (o_pushI (nI 1) 63)), (63, .inl (o_iadd 64)), (64, .inl (o_putI 8 3 67)), (67, .inl (o_goto 5)), (70, .inl (o_aload 0 71))]
def lX8_scanWord_1 : List (Nat × (Op ⊕ Nat)) := [(71, .inl (o_aload 0 72)), (72, .inl (o_get 8 3 75)), (75, .inl (o_aload 0 76)), (76, .inl (o_get 8 5 79)), (79, .inl (o_isub 80)), (80, .inl (o_pushI (nI 7) 82)), (82, .inl (o_icmp_gt 89 85)), (85, .inl (o_pushI (nI 1) 86)), (86, .inl (o_goto 90)), (89, .inl (o_pushI (nI 4) 90)), (90, .inl (o_putI 8 4 93)), (93, .inr 3)]
def lX8_scanWord : List (Nat × (Op ⊕ Nat)) := lX8_scanWord_0 ++ (lX8_scanWord_1)
theorem qX8_scanWord : yX8_scanWord.cls = RX8 ∧ yX8_scanWord.cls ≠ "java/lang/invoke/MethodHandle" ∧ yX8_scanWord.cls ≠ "java/lang/invoke/VarHandle" ∧ (parseMethodDescriptor yX8_scanWord.desc).map (fun d => d.parameters.length) = some 0 := by decide +kernel
set_option maxRecDepth 10000 in
theorem hX8_scanWord_0 (l : Launch) {p : Program} {e : Env} {s : State} {m : MethodId} {args : Array Value} {below : List Frame} {meth : Method} {c : Code} {D : va_G} {ad adV : Nat → Nat} {cA : Nat → ClassId} {K : Kt} (C0 : Cx p s m args meth c D ad adV cA cX8_scanWord 1 RX8) (hr : meth.sig.returnType = none) : ∀ q ∈ lX8_scanWord_0, Sd p l e (rmd 1) s m args below meth c (MQ below (QQ D ad cA K) args s 0 0 (AA ad)) D ad cA 1 q.1 (opOf K q.2) := List.forall_mem_cons.mpr ⟨s_aload_n C0 dX8_scanWord_0 rfl, List.forall_mem_cons.mpr ⟨s_lconst C0 dX8_scanWord_1 rfl, List.forall_mem_cons.mpr ⟨s_putL (ci := 8) (k := 7) C0 dX8_scanWord_2 inX8 tyX8_ok nmX8 rfl (by decide) rfl rfl tw1_48, List.forall_mem_cons.mpr ⟨s_aload_n C0 dX8_scanWord_5 rfl, List.forall_mem_cons.mpr ⟨s_get (ci := 8) (k := 3) C0 dX8_scanWord_6 inX8 rfl (by decide) tw1_41, List.forall_mem_cons.mpr ⟨s_aload_n C0 dX8_scanWord_9 rfl, List.forall_mem_cons.mpr ⟨s_get (ci := 8) (k := 2) C0 dX8_scanWord_10 inX8 rfl (by decide) tw1_40, List.forall_mem_cons.mpr ⟨s_icmp_ge C0 dX8_scanWord_13 rfl, List.forall_mem_cons.mpr ⟨s_aload_n C0 dX8_scanWord_16 rfl, List.forall_mem_cons.mpr ⟨s_get (ci := 8) (k := 0) C0 dX8_scanWord_17 inX8 rfl (by decide) tw1_37, List.forall_mem_cons.mpr ⟨s_aload_n C0 dX8_scanWord_20 rfl, List.forall_mem_cons.mpr ⟨s_get (ci := 8) (k := 3) C0 dX8_scanWord_21 inX8 rfl (by decide) tw1_41, List.forall_mem_cons.mpr ⟨s_bald C0 dX8_scanWord_24, List.forall_mem_cons.mpr ⟨s_callS C0 (kX8_isLetter l) dX8_scanWord_25 qX8_isLetter tw2_208 tw2_209 tw1_2 tw2_210 rfl (by decide) (by decide), List.forall_mem_cons.mpr ⟨s_if_eq C0 dX8_scanWord_28 rfl, List.forall_mem_cons.mpr ⟨s_aload_n C0 dX8_scanWord_31 rfl, List.forall_mem_cons.mpr ⟨s_aload_n C0 dX8_scanWord_32 rfl, List.forall_mem_cons.mpr ⟨s_get (ci := 8) (k := 7) C0 dX8_scanWord_33 inX8 rfl (by decide) tw1_48, List.forall_mem_cons.mpr ⟨s_iconst C0 dX8_scanWord_36 rfl, List.forall_mem_cons.mpr ⟨s_lshl C0 dX8_scanWord_37, List.forall_mem_cons.mpr ⟨s_aload_n C0 dX8_scanWord_38 rfl, List.forall_mem_cons.mpr ⟨s_get (ci := 8) (k := 0) C0 dX8_scanWord_39 inX8 rfl (by decide) tw1_37, List.forall_mem_cons.mpr ⟨s_aload_n C0 dX8_scanWord_42 rfl, List.forall_mem_cons.mpr ⟨s_get (ci := 8) (k := 3) C0 dX8_scanWord_43 inX8 rfl (by decide) tw1_41, List.forall_mem_cons.mpr ⟨s_bald C0 dX8_scanWord_46, List.forall_mem_cons.mpr ⟨s_bipush C0 dX8_scanWord_47 (by decide +kernel), List.forall_mem_cons.mpr ⟨s_isub C0 dX8_scanWord_49, List.forall_mem_cons.mpr ⟨s_iconst C0 dX8_scanWord_50 rfl, List.forall_mem_cons.mpr ⟨s_iadd C0 dX8_scanWord_51, List.forall_mem_cons.mpr ⟨s_i2l C0 dX8_scanWord_52, List.forall_mem_cons.mpr ⟨s_lor C0 dX8_scanWord_53, List.forall_mem_cons.mpr ⟨s_putL (ci := 8) (k := 7) C0 dX8_scanWord_54 inX8 tyX8_ok nmX8 rfl (by decide) rfl rfl tw1_48, List.forall_mem_cons.mpr ⟨s_aload_n C0 dX8_scanWord_57 rfl, List.forall_mem_cons.mpr ⟨s_dup C0 dX8_scanWord_58, List.forall_mem_cons.mpr ⟨s_get (ci := 8) (k := 3) C0 dX8_scanWord_59 inX8 rfl (by decide) tw1_41, List.forall_mem_cons.mpr ⟨s_iconst C0 dX8_scanWord_62 rfl, List.forall_mem_cons.mpr ⟨s_iadd C0 dX8_scanWord_63, List.forall_mem_cons.mpr ⟨s_putI (ci := 8) (k := 3) C0 dX8_scanWord_64 inX8 tyX8_ok nmX8 rfl (by decide) rfl rfl tw1_41, List.forall_mem_cons.mpr ⟨s_goto C0 dX8_scanWord_67 rfl, List.forall_mem_cons.mpr ⟨s_aload_n C0 dX8_scanWord_70 rfl, fun _ h => absurd h List.not_mem_nil⟩⟩⟩⟩⟩⟩⟩⟩⟩⟩⟩⟩⟩⟩⟩⟩⟩⟩⟩⟩⟩⟩⟩⟩⟩⟩⟩⟩⟩⟩⟩⟩⟩⟩⟩⟩⟩⟩⟩⟩
set_option maxRecDepth 10000 in
theorem hX8_scanWord_1 (l : Launch) {p : Program} {e : Env} {s : State} {m : MethodId} {args : Array Value} {below : List Frame} {meth : Method} {c : Code} {D : va_G} {ad adV : Nat → Nat} {cA : Nat → ClassId} {K : Kt} (C0 : Cx p s m args meth c D ad adV cA cX8_scanWord 1 RX8) (hr : meth.sig.returnType = none) : ∀ q ∈ lX8_scanWord_1, Sd p l e (rmd 1) s m args below meth c (MQ below (QQ D ad cA K) args s 0 0 (AA ad)) D ad cA 1 q.1 (opOf K q.2) := List.forall_mem_cons.mpr ⟨s_aload_n C0 dX8_scanWord_71 rfl, List.forall_mem_cons.mpr ⟨s_get (ci := 8) (k := 3) C0 dX8_scanWord_72 inX8 rfl (by decide) tw1_41, List.forall_mem_cons.mpr ⟨s_aload_n C0 dX8_scanWord_75 rfl, List.forall_mem_cons.mpr ⟨s_get (ci := 8) (k := 5) C0 dX8_scanWord_76 inX8 rfl (by decide) tw1_44, List.forall_mem_cons.mpr ⟨s_isub C0 dX8_scanWord_79, List.forall_mem_cons.mpr ⟨s_bipush C0 dX8_scanWord_80 (by decide +kernel), List.forall_mem_cons.mpr ⟨s_icmp_gt C0 dX8_scanWord_82 rfl, List.forall_mem_cons.mpr ⟨s_iconst C0 dX8_scanWord_85 rfl, List.forall_mem_cons.mpr ⟨s_goto C0 dX8_scanWord_86 rfl, List.forall_mem_cons.mpr ⟨s_iconst C0 dX8_scanWord_89 rfl, List.forall_mem_cons.mpr ⟨s_putI (ci := 8) (k := 4) C0 dX8_scanWord_90 inX8 tyX8_ok nmX8 rfl (by decide) rfl rfl tw1_42, List.forall_mem_cons.mpr ⟨s_vret C0 hr dX8_scanWord_93, fun _ h => absurd h List.not_mem_nil⟩⟩⟩⟩⟩⟩⟩⟩⟩⟩⟩⟩
def fX8_scanWord : Mf := mf 1 (fun K => tl K lX8_scanWord)
theorem kX8_scanWord (l : Launch) : Okm l yX8_scanWord cX8_scanWord 1 none 1 fX8_scanWord := Okm_tl (own := RX8) (by decide +kernel) rfl (fun C0 hr => List.forall_mem_append.mpr ⟨hX8_scanWord_0 l C0 hr, hX8_scanWord_1 l C0 hr⟩)
theorem dX8_isDigit_0 : decode cX8_isDigit 0 = .ok (.iload_n 0, 1) := by decide +kernel
theorem dX8_isDigit_1 : decode cX8_isDigit 1 = .ok (.bipush 48, 2) := by decide +kernel
theorem dX8_isDigit_3 : decode cX8_isDigit 3 = .ok (.if_icmp .lt 13, 3) := by decide +kernel
theorem dX8_isDigit_6 : decode cX8_isDigit 6 = .ok (.iload_n 0, 1) := by decide +kernel
theorem dX8_isDigit_7 : decode cX8_isDigit 7 = .ok (.bipush 57, 2) := by decide +kernel
theorem dX8_isDigit_9 : decode cX8_isDigit 9 = .ok (.if_icmp .gt 7, 3) := by decide +kernel
theorem dX8_isDigit_12 : decode cX8_isDigit 12 = .ok (.iconst 1, 1) := by decide +kernel
theorem dX8_isDigit_13 : decode cX8_isDigit 13 = .ok (.goto 4, 3) := by decide +kernel
theorem dX8_isDigit_16 : decode cX8_isDigit 16 = .ok (.iconst 0, 1) := by decide +kernel
theorem dX8_isDigit_17 : decode cX8_isDigit 17 = .ok (.ireturn, 1) := by decide +kernel
def lX8_isDigit : List (Nat × (Op ⊕ Nat)) := [(0, .inl (o_iload 0 1)), (1, .inl (o_pushI (nI 48) 3)), (3, .inl (o_icmp_lt 16 6)), (6, .inl (o_iload 0 7)), (7, .inl (o_pushI (nI 57) 9)), (9, .inl (o_icmp_gt 16 12)), (12, .inl (o_pushI (nI 1) 13)), (13, .inl (o_goto 17)), (16, .inl (o_pushI (nI 0) 17)), (17, .inr 1)]
theorem qX8_isDigit : yX8_isDigit.cls ≠ "java/lang/invoke/MethodHandle" ∧ yX8_isDigit.cls ≠ "java/lang/invoke/VarHandle" ∧ (parseMethodDescriptor yX8_isDigit.desc).map (fun d => d.parameters.length) = some 1 := by decide +kernel
set_option maxRecDepth 10000 in
theorem hX8_isDigit_0 (l : Launch) {p : Program} {e : Env} {s : State} {m : MethodId} {args : Array Value} {below : List Frame} {meth : Method} {c : Code} {D : va_G} {ad adV : Nat → Nat} {cA : Nat → ClassId} {K : Kt} (C0 : Cx p s m args meth c D ad adV cA cX8_isDigit 1 RX8) (hr : meth.sig.returnType = (some .boolean)) : ∀ q ∈ lX8_isDigit, Sd p l e (rmd 0) s m args below meth c (MQ below (QQ D ad cA K) args s 0 0 (AA ad)) D ad cA 1 q.1 (opOf K q.2) := List.forall_mem_cons.mpr ⟨s_iload_n C0 dX8_isDigit_0 rfl, List.forall_mem_cons.mpr ⟨s_bipush C0 dX8_isDigit_1 (by decide +kernel), List.forall_mem_cons.mpr ⟨s_icmp_lt C0 dX8_isDigit_3 rfl, List.forall_mem_cons.mpr ⟨s_iload_n C0 dX8_isDigit_6 rfl, List.forall_mem_cons.mpr ⟨s_bipush C0 dX8_isDigit_7 (by decide +kernel), List.forall_mem_cons.mpr ⟨s_icmp_gt C0 dX8_isDigit_9 rfl, List.forall_mem_cons.mpr ⟨s_iconst C0 dX8_isDigit_12 rfl, List.forall_mem_cons.mpr ⟨s_goto C0 dX8_isDigit_13 rfl, List.forall_mem_cons.mpr ⟨s_iconst C0 dX8_isDigit_16 rfl, List.forall_mem_cons.mpr ⟨s_zret C0 hr dX8_isDigit_17, fun _ h => absurd h List.not_mem_nil⟩⟩⟩⟩⟩⟩⟩⟩⟩⟩
def fX8_isDigit : Mf := mf 1 (fun K => tl K lX8_isDigit)
theorem kX8_isDigit (l : Launch) : Okm l yX8_isDigit cX8_isDigit 1 (some .boolean) 0 fX8_isDigit := Okm_tl (own := RX8) (by decide +kernel) rfl (fun C0 hr => hX8_isDigit_0 l C0 hr)
theorem dX8_scanWhole_0 : decode cX8_scanWhole 0 = .ok (.aload_n 0, 1) := by decide +kernel
theorem dX8_scanWhole_1 : decode cX8_scanWhole 1 = .ok (.iconst 0, 1) := by decide +kernel
theorem dX8_scanWhole_2 : decode cX8_scanWhole 2 = .ok (.putfield 31, 3) := by decide +kernel
theorem dX8_scanWhole_5 : decode cX8_scanWhole 5 = .ok (.aload_n 0, 1) := by decide +kernel
theorem dX8_scanWhole_6 : decode cX8_scanWhole 6 = .ok (.getfield 22, 3) := by decide +kernel
theorem dX8_scanWhole_9 : decode cX8_scanWhole 9 = .ok (.aload_n 0, 1) := by decide +kernel
theorem dX8_scanWhole_10 : decode cX8_scanWhole 10 = .ok (.getfield 19, 3) := by decide +kernel
theorem dX8_scanWhole_13 : decode cX8_scanWhole 13 = .ok (.if_icmp .ge 55, 3) := by decide +kernel
theorem dX8_scanWhole_16 : decode cX8_scanWhole 16 = .ok (.aload_n 0, 1) := by decide +kernel
theorem dX8_scanWhole_17 : decode cX8_scanWhole 17 = .ok (.getfield 9, 3) := by decide +kernel
theorem dX8_scanWhole_20 : decode cX8_scanWhole 20 = .ok (.aload_n 0, 1) := by decide +kernel
theorem dX8_scanWhole_21 : decode cX8_scanWhole 21 = .ok (.getfield 22, 3) := by decide +kernel
theorem dX8_scanWhole_24 : decode cX8_scanWhole 24 = .ok (.baload, 1) := by decide +kernel
theorem dX8_scanWhole_25 : decode cX8_scanWhole 25 = .ok (.invokestatic 54, 3) := by decide +kernel
theorem dX8_scanWhole_28 : decode cX8_scanWhole 28 = .ok (.ifCond .eq 40, 3) := by decide +kernel
theorem dX8_scanWhole_31 : decode cX8_scanWhole 31 = .ok (.aload_n 0, 1) := by decide +kernel
theorem dX8_scanWhole_32 : decode cX8_scanWhole 32 = .ok (.bipush 10, 2) := by decide +kernel
theorem dX8_scanWhole_34 : decode cX8_scanWhole 34 = .ok (.aload_n 0, 1) := by decide +kernel
theorem dX8_scanWhole_35 : decode cX8_scanWhole 35 = .ok (.getfield 31, 3) := by decide +kernel
theorem dX8_scanWhole_38 : decode cX8_scanWhole 38 = .ok (.imul, 1) := by decide +kernel
theorem dX8_scanWhole_39 : decode cX8_scanWhole 39 = .ok (.aload_n 0, 1) := by decide +kernel
theorem dX8_scanWhole_40 : decode cX8_scanWhole 40 = .ok (.getfield 9, 3) := by decide +kernel
theorem dX8_scanWhole_43 : decode cX8_scanWhole 43 = .ok (.aload_n 0, 1) := by decide +kernel
theorem dX8_scanWhole_44 : decode cX8_scanWhole 44 = .ok (.getfield 22, 3) := by decide +kernel
theorem dX8_scanWhole_47 : decode cX8_scanWhole 47 = .ok (.baload, 1) := by decide +kernel
theorem dX8_scanWhole_48 : decode cX8_scanWhole 48 = .ok (.bipush 48, 2) := by decide +kernel
theorem dX8_scanWhole_50 : decode cX8_scanWhole 50 = .ok (.isub, 1) := by decide +kernel
theorem dX8_scanWhole_51 : decode cX8_scanWhole 51 = .ok (.iadd, 1) := by decide +kernel
theorem dX8_scanWhole_52 : decode cX8_scanWhole 52 = .ok (.putfield 31, 3) := by decide +kernel
theorem dX8_scanWhole_55 : decode cX8_scanWhole 55 = .ok (.aload_n 0, 1) := by decide +kernel
theorem dX8_scanWhole_56 : decode cX8_scanWhole 56 = .ok (.dup, 1) := by decide +kernel
theorem dX8_scanWhole_57 : decode cX8_scanWhole 57 = .ok (.getfield 22, 3) := by decide +kernel
theorem dX8_scanWhole_60 : decode cX8_scanWhole 60 = .ok (.iconst 1, 1) := by decide +kernel
theorem dX8_scanWhole_61 : decode cX8_scanWhole 61 = .ok (.iadd, 1) := by decide +kernel
theorem dX8_scanWhole_62 : decode cX8_scanWhole 62 = .ok (.putfield 22, 3) := by decide +kernel
theorem dX8_scanWhole_65 : decode cX8_scanWhole 65 = .ok (.goto (-60), 3) := by decide +kernel
theorem dX8_scanWhole_68 : decode cX8_scanWhole 68 = .ok (.aload_n 0, 1) := by decide +kernel
theorem dX8_scanWhole_69 : decode cX8_scanWhole 69 = .ok (.aload_n 0, 1) := by decide +kernel
theorem dX8_scanWhole_70 : decode cX8_scanWhole 70 = .ok (.getfield 22, 3) := by decide +kernel
theorem dX8_scanWhole_73 : decode cX8_scanWhole 73 = .ok (.aload_n 0, 1) := by decide +kernel
theorem dX8_scanWhole_74 : decode cX8_scanWhole 74 = .ok (.getfield 28, 3) := by decide +kernel
theorem dX8_scanWhole_77 : decode cX8_scanWhole 77 = .ok (.isub, 1) := by decide +kernel
theorem dX8_scanWhole_78 : decode cX8_scanWhole 78 = .ok (.iconst 3, 1) := by decide +kernel
theorem dX8_scanWhole_79 : decode cX8_scanWhole 79 = .ok (.if_icmp .gt 7, 3) := by decide +kernel
theorem dX8_scanWhole_82 : decode cX8_scanWhole 82 = .ok (.iconst 2, 1) := by decide +kernel
theorem dX8_scanWhole_83 : decode cX8_scanWhole 83 = .ok (.goto 4, 3) := by decide +kernel
theorem dX8_scanWhole_86 : decode cX8_scanWhole 86 = .ok (.iconst 4, 1) := by decide +kernel
theorem dX8_scanWhole_87 : decode cX8_scanWhole 87 = .ok (.putfield 25, 3) := by decide +kernel
theorem dX8_scanWhole_90 : decode cX8_scanWhole 90 = .ok (.return_, 1) := by decide +kernel
def lX8_scanWhole_0 : List (Nat × (Op ⊕ Nat)) := [(0, .inl (o_aload 0 1)), (1, .inl (o_pushI (nI 0) 2)), (2, .inl (o_putI 8 6 5)), (5, .inl (o_aload 0 6)), (6, .inl (o_get 8 3 9)), (9, .inl (o_aload 0 10)), (10, .inl (o_get 8 2 13)), (13, .inl (o_icmp_ge 68 16)), (16, .inl (o_aload 0 17)), (17, .inl (o_get 8 0 20)), (20, .inl (o_aload 0 21)), (21, .inl (o_get 8 3 24)), (24, .inl (o_bald 25)), (25, .inl (o_callS fX8_isDigit 1 28)), (28, .inl (o_if_eq 68 31)), (31, .inl (o_aload 0 32)), (32, .inl (o_pushI (nI 10) 34)), (34, .inl (o_aload 0 35)), (35, .inl (o_get 8 6 38)), (38, .inl (o_imul 39)), (39, .inl (o_aload 0 40)), (40, .inl (o_get 8 0 43)), (43, .inl (o_aload 0 44)), (44, .inl (o_get 8 3 47)), (47, .inl (o_bald 48)), (48, .inl (o_pushI (nI 48) 50)), (50, .inl (o_isub 51)), (51, .inl (o_iadd 52)), (52, .inl (o_putI 8 6 55)), (55, .inl (o_aload 0 56)), (56, .inl (o_dup 57)), (57, .inl (o_get 8 3 60)), (60, .inl (o_pushI (nI 1) 61)), (61, .inl (o_iadd 62)), (62, .inl (o_putI 8 3 65)), (65, .inl (o_goto 5)), (68, .inl (o_aload 0 69)), (69, .inl (o_aload 0 70)), (70, .inl (o_get 8 3 73)), (73, .inl (o_aload 0 74))]
def lX8_scanWhole_1 : List (Nat × (Op ⊕ Nat)) := [(74, .inl (o_get 8 5 77)), (77, .inl (o_isub 78)), (78, .inl (o_pushI (nI 3) 79)), (79, .inl (o_icmp_gt 86 82)), (82, .inl (o_pushI (nI 2) 83)), (83, .inl (o_goto 87)), (86, .inl (o_pushI (nI 4) 87)), (87, .inl (o_putI 8 4 90)), (90, .inr 3)]
def lX8_scanWhole : List (Nat × (Op ⊕ Nat)) := lX8_scanWhole_0 ++ (lX8_scanWhole_1)
theorem qX8_scanWhole : yX8_scanWhole.cls = RX8 ∧ yX8_scanWhole.cls ≠ "java/lang/invoke/MethodHandle" ∧ yX8_scanWhole.cls ≠ "java/lang/invoke/VarHandle" ∧ (parseMethodDescriptor yX8_scanWhole.desc).map (fun d => d.parameters.length) = some 0 := by decide +kernel
set_option maxRecDepth 10000 in
theorem hX8_scanWhole_0 (l : Launch) {p : Program} {e : Env} {s : State} {m : MethodId} {args : Array Value} {below : List Frame} {meth : Method} {c : Code} {D : va_G} {ad adV : Nat → Nat} {cA : Nat → ClassId} {K : Kt} (C0 : Cx p s m args meth c D ad adV cA cX8_scanWhole 1 RX8) (hr : meth.sig.returnType = none) : ∀ q ∈ lX8_scanWhole_0, Sd p l e (rmd 1) s m args below meth c (MQ below (QQ D ad cA K) args s 0 0 (AA ad)) D ad cA 1 q.1 (opOf K q.2) := List.forall_mem_cons.mpr ⟨s_aload_n C0 dX8_scanWhole_0 rfl, List.forall_mem_cons.mpr ⟨s_iconst C0 dX8_scanWhole_1 rfl, List.forall_mem_cons.mpr ⟨s_putI (ci := 8) (k := 6) C0 dX8_scanWhole_2 inX8 tyX8_ok nmX8 rfl (by decide) rfl rfl tw1_46, List.forall_mem_cons.mpr ⟨s_aload_n C0 dX8_scanWhole_5 rfl, List.forall_mem_cons.mpr ⟨s_get (ci := 8) (k := 3) C0 dX8_scanWhole_6 inX8 rfl (by decide) tw1_41, List.forall_mem_cons.mpr ⟨s_aload_n C0 dX8_scanWhole_9 rfl, List.forall_mem_cons.mpr ⟨s_get (ci := 8) (k := 2) C0 dX8_scanWhole_10 inX8 rfl (by decide) tw1_40, List.forall_mem_cons.mpr ⟨s_icmp_ge C0 dX8_scanWhole_13 rfl, List.forall_mem_cons.mpr ⟨s_aload_n C0 dX8_scanWhole_16 rfl, List.forall_mem_cons.mpr ⟨s_get (ci := 8) (k := 0) C0 dX8_scanWhole_17 inX8 rfl (by decide) tw1_37, List.forall_mem_cons.mpr ⟨s_aload_n C0 dX8_scanWhole_20 rfl, List.forall_mem_cons.mpr ⟨s_get (ci := 8) (k := 3) C0 dX8_scanWhole_21 inX8 rfl (by decide) tw1_41, List.forall_mem_cons.mpr ⟨s_bald C0 dX8_scanWhole_24, List.forall_mem_cons.mpr ⟨s_callS C0 (kX8_isDigit l) dX8_scanWhole_25 qX8_isDigit tw2_215 tw2_216 tw1_2 tw2_217 rfl (by decide) (by decide), List.forall_mem_cons.mpr ⟨s_if_eq C0 dX8_scanWhole_28 rfl, List.forall_mem_cons.mpr ⟨s_aload_n C0 dX8_scanWhole_31 rfl, List.forall_mem_cons.mpr ⟨s_bipush C0 dX8_scanWhole_32 (by decide +kernel), List.forall_mem_cons.mpr ⟨s_aload_n C0 dX8_scanWhole_34 rfl, List.forall_mem_cons.mpr ⟨s_get (ci := 8) (k := 6) C0 dX8_scanWhole_35 inX8 rfl (by decide) tw1_46, List.forall_mem_cons.mpr ⟨s_imul C0 dX8_scanWhole_38, List.forall_mem_cons.mpr ⟨s_aload_n C0 dX8_scanWhole_39 rfl, List.forall_mem_cons.mpr ⟨s_get (ci := 8) (k := 0) C0 dX8_scanWhole_40 inX8 rfl (by decide) tw1_37, List.forall_mem_cons.mpr ⟨s_aload_n C0 dX8_scanWhole_43 rfl, List.forall_mem_cons.mpr ⟨s_get (ci := 8) (k := 3) C0 dX8_scanWhole_44 inX8 rfl (by decide) tw1_41, List.forall_mem_cons.mpr ⟨s_bald C0 dX8_scanWhole_47, List.forall_mem_cons.mpr ⟨s_bipush C0 dX8_scanWhole_48 (by decide +kernel), List.forall_mem_cons.mpr ⟨s_isub C0 dX8_scanWhole_50, List.forall_mem_cons.mpr ⟨s_iadd C0 dX8_scanWhole_51, List.forall_mem_cons.mpr ⟨s_putI (ci := 8) (k := 6) C0 dX8_scanWhole_52 inX8 tyX8_ok nmX8 rfl (by decide) rfl rfl tw1_46, List.forall_mem_cons.mpr ⟨s_aload_n C0 dX8_scanWhole_55 rfl, List.forall_mem_cons.mpr ⟨s_dup C0 dX8_scanWhole_56, List.forall_mem_cons.mpr ⟨s_get (ci := 8) (k := 3) C0 dX8_scanWhole_57 inX8 rfl (by decide) tw1_41, List.forall_mem_cons.mpr ⟨s_iconst C0 dX8_scanWhole_60 rfl, List.forall_mem_cons.mpr ⟨s_iadd C0 dX8_scanWhole_61, List.forall_mem_cons.mpr ⟨s_putI (ci := 8) (k := 3) C0 dX8_scanWhole_62 inX8 tyX8_ok nmX8 rfl (by decide) rfl rfl tw1_41, List.forall_mem_cons.mpr ⟨s_goto C0 dX8_scanWhole_65 rfl, List.forall_mem_cons.mpr ⟨s_aload_n C0 dX8_scanWhole_68 rfl, List.forall_mem_cons.mpr ⟨s_aload_n C0 dX8_scanWhole_69 rfl, List.forall_mem_cons.mpr ⟨s_get (ci := 8) (k := 3) C0 dX8_scanWhole_70 inX8 rfl (by decide) tw1_41, List.forall_mem_cons.mpr ⟨s_aload_n C0 dX8_scanWhole_73 rfl, fun _ h => absurd h List.not_mem_nil⟩⟩⟩⟩⟩⟩⟩⟩⟩⟩⟩⟩⟩⟩⟩⟩⟩⟩⟩⟩⟩⟩⟩⟩⟩⟩⟩⟩⟩⟩⟩⟩⟩⟩⟩⟩⟩⟩⟩⟩
set_option maxRecDepth 10000 in
theorem hX8_scanWhole_1 (l : Launch) {p : Program} {e : Env} {s : State} {m : MethodId} {args : Array Value} {below : List Frame} {meth : Method} {c : Code} {D : va_G} {ad adV : Nat → Nat} {cA : Nat → ClassId} {K : Kt} (C0 : Cx p s m args meth c D ad adV cA cX8_scanWhole 1 RX8) (hr : meth.sig.returnType = none) : ∀ q ∈ lX8_scanWhole_1, Sd p l e (rmd 1) s m args below meth c (MQ below (QQ D ad cA K) args s 0 0 (AA ad)) D ad cA 1 q.1 (opOf K q.2) := List.forall_mem_cons.mpr ⟨s_get (ci := 8) (k := 5) C0 dX8_scanWhole_74 inX8 rfl (by decide) tw1_44, List.forall_mem_cons.mpr ⟨s_isub C0 dX8_scanWhole_77, List.forall_mem_cons.mpr ⟨s_iconst C0 dX8_scanWhole_78 rfl, List.forall_mem_cons.mpr ⟨s_icmp_gt C0 dX8_scanWhole_79 rfl, List.forall_mem_cons.mpr ⟨s_iconst C0 dX8_scanWhole_82 rfl, List.forall_mem_cons.mpr ⟨s_goto C0 dX8_scanWhole_83 rfl, List.forall_mem_cons.mpr ⟨s_iconst C0 dX8_scanWhole_86 rfl, List.forall_mem_cons.mpr ⟨s_putI (ci := 8) (k := 4) C0 dX8_scanWhole_87 inX8 tyX8_ok nmX8 rfl (by decide) rfl rfl tw1_42, List.forall_mem_cons.mpr ⟨s_vret C0 hr dX8_scanWhole_90, fun _ h => absurd h List.not_mem_nil⟩⟩⟩⟩⟩⟩⟩⟩⟩
def fX8_scanWhole : Mf := mf 1 (fun K => tl K lX8_scanWhole)
theorem kX8_scanWhole (l : Launch) : Okm l yX8_scanWhole cX8_scanWhole 1 none 1 fX8_scanWhole := Okm_tl (own := RX8) (by decide +kernel) rfl (fun C0 hr => List.forall_mem_append.mpr ⟨hX8_scanWhole_0 l C0 hr, hX8_scanWhole_1 l C0 hr⟩)
