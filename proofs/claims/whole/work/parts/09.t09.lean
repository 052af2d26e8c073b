theorem dX11_take_0 : decode cX11_take 0 = .ok (.aload_n 0, 1) := by decide +kernel
theorem dX11_take_1 : decode cX11_take 1 = .ok (.aload_n 0, 1) := by decide +kernel
theorem dX11_take_2 : decode cX11_take 2 = .ok (.iload_n 1, 1) := by decide +kernel
theorem dX11_take_3 : decode cX11_take 3 = .ok (.invokevirtual 217, 3) := by decide +kernel
theorem dX11_take_6 : decode cX11_take 6 = .ok (.ifCond .eq 26, 3) := by decide +kernel
theorem dX11_take_9 : decode cX11_take 9 = .ok (.iload_n 2, 1) := by decide +kernel
theorem dX11_take_10 : decode cX11_take 10 = .ok (.iconst 0, 1) := by decide +kernel
theorem dX11_take_11 : decode cX11_take 11 = .ok (.aload_n 0, 1) := by decide +kernel
theorem dX11_take_12 : decode cX11_take 12 = .ok (.getfield 17, 3) := by decide +kernel
theorem dX11_take_15 : decode cX11_take 15 = .ok (.bipush 106, 2) := by decide +kernel
theorem dX11_take_17 : decode cX11_take 17 = .ok (.iload_n 1, 1) := by decide +kernel
theorem dX11_take_18 : decode cX11_take 18 = .ok (.iadd, 1) := by decide +kernel
theorem dX11_take_19 : decode cX11_take 19 = .ok (.iaload, 1) := by decide +kernel
theorem dX11_take_20 : decode cX11_take 20 = .ok (.iconst 1, 1) := by decide +kernel
theorem dX11_take_21 : decode cX11_take 21 = .ok (.isub, 1) := by decide +kernel
theorem dX11_take_22 : decode cX11_take 22 = .ok (.invokestatic 76, 3) := by decide +kernel
theorem dX11_take_25 : decode cX11_take 25 = .ok (.ifCond .eq 7, 3) := by decide +kernel
theorem dX11_take_28 : decode cX11_take 28 = .ok (.iconst 1, 1) := by decide +kernel
theorem dX11_take_29 : decode cX11_take 29 = .ok (.goto 4, 3) := by decide +kernel
theorem dX11_take_32 : decode cX11_take 32 = .ok (.iconst 0, 1) := by decide +kernel
theorem dX11_take_33 : decode cX11_take 33 = .ok (.invokestatic 182, 3) := by decide +kernel
theorem dX11_take_36 : decode cX11_take 36 = .ok (.invokevirtual 159, 3) := by decide +kernel
theorem dX11_take_39 : decode cX11_take 39 = .ok (.ifCond .eq 5, 3) := by decide +kernel
theorem dX11_take_42 : decode cX11_take 42 = .ok (.iconst (-1), 1) := by decide +kernel
theorem dX11_take_43 : decode cX11_take 43 = .ok (.ireturn, 1) := by decide +kernel
theorem dX11_take_44 : decode cX11_take 44 = .ok (.aload_n 0, 1) := by decide +kernel
theorem dX11_take_45 : decode cX11_take 45 = .ok (.invokevirtual 295, 3) := by decide +kernel
theorem dX11_take_48 : decode cX11_take 48 = .ok (.aload_n 0, 1) := by decide +kernel
theorem dX11_take_49 : decode cX11_take 49 = .ok (.iload_n 1, 1) := by decide +kernel
theorem dX11_take_50 : decode cX11_take 50 = .ok (.iload_n 2, 1) := by decide +kernel
theorem dX11_take_51 : decode cX11_take 51 = .ok (.invokevirtual 198, 3) := by decide +kernel
theorem dX11_take_54 : decode cX11_take 54 = .ok (.istore_n 3, 1) := by decide +kernel
theorem dX11_take_55 : decode cX11_take 55 = .ok (.aload_n 0, 1) := by decide +kernel
theorem dX11_take_56 : decode cX11_take 56 = .ok (.getfield 17, 3) := by decide +kernel
theorem dX11_take_59 : decode cX11_take 59 = .ok (.bipush 106, 2) := by decide +kernel
theorem dX11_take_61 : decode cX11_take 61 = .ok (.iload_n 1, 1) := by decide +kernel
theorem dX11_take_62 : decode cX11_take 62 = .ok (.iadd, 1) := by decide +kernel
theorem dX11_take_63 : decode cX11_take 63 = .ok (.dup2, 1) := by decide +kernel
theorem dX11_take_64 : decode cX11_take 64 = .ok (.iaload, 1) := by decide +kernel
theorem dX11_take_65 : decode cX11_take 65 = .ok (.iconst 1, 1) := by decide +kernel
theorem dX11_take_66 : decode cX11_take 66 = .ok (.isub, 1) := by decide +kernel
theorem dX11_take_67 : decode cX11_take 67 = .ok (.iastore, 1) := by decide +kernel
theorem dX11_take_68 : decode cX11_take 68 = .ok (.iload_n 2, 1) := by decide +kernel
theorem dX11_take_69 : decode cX11_take 69 = .ok (.istore 4, 2) := by decide +kernel
theorem dX11_take_71 : decode cX11_take 71 = .ok (.iload 4, 2) := by decide +kernel
theorem dX11_take_73 : decode cX11_take 73 = .ok (.aload_n 0, 1) := by decide +kernel
theorem dX11_take_74 : decode cX11_take 74 = .ok (.getfield 17, 3) := by decide +kernel
theorem dX11_take_77 : decode cX11_take 77 = .ok (.bipush 106, 2) := by decide +kernel
theorem dX11_take_79 : decode cX11_take 79 = .ok (.iload_n 1, 1) := by decide +kernel
theorem dX11_take_80 : decode cX11_take 80 = .ok (.iadd, 1) := by decide +kernel
theorem dX11_take_81 : decode cX11_take 81 = .ok (.iaload, 1) := by decide +kernel
theorem dX11_take_82 : decode cX11_take 82 = .ok (.if_icmp .ge 58, 3) := by decide +kernel
theorem dX11_take_85 : decode cX11_take 85 = .ok (.aload_n 0, 1) := by decide +kernel
theorem dX11_take_86 : decode cX11_take 86 = .ok (.getfield 17, 3) := by decide +kernel
theorem dX11_take_89 : decode cX11_take 89 = .ok (.bipush 126, 2) := by decide +kernel
theorem dX11_take_91 : decode cX11_take 91 = .ok (.aload_n 0, 1) := by decide +kernel
theorem dX11_take_92 : decode cX11_take 92 = .ok (.iload_n 1, 1) := by decide +kernel
theorem dX11_take_93 : decode cX11_take 93 = .ok (.iload 4, 2) := by decide +kernel
theorem dX11_take_95 : decode cX11_take 95 = .ok (.invokevirtual 195, 3) := by decide +kernel
theorem dX11_take_98 : decode cX11_take 98 = .ok (.iadd, 1) := by decide +kernel
theorem dX11_take_99 : decode cX11_take 99 = .ok (.aload_n 0, 1) := by decide +kernel
theorem dX11_take_100 : decode cX11_take 100 = .ok (.iload_n 1, 1) := by decide +kernel
theorem dX11_take_101 : decode cX11_take 101 = .ok (.iload 4, 2) := by decide +kernel
theorem dX11_take_103 : decode cX11_take 103 = .ok (.iconst 1, 1) := by decide +kernel
theorem dX11_take_104 : decode cX11_take 104 = .ok (.iadd, 1) := by decide +kernel
theorem dX11_take_105 : decode cX11_take 105 = .ok (.invokevirtual 201, 3) := by decide +kernel
theorem dX11_take_108 : decode cX11_take 108 = .ok (.iastore, 1) := by decide +kernel
theorem dX11_take_109 : decode cX11_take 109 = .ok (.aload_n 0, 1) := by decide +kernel
theorem dX11_take_110 : decode cX11_take 110 = .ok (.getfield 17, 3) := by decide +kernel
theorem dX11_take_113 : decode cX11_take 113 = .ok (.sipush 186, 3) := by decide +kernel
theorem dX11_take_116 : decode cX11_take 116 = .ok (.aload_n 0, 1) := by decide +kernel
theorem dX11_take_117 : decode cX11_take 117 = .ok (.iload_n 1, 1) := by decide +kernel
theorem dX11_take_118 : decode cX11_take 118 = .ok (.iload 4, 2) := by decide +kernel
theorem dX11_take_120 : decode cX11_take 120 = .ok (.invokevirtual 195, 3) := by decide +kernel
theorem dX11_take_123 : decode cX11_take 123 = .ok (.iadd, 1) := by decide +kernel
theorem dX11_take_124 : decode cX11_take 124 = .ok (.aload_n 0, 1) := by decide +kernel
theorem dX11_take_125 : decode cX11_take 125 = .ok (.iload_n 1, 1) := by decide +kernel
theorem dX11_take_126 : decode cX11_take 126 = .ok (.iload 4, 2) := by decide +kernel
theorem dX11_take_128 : decode cX11_take 128 = .ok (.iconst 1, 1) := by decide +kernel
theorem dX11_take_129 : decode cX11_take 129 = .ok (.iadd, 1) := by decide +kernel
theorem dX11_take_130 : decode cX11_take 130 = .ok (.invokevirtual 198, 3) := by decide +kernel
theorem dX11_take_133 : decode cX11_take 133 = .ok (.iastore, 1) := by decide +kernel
theorem dX11_take_134 : decode cX11_take 134 = .ok (.iinc 4 1, 3) := by decide +kernel
theorem dX11_take_137 : decode cX11_take 137 = .ok (.goto (-66), 3) := by decide +kernel
theorem dX11_take_140 : decode cX11_take 140 = .ok (.iload_n 3, 1) := by decide +kernel
theorem dX11_take_141 : decode cX11_take 141 = .ok (.ireturn, 1) := by decide +kernel
def lX11_take_0 : List (Nat × (Op ⊕ Nat)) := [(0, .inl (o_aload 0 1)), (1, .inl (o_aload 0 2)), (2, .inl (o_iload 1 3)), (3, .inl (o_callV fX11_isGame 1 11 6)), (6, .inl (o_if_eq 32 9)), (9, .inl (o_iload 2 10)), (10, .inl (o_pushI (nI 0) 11)), (11, .inl (o_aload 0 12)), (12, .inl (o_get 11 7 15)), (15, .inl (o_pushI (nI 106) 17)), (17, .inl (o_iload 1 18)), (18, .inl (o_iadd 19)), (19, .inl (o_iald 20)), (20, .inl (o_pushI (nI 1) 21)), (21, .inl (o_isub 22)), (22, .inl (o_callS fX11_in 3 25)), (25, .inl (o_if_eq 32 28)), (28, .inl (o_pushI (nI 1) 29)), (29, .inl (o_goto 33)), (32, .inl (o_pushI (nI 0) 33)), (33, .inl (o_callS fX11_unless 1 36)), (36, .inl (o_callV fX11_isRefused 1 11 39)), (39, .inl (o_if_eq 44 42)), (42, .inl (o_pushI ((-1)) 43)), (43, .inr 0), (44, .inl (o_aload 0 45)), (45, .inl (o_callV fX11_remembers 0 11 48)), (48, .inl (o_aload 0 49)), (49, .inl (o_iload 1 50)), (50, .inl (o_iload 2 51)), (51, .inl (o_callV fX11_throwsAt 2 11 54)), (54, .inl (o_istore 3 55)), (55, .inl (o_aload 0 56)), (56, .inl (o_get 11 7 59)), (59, .inl (o_pushI (nI 106) 61)), (61, .inl (o_iload 1 62)), (62, .inl (o_iadd 63)), (63, .inl (o_dup2 64)), (64, .inl (o_iald 65)), (65, .inl (o_pushI (nI 1) 66))]
def lX11_take_1 : List (Nat × (Op ⊕ Nat)) := [(66, .inl (o_isub 67)), (67, .inl (o_iast 68)), (68, .inl (o_iload 2 69)), (69, .inl (o_istore 4 71)), (71, .inl (o_iload 4 73)), (73, .inl (o_aload 0 74)), (74, .inl (o_get 11 7 77)), (77, .inl (o_pushI (nI 106) 79)), (79, .inl (o_iload 1 80)), (80, .inl (o_iadd 81)), (81, .inl (o_iald 82)), (82, .inl (o_icmp_ge 140 85)), (85, .inl (o_aload 0 86)), (86, .inl (o_get 11 7 89)), (89, .inl (o_pushI (nI 126) 91)), (91, .inl (o_aload 0 92)), (92, .inl (o_iload 1 93)), (93, .inl (o_iload 4 95)), (95, .inl (o_callV fX11_slot 2 11 98)), (98, .inl (o_iadd 99)), (99, .inl (o_aload 0 100)), (100, .inl (o_iload 1 101)), (101, .inl (o_iload 4 103)), (103, .inl (o_pushI (nI 1) 104)), (104, .inl (o_iadd 105)), (105, .inl (o_callV fX11_who 2 11 108)), (108, .inl (o_iast 109)), (109, .inl (o_aload 0 110)), (110, .inl (o_get 11 7 113)), (113, .inl (o_pushI (nI 186) 116)), (116, .inl (o_aload 0 117)), (117, .inl (o_iload 1 118)), (118, .inl (o_iload 4 120)), (120, .inl (o_callV fX11_slot 2 11 123)), (123, .inl (o_iadd 124)), (124, .inl (o_aload 0 125)), (125, .inl (o_iload 1 126)), (126, .inl (o_iload 4 128)), (128, .inl (o_pushI (nI 1) 129)), (129, .inl (o_iadd 130))]
def lX11_take_2 : List (Nat × (Op ⊕ Nat)) := [(130, .inl (o_callV fX11_throwsAt 2 11 133)), (133, .inl (o_iast 134)), (134, .inl (o_iinc 4 (nI 1) 137)), (137, .inl (o_goto 71)), (140, .inl (o_iload 3 141)), (141, .inr 0)]
def lX11_take : List (Nat × (Op ⊕ Nat)) := lX11_take_0 ++ (lX11_take_1 ++ (lX11_take_2))
theorem qX11_take : yX11_take.cls = RX11 ∧ yX11_take.cls ≠ "java/lang/invoke/MethodHandle" ∧ yX11_take.cls ≠ "java/lang/invoke/VarHandle" ∧ (parseMethodDescriptor yX11_take.desc).map (fun d => d.parameters.length) = some 2 := by decide +kernel
set_option maxRecDepth 10000 in
theorem hX11_take_0 (l : Launch) {p : Program} {e : Env} {s : State} {m : MethodId} {args : Array Value} {below : List Frame} {meth : Method} {c : Code} {D : va_G} {ad adV : Nat → Nat} {cA : Nat → ClassId} {K : Kt} (C0 : Cx p s m args meth c D ad adV cA cX11_take 5 RX11) (hr : meth.sig.returnType = (some .int)) : ∀ q ∈ lX11_take_0, Sd p l e (rmd 2) s m args below meth c (MQ below (QQ D ad cA K) args s 0 0 (AA ad)) D ad cA 5 q.1 (opOf K q.2) := List.forall_mem_cons.mpr ⟨s_aload_n C0 dX11_take_0 rfl, List.forall_mem_cons.mpr ⟨s_aload_n C0 dX11_take_1 rfl, List.forall_mem_cons.mpr ⟨s_iload_n C0 dX11_take_2 rfl, List.forall_mem_cons.mpr ⟨s_callV (ci := 11) C0 (kX11_isGame l) dX11_take_3 rfl qX11_isGame tw7_14 tw7_16 twp_66 tw1_12 tw7_17 rfl (by decide) (by decide), List.forall_mem_cons.mpr ⟨s_if_eq C0 dX11_take_6 rfl, List.forall_mem_cons.mpr ⟨s_iload_n C0 dX11_take_9 rfl, List.forall_mem_cons.mpr ⟨s_iconst C0 dX11_take_10 rfl, List.forall_mem_cons.mpr ⟨s_aload_n C0 dX11_take_11 rfl, List.forall_mem_cons.mpr ⟨s_get (ci := 11) (k := 7) C0 dX11_take_12 inX11 rfl (by decide) tw6_18, List.forall_mem_cons.mpr ⟨s_bipush C0 dX11_take_15 (by decide +kernel), List.forall_mem_cons.mpr ⟨s_iload_n C0 dX11_take_17 rfl, List.forall_mem_cons.mpr ⟨s_iadd C0 dX11_take_18, List.forall_mem_cons.mpr ⟨s_iald C0 dX11_take_19, List.forall_mem_cons.mpr ⟨s_iconst C0 dX11_take_20 rfl, List.forall_mem_cons.mpr ⟨s_isub C0 dX11_take_21, List.forall_mem_cons.mpr ⟨s_callS C0 (kX11_in l) dX11_take_22 qX11_in tw6_112 tw6_113 tw1_12 tw6_114 rfl (by decide) (by decide), List.forall_mem_cons.mpr ⟨s_if_eq C0 dX11_take_25 rfl, List.forall_mem_cons.mpr ⟨s_iconst C0 dX11_take_28 rfl, List.forall_mem_cons.mpr ⟨s_goto C0 dX11_take_29 rfl, List.forall_mem_cons.mpr ⟨s_iconst C0 dX11_take_32 rfl, List.forall_mem_cons.mpr ⟨s_callS C0 (kX11_unless l) dX11_take_33 qX11_unless tw6_203 tw6_204 tw1_12 tw6_205 rfl (by decide) (by decide), List.forall_mem_cons.mpr ⟨s_callV (ci := 11) C0 (kX11_isRefused l) dX11_take_36 rfl qX11_isRefused tw6_118 tw6_120 twp_41 tw1_12 tw6_121 rfl (by decide) (by decide), List.forall_mem_cons.mpr ⟨s_if_eq C0 dX11_take_39 rfl, List.forall_mem_cons.mpr ⟨s_iconst C0 dX11_take_42 rfl, List.forall_mem_cons.mpr ⟨s_iret C0 hr dX11_take_43, List.forall_mem_cons.mpr ⟨s_aload_n C0 dX11_take_44 rfl, List.forall_mem_cons.mpr ⟨s_callV (ci := 11) C0 (kX11_remembers l) dX11_take_45 rfl qX11_remembers tw7_209 tw7_211 twp_86 tw1_12 tw7_212 rfl (by decide) (by decide), List.forall_mem_cons.mpr ⟨s_aload_n C0 dX11_take_48 rfl, List.forall_mem_cons.mpr ⟨s_iload_n C0 dX11_take_49 rfl, List.forall_mem_cons.mpr ⟨s_iload_n C0 dX11_take_50 rfl, List.forall_mem_cons.mpr ⟨s_callV (ci := 11) C0 (kX11_throwsAt l) dX11_take_51 rfl qX11_throwsAt tw6_222 tw6_224 twp_59 tw1_12 tw6_225 rfl (by decide) (by decide), List.forall_mem_cons.mpr ⟨s_istore_n C0 dX11_take_54 rfl (by decide), List.forall_mem_cons.mpr ⟨s_aload_n C0 dX11_take_55 rfl, List.forall_mem_cons.mpr ⟨s_get (ci := 11) (k := 7) C0 dX11_take_56 inX11 rfl (by decide) tw6_18, List.forall_mem_cons.mpr ⟨s_bipush C0 dX11_take_59 (by decide +kernel), List.forall_mem_cons.mpr ⟨s_iload_n C0 dX11_take_61 rfl, List.forall_mem_cons.mpr ⟨s_iadd C0 dX11_take_62, List.forall_mem_cons.mpr ⟨s_dup2 C0 dX11_take_63, List.forall_mem_cons.mpr ⟨s_iald C0 dX11_take_64, List.forall_mem_cons.mpr ⟨s_iconst C0 dX11_take_65 rfl, fun _ h => absurd h List.not_mem_nil⟩⟩⟩⟩⟩⟩⟩⟩⟩⟩⟩⟩⟩⟩⟩⟩⟩⟩⟩⟩⟩⟩⟩⟩⟩⟩⟩⟩⟩⟩⟩⟩⟩⟩⟩⟩⟩⟩⟩⟩
set_option maxRecDepth 10000 in
theorem hX11_take_1 (l : Launch) {p : Program} {e : Env} {s : State} {m : MethodId} {args : Array Value} {below : List Frame} {meth : Method} {c : Code} {D : va_G} {ad adV : Nat → Nat} {cA : Nat → ClassId} {K : Kt} (C0 : Cx p s m args meth c D ad adV cA cX11_take 5 RX11) (hr : meth.sig.returnType = (some .int)) : ∀ q ∈ lX11_take_1, Sd p l e (rmd 2) s m args below meth c (MQ below (QQ D ad cA K) args s 0 0 (AA ad)) D ad cA 5 q.1 (opOf K q.2) := List.forall_mem_cons.mpr ⟨s_isub C0 dX11_take_66, List.forall_mem_cons.mpr ⟨s_iast C0 dX11_take_67, List.forall_mem_cons.mpr ⟨s_iload_n C0 dX11_take_68 rfl, List.forall_mem_cons.mpr ⟨s_istore C0 dX11_take_69 (by decide), List.forall_mem_cons.mpr ⟨s_iload C0 dX11_take_71, List.forall_mem_cons.mpr ⟨s_aload_n C0 dX11_take_73 rfl, List.forall_mem_cons.mpr ⟨s_get (ci := 11) (k := 7) C0 dX11_take_74 inX11 rfl (by decide) tw6_18, List.forall_mem_cons.mpr ⟨s_bipush C0 dX11_take_77 (by decide +kernel), List.forall_mem_cons.mpr ⟨s_iload_n C0 dX11_take_79 rfl, List.forall_mem_cons.mpr ⟨s_iadd C0 dX11_take_80, List.forall_mem_cons.mpr ⟨s_iald C0 dX11_take_81, List.forall_mem_cons.mpr ⟨s_icmp_ge C0 dX11_take_82 rfl, List.forall_mem_cons.mpr ⟨s_aload_n C0 dX11_take_85 rfl, List.forall_mem_cons.mpr ⟨s_get (ci := 11) (k := 7) C0 dX11_take_86 inX11 rfl (by decide) tw6_18, List.forall_mem_cons.mpr ⟨s_bipush C0 dX11_take_89 (by decide +kernel), List.forall_mem_cons.mpr ⟨s_aload_n C0 dX11_take_91 rfl, List.forall_mem_cons.mpr ⟨s_iload_n C0 dX11_take_92 rfl, List.forall_mem_cons.mpr ⟨s_iload C0 dX11_take_93, List.forall_mem_cons.mpr ⟨s_callV (ci := 11) C0 (kX11_slot l) dX11_take_95 rfl qX11_slot tw6_226 tw6_228 twp_60 tw1_12 tw6_229 rfl (by decide) (by decide), List.forall_mem_cons.mpr ⟨s_iadd C0 dX11_take_98, List.forall_mem_cons.mpr ⟨s_aload_n C0 dX11_take_99 rfl, List.forall_mem_cons.mpr ⟨s_iload_n C0 dX11_take_100 rfl, List.forall_mem_cons.mpr ⟨s_iload C0 dX11_take_101, List.forall_mem_cons.mpr ⟨s_iconst C0 dX11_take_103 rfl, List.forall_mem_cons.mpr ⟨s_iadd C0 dX11_take_104, List.forall_mem_cons.mpr ⟨s_callV (ci := 11) C0 (kX11_who l) dX11_take_105 rfl qX11_who tw6_230 tw6_232 twp_61 tw1_12 tw6_233 rfl (by decide) (by decide), List.forall_mem_cons.mpr ⟨s_iast C0 dX11_take_108, List.forall_mem_cons.mpr ⟨s_aload_n C0 dX11_take_109 rfl, List.forall_mem_cons.mpr ⟨s_get (ci := 11) (k := 7) C0 dX11_take_110 inX11 rfl (by decide) tw6_18, List.forall_mem_cons.mpr ⟨s_sipush C0 dX11_take_113 (by decide +kernel), List.forall_mem_cons.mpr ⟨s_aload_n C0 dX11_take_116 rfl, List.forall_mem_cons.mpr ⟨s_iload_n C0 dX11_take_117 rfl, List.forall_mem_cons.mpr ⟨s_iload C0 dX11_take_118, List.forall_mem_cons.mpr ⟨s_callV (ci := 11) C0 (kX11_slot l) dX11_take_120 rfl qX11_slot tw6_226 tw6_228 twp_60 tw1_12 tw6_229 rfl (by decide) (by decide), List.forall_mem_cons.mpr ⟨s_iadd C0 dX11_take_123, List.forall_mem_cons.mpr ⟨s_aload_n C0 dX11_take_124 rfl, List.forall_mem_cons.mpr ⟨s_iload_n C0 dX11_take_125 rfl, List.forall_mem_cons.mpr ⟨s_iload C0 dX11_take_126, List.forall_mem_cons.mpr ⟨s_iconst C0 dX11_take_128 rfl, List.forall_mem_cons.mpr ⟨s_iadd C0 dX11_take_129, fun _ h => absurd h List.not_mem_nil⟩⟩⟩⟩⟩⟩⟩⟩⟩⟩⟩⟩⟩⟩⟩⟩⟩⟩⟩⟩⟩⟩⟩⟩⟩⟩⟩⟩⟩⟩⟩⟩⟩⟩⟩⟩⟩⟩⟩⟩
set_option maxRecDepth 10000 in
theorem hX11_take_2 (l : Launch) {p : Program} {e : Env} {s : State} {m : MethodId} {args : Array Value} {below : List Frame} {meth : Method} {c : Code} {D : va_G} {ad adV : Nat → Nat} {cA : Nat → ClassId} {K : Kt} (C0 : Cx p s m args meth c D ad adV cA cX11_take 5 RX11) (hr : meth.sig.returnType = (some .int)) : ∀ q ∈ lX11_take_2, Sd p l e (rmd 2) s m args below meth c (MQ below (QQ D ad cA K) args s 0 0 (AA ad)) D ad cA 5 q.1 (opOf K q.2) := List.forall_mem_cons.mpr ⟨s_callV (ci := 11) C0 (kX11_throwsAt l) dX11_take_130 rfl qX11_throwsAt tw6_222 tw6_224 twp_59 tw1_12 tw6_225 rfl (by decide) (by decide), List.forall_mem_cons.mpr ⟨s_iast C0 dX11_take_133, List.forall_mem_cons.mpr ⟨s_iinc C0 dX11_take_134 rfl (by decide), List.forall_mem_cons.mpr ⟨s_goto C0 dX11_take_137 rfl, List.forall_mem_cons.mpr ⟨s_iload_n C0 dX11_take_140 rfl, List.forall_mem_cons.mpr ⟨s_iret C0 hr dX11_take_141, fun _ h => absurd h List.not_mem_nil⟩⟩⟩⟩⟩⟩
def fX11_take : Mf := mf 5 (fun K => tl K lX11_take)
theorem kX11_take (l : Launch) : Okm l yX11_take cX11_take 5 (some .int) 2 fX11_take := Okm_tl (own := RX11) (by decide +kernel) rfl (fun C0 hr => List.forall_mem_append.mpr ⟨hX11_take_0 l C0 hr, List.forall_mem_append.mpr ⟨hX11_take_1 l C0 hr, hX11_take_2 l C0 hr⟩⟩)
theorem dX11_shift_0 : decode cX11_shift 0 = .ok (.aload_n 0, 1) := by decide +kernel
theorem dX11_shift_1 : decode cX11_shift 1 = .ok (.iload_n 1, 1) := by decide +kernel
theorem dX11_shift_2 : decode cX11_shift 2 = .ok (.invokevirtual 217, 3) := by decide +kernel
theorem dX11_shift_5 : decode cX11_shift 5 = .ok (.ifCond .eq 26, 3) := by decide +kernel
theorem dX11_shift_8 : decode cX11_shift 8 = .ok (.iload_n 2, 1) := by decide +kernel
theorem dX11_shift_9 : decode cX11_shift 9 = .ok (.iconst 0, 1) := by decide +kernel
theorem dX11_shift_10 : decode cX11_shift 10 = .ok (.aload_n 0, 1) := by decide +kernel
theorem dX11_shift_11 : decode cX11_shift 11 = .ok (.getfield 17, 3) := by decide +kernel
theorem dX11_shift_14 : decode cX11_shift 14 = .ok (.bipush 106, 2) := by decide +kernel
theorem dX11_shift_16 : decode cX11_shift 16 = .ok (.iload_n 1, 1) := by decide +kernel
theorem dX11_shift_17 : decode cX11_shift 17 = .ok (.iadd, 1) := by decide +kernel
theorem dX11_shift_18 : decode cX11_shift 18 = .ok (.iaload, 1) := by decide +kernel
theorem dX11_shift_19 : decode cX11_shift 19 = .ok (.iconst 1, 1) := by decide +kernel
theorem dX11_shift_20 : decode cX11_shift 20 = .ok (.isub, 1) := by decide +kernel
theorem dX11_shift_21 : decode cX11_shift 21 = .ok (.invokestatic 76, 3) := by decide +kernel
theorem dX11_shift_24 : decode cX11_shift 24 = .ok (.ifCond .eq 7, 3) := by decide +kernel
theorem dX11_shift_27 : decode cX11_shift 27 = .ok (.iconst 1, 1) := by decide +kernel
theorem dX11_shift_28 : decode cX11_shift 28 = .ok (.goto 4, 3) := by decide +kernel
theorem dX11_shift_31 : decode cX11_shift 31 = .ok (.iconst 0, 1) := by decide +kernel
theorem dX11_shift_32 : decode cX11_shift 32 = .ok (.istore 4, 2) := by decide +kernel
theorem dX11_shift_34 : decode cX11_shift 34 = .ok (.iload 4, 2) := by decide +kernel
theorem dX11_shift_36 : decode cX11_shift 36 = .ok (.iload 4, 2) := by decide +kernel
theorem dX11_shift_38 : decode cX11_shift 38 = .ok (.ifCond .eq 29, 3) := by decide +kernel
theorem dX11_shift_41 : decode cX11_shift 41 = .ok (.iload_n 3, 1) := by decide +kernel
theorem dX11_shift_42 : decode cX11_shift 42 = .ok (.iconst 1, 1) := by decide +kernel
theorem dX11_shift_43 : decode cX11_shift 43 = .ok (.aload_n 0, 1) := by decide +kernel
theorem dX11_shift_44 : decode cX11_shift 44 = .ok (.getfield 17, 3) := by decide +kernel
theorem dX11_shift_47 : decode cX11_shift 47 = .ok (.bipush 22, 2) := by decide +kernel
theorem dX11_shift_49 : decode cX11_shift 49 = .ok (.aload_n 0, 1) := by decide +kernel
theorem dX11_shift_50 : decode cX11_shift 50 = .ok (.iload_n 1, 1) := by decide +kernel
theorem dX11_shift_51 : decode cX11_shift 51 = .ok (.iload_n 2, 1) := by decide +kernel
theorem dX11_shift_52 : decode cX11_shift 52 = .ok (.invokevirtual 201, 3) := by decide +kernel
theorem dX11_shift_55 : decode cX11_shift 55 = .ok (.iadd, 1) := by decide +kernel
theorem dX11_shift_56 : decode cX11_shift 56 = .ok (.iaload, 1) := by decide +kernel
theorem dX11_shift_57 : decode cX11_shift 57 = .ok (.invokestatic 76, 3) := by decide +kernel
theorem dX11_shift_60 : decode cX11_shift 60 = .ok (.ifCond .eq 7, 3) := by decide +kernel
theorem dX11_shift_63 : decode cX11_shift 63 = .ok (.iconst 1, 1) := by decide +kernel
theorem dX11_shift_64 : decode cX11_shift 64 = .ok (.goto 4, 3) := by decide +kernel
theorem dX11_shift_67 : decode cX11_shift 67 = .ok (.iconst 0, 1) := by decide +kernel
theorem dX11_shift_68 : decode cX11_shift 68 = .ok (.invokestatic 155, 3) := by decide +kernel
theorem dX11_shift_71 : decode cX11_shift 71 = .ok (.istore 5, 2) := by decide +kernel
theorem dX11_shift_73 : decode cX11_shift 73 = .ok (.iload 5, 2) := by decide +kernel
theorem dX11_shift_75 : decode cX11_shift 75 = .ok (.ifCond .ne 45, 3) := by decide +kernel
theorem dX11_shift_78 : decode cX11_shift 78 = .ok (.iload_n 3, 1) := by decide +kernel
theorem dX11_shift_79 : decode cX11_shift 79 = .ok (.aload_n 0, 1) := by decide +kernel
theorem dX11_shift_80 : decode cX11_shift 80 = .ok (.iload_n 1, 1) := by decide +kernel
theorem dX11_shift_81 : decode cX11_shift 81 = .ok (.invokevirtual 220, 3) := by decide +kernel
theorem dX11_shift_84 : decode cX11_shift 84 = .ok (.aload_n 0, 1) := by decide +kernel
theorem dX11_shift_85 : decode cX11_shift 85 = .ok (.iload_n 1, 1) := by decide +kernel
theorem dX11_shift_86 : decode cX11_shift 86 = .ok (.iload_n 2, 1) := by decide +kernel
theorem dX11_shift_87 : decode cX11_shift 87 = .ok (.invokevirtual 198, 3) := by decide +kernel
theorem dX11_shift_90 : decode cX11_shift 90 = .ok (.iadd, 1) := by decide +kernel
theorem dX11_shift_91 : decode cX11_shift 91 = .ok (.if_icmp .le 7, 3) := by decide +kernel
theorem dX11_shift_94 : decode cX11_shift 94 = .ok (.iconst 3, 1) := by decide +kernel
theorem dX11_shift_95 : decode cX11_shift 95 = .ok (.goto 23, 3) := by decide +kernel
theorem dX11_shift_98 : decode cX11_shift 98 = .ok (.aload_n 0, 1) := by decide +kernel
theorem dX11_shift_99 : decode cX11_shift 99 = .ok (.aload_n 0, 1) := by decide +kernel
theorem dX11_shift_100 : decode cX11_shift 100 = .ok (.iload_n 1, 1) := by decide +kernel
theorem dX11_shift_101 : decode cX11_shift 101 = .ok (.iload_n 2, 1) := by decide +kernel
theorem dX11_shift_102 : decode cX11_shift 102 = .ok (.invokevirtual 201, 3) := by decide +kernel
theorem dX11_shift_105 : decode cX11_shift 105 = .ok (.iload_n 1, 1) := by decide +kernel
theorem dX11_shift_106 : decode cX11_shift 106 = .ok (.iload_n 3, 1) := by decide +kernel
theorem dX11_shift_107 : decode cX11_shift 107 = .ok (.invokevirtual 273, 3) := by decide +kernel
theorem dX11_shift_110 : decode cX11_shift 110 = .ok (.ifCond .eq 7, 3) := by decide +kernel
theorem dX11_shift_113 : decode cX11_shift 113 = .ok (.iconst 0, 1) := by decide +kernel
theorem dX11_shift_114 : decode cX11_shift 114 = .ok (.goto 4, 3) := by decide +kernel
theorem dX11_shift_117 : decode cX11_shift 117 = .ok (.iconst 5, 1) := by decide +kernel
theorem dX11_shift_118 : decode cX11_shift 118 = .ok (.istore 5, 2) := by decide +kernel
theorem dX11_shift_120 : decode cX11_shift 120 = .ok (.aload_n 0, 1) := by decide +kernel
theorem dX11_shift_121 : decode cX11_shift 121 = .ok (.iload 5, 2) := by decide +kernel
theorem dX11_shift_123 : decode cX11_shift 123 = .ok (.invokevirtual 159, 3) := by decide +kernel
theorem dX11_shift_126 : decode cX11_shift 126 = .ok (.ifCond .eq 5, 3) := by decide +kernel
theorem dX11_shift_129 : decode cX11_shift 129 = .ok (.iconst (-1), 1) := by decide +kernel
theorem dX11_shift_130 : decode cX11_shift 130 = .ok (.ireturn, 1) := by decide +kernel
theorem dX11_shift_131 : decode cX11_shift 131 = .ok (.aload_n 0, 1) := by decide +kernel
theorem dX11_shift_132 : decode cX11_shift 132 = .ok (.invokevirtual 295, 3) := by decide +kernel
theorem dX11_shift_135 : decode cX11_shift 135 = .ok (.aload_n 0, 1) := by decide +kernel
theorem dX11_shift_136 : decode cX11_shift 136 = .ok (.iload_n 1, 1) := by decide +kernel
theorem dX11_shift_137 : decode cX11_shift 137 = .ok (.iload_n 2, 1) := by decide +kernel
theorem dX11_shift_138 : decode cX11_shift 138 = .ok (.invokevirtual 198, 3) := by decide +kernel
theorem dX11_shift_141 : decode cX11_shift 141 = .ok (.istore 6, 2) := by decide +kernel
theorem dX11_shift_143 : decode cX11_shift 143 = .ok (.aload_n 0, 1) := by decide +kernel
theorem dX11_shift_144 : decode cX11_shift 144 = .ok (.getfield 17, 3) := by decide +kernel
theorem dX11_shift_147 : decode cX11_shift 147 = .ok (.sipush 186, 3) := by decide +kernel
theorem dX11_shift_150 : decode cX11_shift 150 = .ok (.aload_n 0, 1) := by decide +kernel
theorem dX11_shift_151 : decode cX11_shift 151 = .ok (.iload_n 1, 1) := by decide +kernel
theorem dX11_shift_152 : decode cX11_shift 152 = .ok (.iload_n 2, 1) := by decide +kernel
theorem dX11_shift_153 : decode cX11_shift 153 = .ok (.invokevirtual 195, 3) := by decide +kernel
theorem dX11_shift_156 : decode cX11_shift 156 = .ok (.iadd, 1) := by decide +kernel
theorem dX11_shift_157 : decode cX11_shift 157 = .ok (.iload_n 3, 1) := by decide +kernel
theorem dX11_shift_158 : decode cX11_shift 158 = .ok (.iastore, 1) := by decide +kernel
theorem dX11_shift_159 : decode cX11_shift 159 = .ok (.iload 6, 2) := by decide +kernel
theorem dX11_shift_161 : decode cX11_shift 161 = .ok (.ireturn, 1) := by decide +kernel
def lX11_shift_0 : List (Nat × (Op ⊕ Nat)) := [(0, .inl (o_aload 0 1)), (1, .inl (o_iload 1 2)), (2, .inl (o_callV fX11_isGame 1 11 5)), (5, .inl (o_if_eq 31 8)), (8, .inl (o_iload 2 9)), (9, .inl (o_pushI (nI 0) 10)), (10, .inl (o_aload 0 11)), (11, .inl (o_get 11 7 14)), (14, .inl (o_pushI (nI 106) 16)), (16, .inl (o_iload 1 17)), (17, .inl (o_iadd 18)), (18, .inl (o_iald 19)), (19, .inl (o_pushI (nI 1) 20)), (20, .inl (o_isub 21)), (21, .inl (o_callS fX11_in 3 24)), (24, .inl (o_if_eq 31 27)), (27, .inl (o_pushI (nI 1) 28)), (28, .inl (o_goto 32)), (31, .inl (o_pushI (nI 0) 32)), (32, .inl (o_istore 4 34)), (34, .inl (o_iload 4 36)), (36, .inl (o_iload 4 38)), (38, .inl (o_if_eq 67 41)), (41, .inl (o_iload 3 42)), (42, .inl (o_pushI (nI 1) 43)), (43, .inl (o_aload 0 44)), (44, .inl (o_get 11 7 47)), (47, .inl (o_pushI (nI 22) 49)), (49, .inl (o_aload 0 50)), (50, .inl (o_iload 1 51)), (51, .inl (o_iload 2 52)), (52, .inl (o_callV fX11_who 2 11 55)), (55, .inl (o_iadd 56)), (56, .inl (o_iald 57)), (57, .inl (o_callS fX11_in 3 60)), (60, .inl (o_if_eq 67 63)), (63, .inl (o_pushI (nI 1) 64)), (64, .inl (o_goto 68)), (67, .inl (o_pushI (nI 0) 68)), (68, .inl (o_callS fX11_unless_ 2 71))]
def lX11_shift_1 : List (Nat × (Op ⊕ Nat)) := [(71, .inl (o_istore 5 73)), (73, .inl (o_iload 5 75)), (75, .inl (o_if_ne 120 78)), (78, .inl (o_iload 3 79)), (79, .inl (o_aload 0 80)), (80, .inl (o_iload 1 81)), (81, .inl (o_callV fX11_leftOf 1 11 84)), (84, .inl (o_aload 0 85)), (85, .inl (o_iload 1 86)), (86, .inl (o_iload 2 87)), (87, .inl (o_callV fX11_throwsAt 2 11 90)), (90, .inl (o_iadd 91)), (91, .inl (o_icmp_le 98 94)), (94, .inl (o_pushI (nI 3) 95)), (95, .inl (o_goto 118)), (98, .inl (o_aload 0 99)), (99, .inl (o_aload 0 100)), (100, .inl (o_iload 1 101)), (101, .inl (o_iload 2 102)), (102, .inl (o_callV fX11_who 2 11 105)), (105, .inl (o_iload 1 106)), (106, .inl (o_iload 3 107)), (107, .inl (o_callV fX11_isAloneAllowed 3 11 110)), (110, .inl (o_if_eq 117 113)), (113, .inl (o_pushI (nI 0) 114)), (114, .inl (o_goto 118)), (117, .inl (o_pushI (nI 5) 118)), (118, .inl (o_istore 5 120)), (120, .inl (o_aload 0 121)), (121, .inl (o_iload 5 123)), (123, .inl (o_callV fX11_isRefused 1 11 126)), (126, .inl (o_if_eq 131 129)), (129, .inl (o_pushI ((-1)) 130)), (130, .inr 0), (131, .inl (o_aload 0 132)), (132, .inl (o_callV fX11_remembers 0 11 135)), (135, .inl (o_aload 0 136)), (136, .inl (o_iload 1 137)), (137, .inl (o_iload 2 138)), (138, .inl (o_callV fX11_throwsAt 2 11 141))]
def lX11_shift_2 : List (Nat × (Op ⊕ Nat)) := [(141, .inl (o_istore 6 143)), (143, .inl (o_aload 0 144)), (144, .inl (o_get 11 7 147)), (147, .inl (o_pushI (nI 186) 150)), (150, .inl (o_aload 0 151)), (151, .inl (o_iload 1 152)), (152, .inl (o_iload 2 153)), (153, .inl (o_callV fX11_slot 2 11 156)), (156, .inl (o_iadd 157)), (157, .inl (o_iload 3 158)), (158, .inl (o_iast 159)), (159, .inl (o_iload 6 161)), (161, .inr 0)]
def lX11_shift : List (Nat × (Op ⊕ Nat)) := lX11_shift_0 ++ (lX11_shift_1 ++ (lX11_shift_2))
theorem qX11_shift : yX11_shift.cls = RX11 ∧ yX11_shift.cls ≠ "java/lang/invoke/MethodHandle" ∧ yX11_shift.cls ≠ "java/lang/invoke/VarHandle" ∧ (parseMethodDescriptor yX11_shift.desc).map (fun d => d.parameters.length) = some 3 := by decide +kernel
set_option maxRecDepth 10000 in
theorem hX11_shift_0 (l : Launch) {p : Program} {e : Env} {s : State} {m : MethodId} {args : Array Value} {below : List Frame} {meth : Method} {c : Code} {D : va_G} {ad adV : Nat → Nat} {cA : Nat → ClassId} {K : Kt} (C0 : Cx p s m args meth c D ad adV cA cX11_shift 7 RX11) (hr : meth.sig.returnType = (some .int)) : ∀ q ∈ lX11_shift_0, Sd p l e (rmd 4) s m args below meth c (MQ below (QQ D ad cA K) args s 0 0 (AA ad)) D ad cA 7 q.1 (opOf K q.2) := List.forall_mem_cons.mpr ⟨s_aload_n C0 dX11_shift_0 rfl, List.forall_mem_cons.mpr ⟨s_iload_n C0 dX11_shift_1 rfl, List.forall_mem_cons.mpr ⟨s_callV (ci := 11) C0 (kX11_isGame l) dX11_shift_2 rfl qX11_isGame tw7_14 tw7_16 twp_66 tw1_12 tw7_17 rfl (by decide) (by decide), List.forall_mem_cons.mpr ⟨s_if_eq C0 dX11_shift_5 rfl, List.forall_mem_cons.mpr ⟨s_iload_n C0 dX11_shift_8 rfl, List.forall_mem_cons.mpr ⟨s_iconst C0 dX11_shift_9 rfl, List.forall_mem_cons.mpr ⟨s_aload_n C0 dX11_shift_10 rfl, List.forall_mem_cons.mpr ⟨s_get (ci := 11) (k := 7) C0 dX11_shift_11 inX11 rfl (by decide) tw6_18, List.forall_mem_cons.mpr ⟨s_bipush C0 dX11_shift_14 (by decide +kernel), List.forall_mem_cons.mpr ⟨s_iload_n C0 dX11_shift_16 rfl, List.forall_mem_cons.mpr ⟨s_iadd C0 dX11_shift_17, List.forall_mem_cons.mpr ⟨s_iald C0 dX11_shift_18, List.forall_mem_cons.mpr ⟨s_iconst C0 dX11_shift_19 rfl, List.forall_mem_cons.mpr ⟨s_isub C0 dX11_shift_20, List.forall_mem_cons.mpr ⟨s_callS C0 (kX11_in l) dX11_shift_21 qX11_in tw6_112 tw6_113 tw1_12 tw6_114 rfl (by decide) (by decide), List.forall_mem_cons.mpr ⟨s_if_eq C0 dX11_shift_24 rfl, List.forall_mem_cons.mpr ⟨s_iconst C0 dX11_shift_27 rfl, List.forall_mem_cons.mpr ⟨s_goto C0 dX11_shift_28 rfl, List.forall_mem_cons.mpr ⟨s_iconst C0 dX11_shift_31 rfl, List.forall_mem_cons.mpr ⟨s_istore C0 dX11_shift_32 (by decide), List.forall_mem_cons.mpr ⟨s_iload C0 dX11_shift_34, List.forall_mem_cons.mpr ⟨s_iload C0 dX11_shift_36, List.forall_mem_cons.mpr ⟨s_if_eq C0 dX11_shift_38 rfl, List.forall_mem_cons.mpr ⟨s_iload_n C0 dX11_shift_41 rfl, List.forall_mem_cons.mpr ⟨s_iconst C0 dX11_shift_42 rfl, List.forall_mem_cons.mpr ⟨s_aload_n C0 dX11_shift_43 rfl, List.forall_mem_cons.mpr ⟨s_get (ci := 11) (k := 7) C0 dX11_shift_44 inX11 rfl (by decide) tw6_18, List.forall_mem_cons.mpr ⟨s_bipush C0 dX11_shift_47 (by decide +kernel), List.forall_mem_cons.mpr ⟨s_aload_n C0 dX11_shift_49 rfl, List.forall_mem_cons.mpr ⟨s_iload_n C0 dX11_shift_50 rfl, List.forall_mem_cons.mpr ⟨s_iload_n C0 dX11_shift_51 rfl, List.forall_mem_cons.mpr ⟨s_callV (ci := 11) C0 (kX11_who l) dX11_shift_52 rfl qX11_who tw6_230 tw6_232 twp_61 tw1_12 tw6_233 rfl (by decide) (by decide), List.forall_mem_cons.mpr ⟨s_iadd C0 dX11_shift_55, List.forall_mem_cons.mpr ⟨s_iald C0 dX11_shift_56, List.forall_mem_cons.mpr ⟨s_callS C0 (kX11_in l) dX11_shift_57 qX11_in tw6_112 tw6_113 tw1_12 tw6_114 rfl (by decide) (by decide), List.forall_mem_cons.mpr ⟨s_if_eq C0 dX11_shift_60 rfl, List.forall_mem_cons.mpr ⟨s_iconst C0 dX11_shift_63 rfl, List.forall_mem_cons.mpr ⟨s_goto C0 dX11_shift_64 rfl, List.forall_mem_cons.mpr ⟨s_iconst C0 dX11_shift_67 rfl, List.forall_mem_cons.mpr ⟨s_callS C0 (kX11_unless_ l) dX11_shift_68 qX11_unless_ tw6_115 tw6_116 tw1_12 tw6_117 rfl (by decide) (by decide), fun _ h => absurd h List.not_mem_nil⟩⟩⟩⟩⟩⟩⟩⟩⟩⟩⟩⟩⟩⟩⟩⟩⟩⟩⟩⟩⟩⟩⟩⟩⟩⟩⟩⟩⟩⟩⟩⟩⟩⟩⟩⟩⟩⟩⟩⟩
set_option maxRecDepth 10000 in
theorem hX11_shift_1 (l : Launch) {p : Program} {e : Env} {s : State} {m : MethodId} {args : Array Value} {below : List Frame} {meth : Method} {c : Code} {D : va_G} {ad adV : Nat → Nat} {cA : Nat → ClassId} {K : Kt} (C0 : Cx p s m args meth c D ad adV cA cX11_shift 7 RX11) (hr : meth.sig.returnType = (some .int)) : ∀ q ∈ lX11_shift_1, Sd p l e (rmd 4) s m args below meth c (MQ below (QQ D ad cA K) args s 0 0 (AA ad)) D ad cA 7 q.1 (opOf K q.2) := List.forall_mem_cons.mpr ⟨s_istore C0 dX11_shift_71 (by decide), List.forall_mem_cons.mpr ⟨s_iload C0 dX11_shift_73, List.forall_mem_cons.mpr ⟨s_if_ne C0 dX11_shift_75 rfl, List.forall_mem_cons.mpr ⟨s_iload_n C0 dX11_shift_78 rfl, List.forall_mem_cons.mpr ⟨s_aload_n C0 dX11_shift_79 rfl, List.forall_mem_cons.mpr ⟨s_iload_n C0 dX11_shift_80 rfl, List.forall_mem_cons.mpr ⟨s_callV (ci := 11) C0 (kX11_leftOf l) dX11_shift_81 rfl qX11_leftOf tw7_18 tw7_20 twp_67 tw1_12 tw7_21 rfl (by decide) (by decide), List.forall_mem_cons.mpr ⟨s_aload_n C0 dX11_shift_84 rfl, List.forall_mem_cons.mpr ⟨s_iload_n C0 dX11_shift_85 rfl, List.forall_mem_cons.mpr ⟨s_iload_n C0 dX11_shift_86 rfl, List.forall_mem_cons.mpr ⟨s_callV (ci := 11) C0 (kX11_throwsAt l) dX11_shift_87 rfl qX11_throwsAt tw6_222 tw6_224 twp_59 tw1_12 tw6_225 rfl (by decide) (by decide), List.forall_mem_cons.mpr ⟨s_iadd C0 dX11_shift_90, List.forall_mem_cons.mpr ⟨s_icmp_le C0 dX11_shift_91 rfl, List.forall_mem_cons.mpr ⟨s_iconst C0 dX11_shift_94 rfl, List.forall_mem_cons.mpr ⟨s_goto C0 dX11_shift_95 rfl, List.forall_mem_cons.mpr ⟨s_aload_n C0 dX11_shift_98 rfl, List.forall_mem_cons.mpr ⟨s_aload_n C0 dX11_shift_99 rfl, List.forall_mem_cons.mpr ⟨s_iload_n C0 dX11_shift_100 rfl, List.forall_mem_cons.mpr ⟨s_iload_n C0 dX11_shift_101 rfl, List.forall_mem_cons.mpr ⟨s_callV (ci := 11) C0 (kX11_who l) dX11_shift_102 rfl qX11_who tw6_230 tw6_232 twp_61 tw1_12 tw6_233 rfl (by decide) (by decide), List.forall_mem_cons.mpr ⟨s_iload_n C0 dX11_shift_105 rfl, List.forall_mem_cons.mpr ⟨s_iload_n C0 dX11_shift_106 rfl, List.forall_mem_cons.mpr ⟨s_callV (ci := 11) C0 (kX11_isAloneAllowed l) dX11_shift_107 rfl qX11_isAloneAllowed tw7_137 tw7_139 twp_83 tw1_12 tw7_140 rfl (by decide) (by decide), List.forall_mem_cons.mpr ⟨s_if_eq C0 dX11_shift_110 rfl, List.forall_mem_cons.mpr ⟨s_iconst C0 dX11_shift_113 rfl, List.forall_mem_cons.mpr ⟨s_goto C0 dX11_shift_114 rfl, List.forall_mem_cons.mpr ⟨s_iconst C0 dX11_shift_117 rfl, List.forall_mem_cons.mpr ⟨s_istore C0 dX11_shift_118 (by decide), List.forall_mem_cons.mpr ⟨s_aload_n C0 dX11_shift_120 rfl, List.forall_mem_cons.mpr ⟨s_iload C0 dX11_shift_121, List.forall_mem_cons.mpr ⟨s_callV (ci := 11) C0 (kX11_isRefused l) dX11_shift_123 rfl qX11_isRefused tw6_118 tw6_120 twp_41 tw1_12 tw6_121 rfl (by decide) (by decide), List.forall_mem_cons.mpr ⟨s_if_eq C0 dX11_shift_126 rfl, List.forall_mem_cons.mpr ⟨s_iconst C0 dX11_shift_129 rfl, List.forall_mem_cons.mpr ⟨s_iret C0 hr dX11_shift_130, List.forall_mem_cons.mpr ⟨s_aload_n C0 dX11_shift_131 rfl, List.forall_mem_cons.mpr ⟨s_callV (ci := 11) C0 (kX11_remembers l) dX11_shift_132 rfl qX11_remembers tw7_209 tw7_211 twp_86 tw1_12 tw7_212 rfl (by decide) (by decide), List.forall_mem_cons.mpr ⟨s_aload_n C0 dX11_shift_135 rfl, List.forall_mem_cons.mpr ⟨s_iload_n C0 dX11_shift_136 rfl, List.forall_mem_cons.mpr ⟨s_iload_n C0 dX11_shift_137 rfl, List.forall_mem_cons.mpr ⟨s_callV (ci := 11) C0 (kX11_throwsAt l) dX11_shift_138 rfl qX11_throwsAt tw6_222 tw6_224 twp_59 tw1_12 tw6_225 rfl (by decide) (by decide), fun _ h => absurd h List.not_mem_nil⟩⟩⟩⟩⟩⟩⟩⟩⟩⟩⟩⟩⟩⟩⟩⟩⟩⟩⟩⟩⟩⟩⟩⟩⟩⟩⟩⟩⟩⟩⟩⟩⟩⟩⟩⟩⟩⟩⟩⟩
set_option maxRecDepth 10000 in
theorem hX11_shift_2 (l : Launch) {p : Program} {e : Env} {s : State} {m : MethodId} {args : Array Value} {below : List Frame} {meth : Method} {c : Code} {D : va_G} {ad adV : Nat → Nat} {cA : Nat → ClassId} {K : Kt} (C0 : Cx p s m args meth c D ad adV cA cX11_shift 7 RX11) (hr : meth.sig.returnType = (some .int)) : ∀ q ∈ lX11_shift_2, Sd p l e (rmd 4) s m args below meth c (MQ below (QQ D ad cA K) args s 0 0 (AA ad)) D ad cA 7 q.1 (opOf K q.2) := List.forall_mem_cons.mpr ⟨s_istore C0 dX11_shift_141 (by decide), List.forall_mem_cons.mpr ⟨s_aload_n C0 dX11_shift_143 rfl, List.forall_mem_cons.mpr ⟨s_get (ci := 11) (k := 7) C0 dX11_shift_144 inX11 rfl (by decide) tw6_18, List.forall_mem_cons.mpr ⟨s_sipush C0 dX11_shift_147 (by decide +kernel), List.forall_mem_cons.mpr ⟨s_aload_n C0 dX11_shift_150 rfl, List.forall_mem_cons.mpr ⟨s_iload_n C0 dX11_shift_151 rfl, List.forall_mem_cons.mpr ⟨s_iload_n C0 dX11_shift_152 rfl, List.forall_mem_cons.mpr ⟨s_callV (ci := 11) C0 (kX11_slot l) dX11_shift_153 rfl qX11_slot tw6_226 tw6_228 twp_60 tw1_12 tw6_229 rfl (by decide) (by decide), List.forall_mem_cons.mpr ⟨s_iadd C0 dX11_shift_156, List.forall_mem_cons.mpr ⟨s_iload_n C0 dX11_shift_157 rfl, List.forall_mem_cons.mpr ⟨s_iast C0 dX11_shift_158, List.forall_mem_cons.mpr ⟨s_iload C0 dX11_shift_159, List.forall_mem_cons.mpr ⟨s_iret C0 hr dX11_shift_161, fun _ h => absurd h List.not_mem_nil⟩⟩⟩⟩⟩⟩⟩⟩⟩⟩⟩⟩⟩
def fX11_shift : Mf := mf 7 (fun K => tl K lX11_shift)
theorem kX11_shift (l : Launch) : Okm l yX11_shift cX11_shift 7 (some .int) 4 fX11_shift := Okm_tl (own := RX11) (by decide +kernel) rfl (fun C0 hr => List.forall_mem_append.mpr ⟨hX11_shift_0 l C0 hr, List.forall_mem_append.mpr ⟨hX11_shift_1 l C0 hr, hX11_shift_2 l C0 hr⟩⟩)
theorem dX11_exchanges_0 : decode cX11_exchanges 0 = .ok (.aload_n 0, 1) := by decide +kernel
theorem dX11_exchanges_1 : decode cX11_exchanges 1 = .ok (.iload_n 1, 1) := by decide +kernel
theorem dX11_exchanges_2 : decode cX11_exchanges 2 = .ok (.iload_n 2, 1) := by decide +kernel
theorem dX11_exchanges_3 : decode cX11_exchanges 3 = .ok (.invokevirtual 201, 3) := by decide +kernel
theorem dX11_exchanges_6 : decode cX11_exchanges 6 = .ok (.istore 5, 2) := by decide +kernel
theorem dX11_exchanges_8 : decode cX11_exchanges 8 = .ok (.aload_n 0, 1) := by decide +kernel
theorem dX11_exchanges_9 : decode cX11_exchanges 9 = .ok (.getfield 17, 3) := by decide +kernel
theorem dX11_exchanges_12 : decode cX11_exchanges 12 = .ok (.bipush 126, 2) := by decide +kernel
theorem dX11_exchanges_14 : decode cX11_exchanges 14 = .ok (.aload_n 0, 1) := by decide +kernel
theorem dX11_exchanges_15 : decode cX11_exchanges 15 = .ok (.iload_n 1, 1) := by decide +kernel
theorem dX11_exchanges_16 : decode cX11_exchanges 16 = .ok (.iload_n 2, 1) := by decide +kernel
theorem dX11_exchanges_17 : decode cX11_exchanges 17 = .ok (.invokevirtual 195, 3) := by decide +kernel
theorem dX11_exchanges_20 : decode cX11_exchanges 20 = .ok (.iadd, 1) := by decide +kernel
theorem dX11_exchanges_21 : decode cX11_exchanges 21 = .ok (.aload_n 0, 1) := by decide +kernel
theorem dX11_exchanges_22 : decode cX11_exchanges 22 = .ok (.iload_n 3, 1) := by decide +kernel
theorem dX11_exchanges_23 : decode cX11_exchanges 23 = .ok (.iload 4, 2) := by decide +kernel
theorem dX11_exchanges_25 : decode cX11_exchanges 25 = .ok (.invokevirtual 201, 3) := by decide +kernel
theorem dX11_exchanges_28 : decode cX11_exchanges 28 = .ok (.iastore, 1) := by decide +kernel
theorem dX11_exchanges_29 : decode cX11_exchanges 29 = .ok (.aload_n 0, 1) := by decide +kernel
theorem dX11_exchanges_30 : decode cX11_exchanges 30 = .ok (.getfield 17, 3) := by decide +kernel
theorem dX11_exchanges_33 : decode cX11_exchanges 33 = .ok (.bipush 126, 2) := by decide +kernel
theorem dX11_exchanges_35 : decode cX11_exchanges 35 = .ok (.aload_n 0, 1) := by decide +kernel
theorem dX11_exchanges_36 : decode cX11_exchanges 36 = .ok (.iload_n 3, 1) := by decide +kernel
theorem dX11_exchanges_37 : decode cX11_exchanges 37 = .ok (.iload 4, 2) := by decide +kernel
theorem dX11_exchanges_39 : decode cX11_exchanges 39 = .ok (.invokevirtual 195, 3) := by decide +kernel
theorem dX11_exchanges_42 : decode cX11_exchanges 42 = .ok (.iadd, 1) := by decide +kernel
theorem dX11_exchanges_43 : decode cX11_exchanges 43 = .ok (.iload 5, 2) := by decide +kernel
theorem dX11_exchanges_45 : decode cX11_exchanges 45 = .ok (.iastore, 1) := by decide +kernel
theorem dX11_exchanges_46 : decode cX11_exchanges 46 = .ok (.return_, 1) := by decide +kernel
def lX11_exchanges : List (Nat × (Op ⊕ Nat)) := [(0, .inl (o_aload 0 1)), (1, .inl (o_iload 1 2)), (2, .inl (o_iload 2 3)), (3, .inl (o_callV fX11_who 2 11 6)), (6, .inl (o_istore 5 8)), (8, .inl (o_aload 0 9)), (9, .inl (o_get 11 7 12)), (12, .inl (o_pushI (nI 126) 14)), (14, .inl (o_aload 0 15)), (15, .inl (o_iload 1 16)), (16, .inl (o_iload 2 17)), (17, .inl (o_callV fX11_slot 2 11 20)), (20, .inl (o_iadd 21)), (21, .inl (o_aload 0 22)), (22, .inl (o_iload 3 23)), (23, .inl (o_iload 4 25)), (25, .inl (o_callV fX11_who 2 11 28)), (28, .inl (o_iast 29)), (29, .inl (o_aload 0 30)), (30, .inl (o_get 11 7 33)), (33, .inl (o_pushI (nI 126) 35)), (35, .inl (o_aload 0 36)), (36, .inl (o_iload 3 37)), (37, .inl (o_iload 4 39)), (39, .inl (o_callV fX11_slot 2 11 42)), (42, .inl (o_iadd 43)), (43, .inl (o_iload 5 45)), (45, .inl (o_iast 46)), (46, .inr 3)]
theorem qX11_exchanges : yX11_exchanges.cls = RX11 ∧ yX11_exchanges.cls ≠ "java/lang/invoke/MethodHandle" ∧ yX11_exchanges.cls ≠ "java/lang/invoke/VarHandle" ∧ (parseMethodDescriptor yX11_exchanges.desc).map (fun d => d.parameters.length) = some 4 := by decide +kernel
set_option maxRecDepth 10000 in
theorem hX11_exchanges_0 (l : Launch) {p : Program} {e : Env} {s : State} {m : MethodId} {args : Array Value} {below : List Frame} {meth : Method} {c : Code} {D : va_G} {ad adV : Nat → Nat} {cA : Nat → ClassId} {K : Kt} (C0 : Cx p s m args meth c D ad adV cA cX11_exchanges 6 RX11) (hr : meth.sig.returnType = none) : ∀ q ∈ lX11_exchanges, Sd p l e (rmd 2) s m args below meth c (MQ below (QQ D ad cA K) args s 0 0 (AA ad)) D ad cA 6 q.1 (opOf K q.2) := List.forall_mem_cons.mpr ⟨s_aload_n C0 dX11_exchanges_0 rfl, List.forall_mem_cons.mpr ⟨s_iload_n C0 dX11_exchanges_1 rfl, List.forall_mem_cons.mpr ⟨s_iload_n C0 dX11_exchanges_2 rfl, List.forall_mem_cons.mpr ⟨s_callV (ci := 11) C0 (kX11_who l) dX11_exchanges_3 rfl qX11_who tw6_230 tw6_232 twp_61 tw1_12 tw6_233 rfl (by decide) (by decide), List.forall_mem_cons.mpr ⟨s_istore C0 dX11_exchanges_6 (by decide), List.forall_mem_cons.mpr ⟨s_aload_n C0 dX11_exchanges_8 rfl, List.forall_mem_cons.mpr ⟨s_get (ci := 11) (k := 7) C0 dX11_exchanges_9 inX11 rfl (by decide) tw6_18, List.forall_mem_cons.mpr ⟨s_bipush C0 dX11_exchanges_12 (by decide +kernel), List.forall_mem_cons.mpr ⟨s_aload_n C0 dX11_exchanges_14 rfl, List.forall_mem_cons.mpr ⟨s_iload_n C0 dX11_exchanges_15 rfl, List.forall_mem_cons.mpr ⟨s_iload_n C0 dX11_exchanges_16 rfl, List.forall_mem_cons.mpr ⟨s_callV (ci := 11) C0 (kX11_slot l) dX11_exchanges_17 rfl qX11_slot tw6_226 tw6_228 twp_60 tw1_12 tw6_229 rfl (by decide) (by decide), List.forall_mem_cons.mpr ⟨s_iadd C0 dX11_exchanges_20, List.forall_mem_cons.mpr ⟨s_aload_n C0 dX11_exchanges_21 rfl, List.forall_mem_cons.mpr ⟨s_iload_n C0 dX11_exchanges_22 rfl, List.forall_mem_cons.mpr ⟨s_iload C0 dX11_exchanges_23, List.forall_mem_cons.mpr ⟨s_callV (ci := 11) C0 (kX11_who l) dX11_exchanges_25 rfl qX11_who tw6_230 tw6_232 twp_61 tw1_12 tw6_233 rfl (by decide) (by decide), List.forall_mem_cons.mpr ⟨s_iast C0 dX11_exchanges_28, List.forall_mem_cons.mpr ⟨s_aload_n C0 dX11_exchanges_29 rfl, List.forall_mem_cons.mpr ⟨s_get (ci := 11) (k := 7) C0 dX11_exchanges_30 inX11 rfl (by decide) tw6_18, List.forall_mem_cons.mpr ⟨s_bipush C0 dX11_exchanges_33 (by decide +kernel), List.forall_mem_cons.mpr ⟨s_aload_n C0 dX11_exchanges_35 rfl, List.forall_mem_cons.mpr ⟨s_iload_n C0 dX11_exchanges_36 rfl, List.forall_mem_cons.mpr ⟨s_iload C0 dX11_exchanges_37, List.forall_mem_cons.mpr ⟨s_callV (ci := 11) C0 (kX11_slot l) dX11_exchanges_39 rfl qX11_slot tw6_226 tw6_228 twp_60 tw1_12 tw6_229 rfl (by decide) (by decide), List.forall_mem_cons.mpr ⟨s_iadd C0 dX11_exchanges_42, List.forall_mem_cons.mpr ⟨s_iload C0 dX11_exchanges_43, List.forall_mem_cons.mpr ⟨s_iast C0 dX11_exchanges_45, List.forall_mem_cons.mpr ⟨s_vret C0 hr dX11_exchanges_46, fun _ h => absurd h List.not_mem_nil⟩⟩⟩⟩⟩⟩⟩⟩⟩⟩⟩⟩⟩⟩⟩⟩⟩⟩⟩⟩⟩⟩⟩⟩⟩⟩⟩⟩⟩
def fX11_exchanges : Mf := mf 6 (fun K => tl K lX11_exchanges)
theorem kX11_exchanges (l : Launch) : Okm l yX11_exchanges cX11_exchanges 6 none 2 fX11_exchanges := Okm_tl (own := RX11) (by decide +kernel) rfl (fun C0 hr => hX11_exchanges_0 l C0 hr)
theorem dX11_swap_0 : decode cX11_swap 0 = .ok (.aload_n 0, 1) := by decide +kernel
theorem dX11_swap_1 : decode cX11_swap 1 = .ok (.iload_n 1, 1) := by decide +kernel
theorem dX11_swap_2 : decode cX11_swap 2 = .ok (.invokevirtual 217, 3) := by decide +kernel
theorem dX11_swap_5 : decode cX11_swap 5 = .ok (.ifCond .eq 54, 3) := by decide +kernel
theorem dX11_swap_8 : decode cX11_swap 8 = .ok (.iload_n 2, 1) := by decide +kernel
theorem dX11_swap_9 : decode cX11_swap 9 = .ok (.iconst 0, 1) := by decide +kernel
theorem dX11_swap_10 : decode cX11_swap 10 = .ok (.aload_n 0, 1) := by decide +kernel
theorem dX11_swap_11 : decode cX11_swap 11 = .ok (.getfield 17, 3) := by decide +kernel
theorem dX11_swap_14 : decode cX11_swap 14 = .ok (.bipush 106, 2) := by decide +kernel
theorem dX11_swap_16 : decode cX11_swap 16 = .ok (.iload_n 1, 1) := by decide +kernel
theorem dX11_swap_17 : decode cX11_swap 17 = .ok (.iadd, 1) := by decide +kernel
theorem dX11_swap_18 : decode cX11_swap 18 = .ok (.iaload, 1) := by decide +kernel
theorem dX11_swap_19 : decode cX11_swap 19 = .ok (.iconst 1, 1) := by decide +kernel
theorem dX11_swap_20 : decode cX11_swap 20 = .ok (.isub, 1) := by decide +kernel
theorem dX11_swap_21 : decode cX11_swap 21 = .ok (.invokestatic 76, 3) := by decide +kernel
theorem dX11_swap_24 : decode cX11_swap 24 = .ok (.ifCond .eq 35, 3) := by decide +kernel
theorem dX11_swap_27 : decode cX11_swap 27 = .ok (.aload_n 0, 1) := by decide +kernel
theorem dX11_swap_28 : decode cX11_swap 28 = .ok (.iload_n 3, 1) := by decide +kernel
theorem dX11_swap_29 : decode cX11_swap 29 = .ok (.invokevirtual 217, 3) := by decide +kernel
theorem dX11_swap_32 : decode cX11_swap 32 = .ok (.ifCond .eq 27, 3) := by decide +kernel
theorem dX11_swap_35 : decode cX11_swap 35 = .ok (.iload 4, 2) := by decide +kernel
theorem dX11_swap_37 : decode cX11_swap 37 = .ok (.iconst 0, 1) := by decide +kernel
theorem dX11_swap_38 : decode cX11_swap 38 = .ok (.aload_n 0, 1) := by decide +kernel
theorem dX11_swap_39 : decode cX11_swap 39 = .ok (.getfield 17, 3) := by decide +kernel
theorem dX11_swap_42 : decode cX11_swap 42 = .ok (.bipush 106, 2) := by decide +kernel
theorem dX11_swap_44 : decode cX11_swap 44 = .ok (.iload_n 3, 1) := by decide +kernel
theorem dX11_swap_45 : decode cX11_swap 45 = .ok (.iadd, 1) := by decide +kernel
theorem dX11_swap_46 : decode cX11_swap 46 = .ok (.iaload, 1) := by decide +kernel
theorem dX11_swap_47 : decode cX11_swap 47 = .ok (.iconst 1, 1) := by decide +kernel
theorem dX11_swap_48 : decode cX11_swap 48 = .ok (.isub, 1) := by decide +kernel
theorem dX11_swap_49 : decode cX11_swap 49 = .ok (.invokestatic 76, 3) := by decide +kernel
theorem dX11_swap_52 : decode cX11_swap 52 = .ok (.ifCond .eq 7, 3) := by decide +kernel
theorem dX11_swap_55 : decode cX11_swap 55 = .ok (.iconst 1, 1) := by decide +kernel
theorem dX11_swap_56 : decode cX11_swap 56 = .ok (.goto 4, 3) := by decide +kernel
theorem dX11_swap_59 : decode cX11_swap 59 = .ok (.iconst 0, 1) := by decide +kernel
theorem dX11_swap_60 : decode cX11_swap 60 = .ok (.istore 5, 2) := by decide +kernel
theorem dX11_swap_62 : decode cX11_swap 62 = .ok (.iload 5, 2) := by decide +kernel
theorem dX11_swap_64 : decode cX11_swap 64 = .ok (.ifCond .ne 7, 3) := by decide +kernel
theorem dX11_swap_67 : decode cX11_swap 67 = .ok (.iconst 1, 1) := by decide +kernel
theorem dX11_swap_68 : decode cX11_swap 68 = .ok (.goto 42, 3) := by decide +kernel
theorem dX11_swap_71 : decode cX11_swap 71 = .ok (.iload_n 1, 1) := by decide +kernel
theorem dX11_swap_72 : decode cX11_swap 72 = .ok (.iload_n 3, 1) := by decide +kernel
theorem dX11_swap_73 : decode cX11_swap 73 = .ok (.if_icmp .eq 32, 3) := by decide +kernel
theorem dX11_swap_76 : decode cX11_swap 76 = .ok (.aload_n 0, 1) := by decide +kernel
theorem dX11_swap_77 : decode cX11_swap 77 = .ok (.aload_n 0, 1) := by decide +kernel
theorem dX11_swap_78 : decode cX11_swap 78 = .ok (.iload_n 1, 1) := by decide +kernel
theorem dX11_swap_79 : decode cX11_swap 79 = .ok (.iload_n 2, 1) := by decide +kernel
theorem dX11_swap_80 : decode cX11_swap 80 = .ok (.invokevirtual 201, 3) := by decide +kernel
theorem dX11_swap_83 : decode cX11_swap 83 = .ok (.iload_n 3, 1) := by decide +kernel
theorem dX11_swap_84 : decode cX11_swap 84 = .ok (.invokevirtual 242, 3) := by decide +kernel
theorem dX11_swap_87 : decode cX11_swap 87 = .ok (.ifCond .ne 18, 3) := by decide +kernel
theorem dX11_swap_90 : decode cX11_swap 90 = .ok (.aload_n 0, 1) := by decide +kernel
theorem dX11_swap_91 : decode cX11_swap 91 = .ok (.aload_n 0, 1) := by decide +kernel
theorem dX11_swap_92 : decode cX11_swap 92 = .ok (.iload_n 3, 1) := by decide +kernel
theorem dX11_swap_93 : decode cX11_swap 93 = .ok (.iload 4, 2) := by decide +kernel
theorem dX11_swap_95 : decode cX11_swap 95 = .ok (.invokevirtual 201, 3) := by decide +kernel
theorem dX11_swap_98 : decode cX11_swap 98 = .ok (.iload_n 1, 1) := by decide +kernel
theorem dX11_swap_99 : decode cX11_swap 99 = .ok (.invokevirtual 242, 3) := by decide +kernel
theorem dX11_swap_102 : decode cX11_swap 102 = .ok (.ifCond .eq 7, 3) := by decide +kernel
theorem dX11_swap_105 : decode cX11_swap 105 = .ok (.iconst 5, 1) := by decide +kernel
theorem dX11_swap_106 : decode cX11_swap 106 = .ok (.goto 4, 3) := by decide +kernel
theorem dX11_swap_109 : decode cX11_swap 109 = .ok (.iconst 0, 1) := by decide +kernel
theorem dX11_swap_110 : decode cX11_swap 110 = .ok (.istore 6, 2) := by decide +kernel
theorem dX11_swap_112 : decode cX11_swap 112 = .ok (.iload 6, 2) := by decide +kernel
theorem dX11_swap_114 : decode cX11_swap 114 = .ok (.ifCond .ne 47, 3) := by decide +kernel
theorem dX11_swap_117 : decode cX11_swap 117 = .ok (.aload_n 0, 1) := by decide +kernel
theorem dX11_swap_118 : decode cX11_swap 118 = .ok (.iload_n 1, 1) := by decide +kernel
theorem dX11_swap_119 : decode cX11_swap 119 = .ok (.iload_n 2, 1) := by decide +kernel
theorem dX11_swap_120 : decode cX11_swap 120 = .ok (.iload_n 3, 1) := by decide +kernel
theorem dX11_swap_121 : decode cX11_swap 121 = .ok (.iload 4, 2) := by decide +kernel
theorem dX11_swap_123 : decode cX11_swap 123 = .ok (.invokevirtual 301, 3) := by decide +kernel
theorem dX11_swap_126 : decode cX11_swap 126 = .ok (.aload_n 0, 1) := by decide +kernel
theorem dX11_swap_127 : decode cX11_swap 127 = .ok (.iload_n 1, 1) := by decide +kernel
theorem dX11_swap_128 : decode cX11_swap 128 = .ok (.iload_n 2, 1) := by decide +kernel
theorem dX11_swap_129 : decode cX11_swap 129 = .ok (.invokevirtual 249, 3) := by decide +kernel
theorem dX11_swap_132 : decode cX11_swap 132 = .ok (.ifCond .eq 17, 3) := by decide +kernel
theorem dX11_swap_135 : decode cX11_swap 135 = .ok (.aload_n 0, 1) := by decide +kernel
theorem dX11_swap_136 : decode cX11_swap 136 = .ok (.iload_n 3, 1) := by decide +kernel
theorem dX11_swap_137 : decode cX11_swap 137 = .ok (.iload 4, 2) := by decide +kernel
theorem dX11_swap_139 : decode cX11_swap 139 = .ok (.invokevirtual 249, 3) := by decide +kernel
theorem dX11_swap_142 : decode cX11_swap 142 = .ok (.ifCond .eq 7, 3) := by decide +kernel
theorem dX11_swap_145 : decode cX11_swap 145 = .ok (.iconst 0, 1) := by decide +kernel
theorem dX11_swap_146 : decode cX11_swap 146 = .ok (.goto 4, 3) := by decide +kernel
theorem dX11_swap_149 : decode cX11_swap 149 = .ok (.iconst 5, 1) := by decide +kernel
theorem dX11_swap_150 : decode cX11_swap 150 = .ok (.istore 6, 2) := by decide +kernel
theorem dX11_swap_152 : decode cX11_swap 152 = .ok (.aload_n 0, 1) := by decide +kernel
theorem dX11_swap_153 : decode cX11_swap 153 = .ok (.iload_n 1, 1) := by decide +kernel
theorem dX11_swap_154 : decode cX11_swap 154 = .ok (.iload_n 2, 1) := by decide +kernel
theorem dX11_swap_155 : decode cX11_swap 155 = .ok (.iload_n 3, 1) := by decide +kernel
theorem dX11_swap_156 : decode cX11_swap 156 = .ok (.iload 4, 2) := by decide +kernel
theorem dX11_swap_158 : decode cX11_swap 158 = .ok (.invokevirtual 301, 3) := by decide +kernel
theorem dX11_swap_161 : decode cX11_swap 161 = .ok (.aload_n 0, 1) := by decide +kernel
theorem dX11_swap_162 : decode cX11_swap 162 = .ok (.iload 6, 2) := by decide +kernel
theorem dX11_swap_164 : decode cX11_swap 164 = .ok (.invokevirtual 159, 3) := by decide +kernel
theorem dX11_swap_167 : decode cX11_swap 167 = .ok (.ifCond .eq 5, 3) := by decide +kernel
theorem dX11_swap_170 : decode cX11_swap 170 = .ok (.iconst 0, 1) := by decide +kernel
theorem dX11_swap_171 : decode cX11_swap 171 = .ok (.ireturn, 1) := by decide +kernel
theorem dX11_swap_172 : decode cX11_swap 172 = .ok (.aload_n 0, 1) := by decide +kernel
theorem dX11_swap_173 : decode cX11_swap 173 = .ok (.invokevirtual 295, 3) := by decide +kernel
theorem dX11_swap_176 : decode cX11_swap 176 = .ok (.aload_n 0, 1) := by decide +kernel
theorem dX11_swap_177 : decode cX11_swap 177 = .ok (.iload_n 1, 1) := by decide +kernel
theorem dX11_swap_178 : decode cX11_swap 178 = .ok (.iload_n 2, 1) := by decide +kernel
theorem dX11_swap_179 : decode cX11_swap 179 = .ok (.iload_n 3, 1) := by decide +kernel
theorem dX11_swap_180 : decode cX11_swap 180 = .ok (.iload 4, 2) := by decide +kernel
theorem dX11_swap_182 : decode cX11_swap 182 = .ok (.invokevirtual 301, 3) := by decide +kernel
theorem dX11_swap_185 : decode cX11_swap 185 = .ok (.iconst 1, 1) := by decide +kernel
theorem dX11_swap_186 : decode cX11_swap 186 = .ok (.ireturn, 1) := by decide +kernel
def lX11_swap_0 : List (Nat × (Op ⊕ Nat)) := [(0, .inl (o_aload 0 1)), (1, .inl (o_iload 1 2)), (2, .inl (o_callV fX11_isGame 1 11 5)), (5, .inl (o_if_eq 59 8)), (8, .inl (o_iload 2 9)), (9, .inl (o_pushI (nI 0) 10)), (10, .inl (o_aload 0 11)), (11, .inl (o_get 11 7 14)), (14, .inl (o_pushI (nI 106) 16)), (16, .inl (o_iload 1 17)), (17, .inl (o_iadd 18)), (18, .inl (o_iald 19)), (19, .inl (o_pushI (nI 1) 20)), (20, .inl (o_isub 21)), (21, .inl (o_callS fX11_in 3 24)), (24, .inl (o_if_eq 59 27)), (27, .inl (o_aload 0 28)), (28, .inl (o_iload 3 29)), (29, .inl (o_callV fX11_isGame 1 11 32)), (32, .inl (o_if_eq 59 35)), (35, .inl (o_iload 4 37)), (37, .inl (o_pushI (nI 0) 38)), (38, .inl (o_aload 0 39)), (39, .inl (o_get 11 7 42)), (42, .inl (o_pushI (nI 106) 44)), (44, .inl (o_iload 3 45)), (45, .inl (o_iadd 46)), (46, .inl (o_iald 47)), (47, .inl (o_pushI (nI 1) 48)), (48, .inl (o_isub 49)), (49, .inl (o_callS fX11_in 3 52)), (52, .inl (o_if_eq 59 55)), (55, .inl (o_pushI (nI 1) 56)), (56, .inl (o_goto 60)), (59, .inl (o_pushI (nI 0) 60)), (60, .inl (o_istore 5 62)), (62, .inl (o_iload 5 64)), (64, .inl (o_if_ne 71 67)), (67, .inl (o_pushI (nI 1) 68)), (68, .inl (o_goto 110))]
def lX11_swap_1 : List (Nat × (Op ⊕ Nat)) := [(71, .inl (o_iload 1 72)), (72, .inl (o_iload 3 73)), (73, .inl (o_icmp_eq 105 76)), (76, .inl (o_aload 0 77)), (77, .inl (o_aload 0 78)), (78, .inl (o_iload 1 79)), (79, .inl (o_iload 2 80)), (80, .inl (o_callV fX11_who 2 11 83)), (83, .inl (o_iload 3 84)), (84, .inl (o_callV fX11_isIn 2 11 87)), (87, .inl (o_if_ne 105 90)), (90, .inl (o_aload 0 91)), (91, .inl (o_aload 0 92)), (92, .inl (o_iload 3 93)), (93, .inl (o_iload 4 95)), (95, .inl (o_callV fX11_who 2 11 98)), (98, .inl (o_iload 1 99)), (99, .inl (o_callV fX11_isIn 2 11 102)), (102, .inl (o_if_eq 109 105)), (105, .inl (o_pushI (nI 5) 106)), (106, .inl (o_goto 110)), (109, .inl (o_pushI (nI 0) 110)), (110, .inl (o_istore 6 112)), (112, .inl (o_iload 6 114)), (114, .inl (o_if_ne 161 117)), (117, .inl (o_aload 0 118)), (118, .inl (o_iload 1 119)), (119, .inl (o_iload 2 120)), (120, .inl (o_iload 3 121)), (121, .inl (o_iload 4 123)), (123, .inl (o_callV fX11_exchanges 4 11 126)), (126, .inl (o_aload 0 127)), (127, .inl (o_iload 1 128)), (128, .inl (o_iload 2 129)), (129, .inl (o_callV fX11_isAllowedAt 2 11 132)), (132, .inl (o_if_eq 149 135)), (135, .inl (o_aload 0 136)), (136, .inl (o_iload 3 137)), (137, .inl (o_iload 4 139)), (139, .inl (o_callV fX11_isAllowedAt 2 11 142))]
def lX11_swap_2 : List (Nat × (Op ⊕ Nat)) := [(142, .inl (o_if_eq 149 145)), (145, .inl (o_pushI (nI 0) 146)), (146, .inl (o_goto 150)), (149, .inl (o_pushI (nI 5) 150)), (150, .inl (o_istore 6 152)), (152, .inl (o_aload 0 153)), (153, .inl (o_iload 1 154)), (154, .inl (o_iload 2 155)), (155, .inl (o_iload 3 156)), (156, .inl (o_iload 4 158)), (158, .inl (o_callV fX11_exchanges 4 11 161)), (161, .inl (o_aload 0 162)), (162, .inl (o_iload 6 164)), (164, .inl (o_callV fX11_isRefused 1 11 167)), (167, .inl (o_if_eq 172 170)), (170, .inl (o_pushI (nI 0) 171)), (171, .inr 1), (172, .inl (o_aload 0 173)), (173, .inl (o_callV fX11_remembers 0 11 176)), (176, .inl (o_aload 0 177)), (177, .inl (o_iload 1 178)), (178, .inl (o_iload 2 179)), (179, .inl (o_iload 3 180)), (180, .inl (o_iload 4 182)), (182, .inl (o_callV fX11_exchanges 4 11 185)), (185, .inl (o_pushI (nI 1) 186)), (186, .inr 1)]
def lX11_swap : List (Nat × (Op ⊕ Nat)) := lX11_swap_0 ++ (lX11_swap_1 ++ (lX11_swap_2))
theorem qX11_swap : yX11_swap.cls = RX11 ∧ yX11_swap.cls ≠ "java/lang/invoke/MethodHandle" ∧ yX11_swap.cls ≠ "java/lang/invoke/VarHandle" ∧ (parseMethodDescriptor yX11_swap.desc).map (fun d => d.parameters.length) = some 4 := by decide +kernel
set_option maxRecDepth 10000 in
theorem hX11_swap_0 (l : Launch) {p : Program} {e : Env} {s : State} {m : MethodId} {args : Array Value} {below : List Frame} {meth : Method} {c : Code} {D : va_G} {ad adV : Nat → Nat} {cA : Nat → ClassId} {K : Kt} (C0 : Cx p s m args meth c D ad adV cA cX11_swap 7 RX11) (hr : meth.sig.returnType = (some .boolean)) : ∀ q ∈ lX11_swap_0, Sd p l e (rmd 4) s m args below meth c (MQ below (QQ D ad cA K) args s 0 0 (AA ad)) D ad cA 7 q.1 (opOf K q.2) := List.forall_mem_cons.mpr ⟨s_aload_n C0 dX11_swap_0 rfl, List.forall_mem_cons.mpr ⟨s_iload_n C0 dX11_swap_1 rfl, List.forall_mem_cons.mpr ⟨s_callV (ci := 11) C0 (kX11_isGame l) dX11_swap_2 rfl qX11_isGame tw7_14 tw7_16 twp_66 tw1_12 tw7_17 rfl (by decide) (by decide), List.forall_mem_cons.mpr ⟨s_if_eq C0 dX11_swap_5 rfl, List.forall_mem_cons.mpr ⟨s_iload_n C0 dX11_swap_8 rfl, List.forall_mem_cons.mpr ⟨s_iconst C0 dX11_swap_9 rfl, List.forall_mem_cons.mpr ⟨s_aload_n C0 dX11_swap_10 rfl, List.forall_mem_cons.mpr ⟨s_get (ci := 11) (k := 7) C0 dX11_swap_11 inX11 rfl (by decide) tw6_18, List.forall_mem_cons.mpr ⟨s_bipush C0 dX11_swap_14 (by decide +kernel), List.forall_mem_cons.mpr ⟨s_iload_n C0 dX11_swap_16 rfl, List.forall_mem_cons.mpr ⟨s_iadd C0 dX11_swap_17, List.forall_mem_cons.mpr ⟨s_iald C0 dX11_swap_18, List.forall_mem_cons.mpr ⟨s_iconst C0 dX11_swap_19 rfl, List.forall_mem_cons.mpr ⟨s_isub C0 dX11_swap_20, List.forall_mem_cons.mpr ⟨s_callS C0 (kX11_in l) dX11_swap_21 qX11_in tw6_112 tw6_113 tw1_12 tw6_114 rfl (by decide) (by decide), List.forall_mem_cons.mpr ⟨s_if_eq C0 dX11_swap_24 rfl, List.forall_mem_cons.mpr ⟨s_aload_n C0 dX11_swap_27 rfl, List.forall_mem_cons.mpr ⟨s_iload_n C0 dX11_swap_28 rfl, List.forall_mem_cons.mpr ⟨s_callV (ci := 11) C0 (kX11_isGame l) dX11_swap_29 rfl qX11_isGame tw7_14 tw7_16 twp_66 tw1_12 tw7_17 rfl (by decide) (by decide), List.forall_mem_cons.mpr ⟨s_if_eq C0 dX11_swap_32 rfl, List.forall_mem_cons.mpr ⟨s_iload C0 dX11_swap_35, List.forall_mem_cons.mpr ⟨s_iconst C0 dX11_swap_37 rfl, List.forall_mem_cons.mpr ⟨s_aload_n C0 dX11_swap_38 rfl, List.forall_mem_cons.mpr ⟨s_get (ci := 11) (k := 7) C0 dX11_swap_39 inX11 rfl (by decide) tw6_18, List.forall_mem_cons.mpr ⟨s_bipush C0 dX11_swap_42 (by decide +kernel), List.forall_mem_cons.mpr ⟨s_iload_n C0 dX11_swap_44 rfl, List.forall_mem_cons.mpr ⟨s_iadd C0 dX11_swap_45, List.forall_mem_cons.mpr ⟨s_iald C0 dX11_swap_46, List.forall_mem_cons.mpr ⟨s_iconst C0 dX11_swap_47 rfl, List.forall_mem_cons.mpr ⟨s_isub C0 dX11_swap_48, List.forall_mem_cons.mpr ⟨s_callS C0 (kX11_in l) dX11_swap_49 qX11_in tw6_112 tw6_113 tw1_12 tw6_114 rfl (by decide) (by decide), List.forall_mem_cons.mpr ⟨s_if_eq C0 dX11_swap_52 rfl, List.forall_mem_cons.mpr ⟨s_iconst C0 dX11_swap_55 rfl, List.forall_mem_cons.mpr ⟨s_goto C0 dX11_swap_56 rfl, List.forall_mem_cons.mpr ⟨s_iconst C0 dX11_swap_59 rfl, List.forall_mem_cons.mpr ⟨s_istore C0 dX11_swap_60 (by decide), List.forall_mem_cons.mpr ⟨s_iload C0 dX11_swap_62, List.forall_mem_cons.mpr ⟨s_if_ne C0 dX11_swap_64 rfl, List.forall_mem_cons.mpr ⟨s_iconst C0 dX11_swap_67 rfl, List.forall_mem_cons.mpr ⟨s_goto C0 dX11_swap_68 rfl, fun _ h => absurd h List.not_mem_nil⟩⟩⟩⟩⟩⟩⟩⟩⟩⟩⟩⟩⟩⟩⟩⟩⟩⟩⟩⟩⟩⟩⟩⟩⟩⟩⟩⟩⟩⟩⟩⟩⟩⟩⟩⟩⟩⟩⟩⟩
set_option maxRecDepth 10000 in
theorem hX11_swap_1 (l : Launch) {p : Program} {e : Env} {s : State} {m : MethodId} {args : Array Value} {below : List Frame} {meth : Method} {c : Code} {D : va_G} {ad adV : Nat → Nat} {cA : Nat → ClassId} {K : Kt} (C0 : Cx p s m args meth c D ad adV cA cX11_swap 7 RX11) (hr : meth.sig.returnType = (some .boolean)) : ∀ q ∈ lX11_swap_1, Sd p l e (rmd 4) s m args below meth c (MQ below (QQ D ad cA K) args s 0 0 (AA ad)) D ad cA 7 q.1 (opOf K q.2) := List.forall_mem_cons.mpr ⟨s_iload_n C0 dX11_swap_71 rfl, List.forall_mem_cons.mpr ⟨s_iload_n C0 dX11_swap_72 rfl, List.forall_mem_cons.mpr ⟨s_icmp_eq C0 dX11_swap_73 rfl, List.forall_mem_cons.mpr ⟨s_aload_n C0 dX11_swap_76 rfl, List.forall_mem_cons.mpr ⟨s_aload_n C0 dX11_swap_77 rfl, List.forall_mem_cons.mpr ⟨s_iload_n C0 dX11_swap_78 rfl, List.forall_mem_cons.mpr ⟨s_iload_n C0 dX11_swap_79 rfl, List.forall_mem_cons.mpr ⟨s_callV (ci := 11) C0 (kX11_who l) dX11_swap_80 rfl qX11_who tw6_230 tw6_232 twp_61 tw1_12 tw6_233 rfl (by decide) (by decide), List.forall_mem_cons.mpr ⟨s_iload_n C0 dX11_swap_83 rfl, List.forall_mem_cons.mpr ⟨s_callV (ci := 11) C0 (kX11_isIn l) dX11_swap_84 rfl qX11_isIn tw7_74 tw7_76 twp_75 tw1_12 tw7_77 rfl (by decide) (by decide), List.forall_mem_cons.mpr ⟨s_if_ne C0 dX11_swap_87 rfl, List.forall_mem_cons.mpr ⟨s_aload_n C0 dX11_swap_90 rfl, List.forall_mem_cons.mpr ⟨s_aload_n C0 dX11_swap_91 rfl, List.forall_mem_cons.mpr ⟨s_iload_n C0 dX11_swap_92 rfl, List.forall_mem_cons.mpr ⟨s_iload C0 dX11_swap_93, List.forall_mem_cons.mpr ⟨s_callV (ci := 11) C0 (kX11_who l) dX11_swap_95 rfl qX11_who tw6_230 tw6_232 twp_61 tw1_12 tw6_233 rfl (by decide) (by decide), List.forall_mem_cons.mpr ⟨s_iload_n C0 dX11_swap_98 rfl, List.forall_mem_cons.mpr ⟨s_callV (ci := 11) C0 (kX11_isIn l) dX11_swap_99 rfl qX11_isIn tw7_74 tw7_76 twp_75 tw1_12 tw7_77 rfl (by decide) (by decide), List.forall_mem_cons.mpr ⟨s_if_eq C0 dX11_swap_102 rfl, List.forall_mem_cons.mpr ⟨s_iconst C0 dX11_swap_105 rfl, List.forall_mem_cons.mpr ⟨s_goto C0 dX11_swap_106 rfl, List.forall_mem_cons.mpr ⟨s_iconst C0 dX11_swap_109 rfl, List.forall_mem_cons.mpr ⟨s_istore C0 dX11_swap_110 (by decide), List.forall_mem_cons.mpr ⟨s_iload C0 dX11_swap_112, List.forall_mem_cons.mpr ⟨s_if_ne C0 dX11_swap_114 rfl, List.forall_mem_cons.mpr ⟨s_aload_n C0 dX11_swap_117 rfl, List.forall_mem_cons.mpr ⟨s_iload_n C0 dX11_swap_118 rfl, List.forall_mem_cons.mpr ⟨s_iload_n C0 dX11_swap_119 rfl, List.forall_mem_cons.mpr ⟨s_iload_n C0 dX11_swap_120 rfl, List.forall_mem_cons.mpr ⟨s_iload C0 dX11_swap_121, List.forall_mem_cons.mpr ⟨s_callV (ci := 11) C0 (kX11_exchanges l) dX11_swap_123 rfl qX11_exchanges tw7_229 tw7_231 twp_88 tw1_12 tw7_232 rfl (by decide) (by decide), List.forall_mem_cons.mpr ⟨s_aload_n C0 dX11_swap_126 rfl, List.forall_mem_cons.mpr ⟨s_iload_n C0 dX11_swap_127 rfl, List.forall_mem_cons.mpr ⟨s_iload_n C0 dX11_swap_128 rfl, List.forall_mem_cons.mpr ⟨s_callV (ci := 11) C0 (kX11_isAllowedAt l) dX11_swap_129 rfl qX11_isAllowedAt tw7_38 tw7_40 twp_70 tw1_12 tw7_41 rfl (by decide) (by decide), List.forall_mem_cons.mpr ⟨s_if_eq C0 dX11_swap_132 rfl, List.forall_mem_cons.mpr ⟨s_aload_n C0 dX11_swap_135 rfl, List.forall_mem_cons.mpr ⟨s_iload_n C0 dX11_swap_136 rfl, List.forall_mem_cons.mpr ⟨s_iload C0 dX11_swap_137, List.forall_mem_cons.mpr ⟨s_callV (ci := 11) C0 (kX11_isAllowedAt l) dX11_swap_139 rfl qX11_isAllowedAt tw7_38 tw7_40 twp_70 tw1_12 tw7_41 rfl (by decide) (by decide), fun _ h => absurd h List.not_mem_nil⟩⟩⟩⟩⟩⟩⟩⟩⟩⟩⟩⟩⟩⟩⟩⟩⟩⟩⟩⟩⟩⟩⟩⟩⟩⟩⟩⟩⟩⟩⟩⟩⟩⟩⟩⟩⟩⟩⟩⟩
set_option maxRecDepth 10000 in
theorem hX11_swap_2 (l : Launch) {p : Program} {e : Env} {s : State} {m : MethodId} {args : Array Value} {below : List Frame} {meth : Method} {c : Code} {D : va_G} {ad adV : Nat → Nat} {cA : Nat → ClassId} {K : Kt} (C0 : Cx p s m args meth c D ad adV cA cX11_swap 7 RX11) (hr : meth.sig.returnType = (some .boolean)) : ∀ q ∈ lX11_swap_2, Sd p l e (rmd 4) s m args below meth c (MQ below (QQ D ad cA K) args s 0 0 (AA ad)) D ad cA 7 q.1 (opOf K q.2) := List.forall_mem_cons.mpr ⟨s_if_eq C0 dX11_swap_142 rfl, List.forall_mem_cons.mpr ⟨s_iconst C0 dX11_swap_145 rfl, List.forall_mem_cons.mpr ⟨s_goto C0 dX11_swap_146 rfl, List.forall_mem_cons.mpr ⟨s_iconst C0 dX11_swap_149 rfl, List.forall_mem_cons.mpr ⟨s_istore C0 dX11_swap_150 (by decide), List.forall_mem_cons.mpr ⟨s_aload_n C0 dX11_swap_152 rfl, List.forall_mem_cons.mpr ⟨s_iload_n C0 dX11_swap_153 rfl, List.forall_mem_cons.mpr ⟨s_iload_n C0 dX11_swap_154 rfl, List.forall_mem_cons.mpr ⟨s_iload_n C0 dX11_swap_155 rfl, List.forall_mem_cons.mpr ⟨s_iload C0 dX11_swap_156, List.forall_mem_cons.mpr ⟨s_callV (ci := 11) C0 (kX11_exchanges l) dX11_swap_158 rfl qX11_exchanges tw7_229 tw7_231 twp_88 tw1_12 tw7_232 rfl (by decide) (by decide), List.forall_mem_cons.mpr ⟨s_aload_n C0 dX11_swap_161 rfl, List.forall_mem_cons.mpr ⟨s_iload C0 dX11_swap_162, List.forall_mem_cons.mpr ⟨s_callV (ci := 11) C0 (kX11_isRefused l) dX11_swap_164 rfl qX11_isRefused tw6_118 tw6_120 twp_41 tw1_12 tw6_121 rfl (by decide) (by decide), List.forall_mem_cons.mpr ⟨s_if_eq C0 dX11_swap_167 rfl, List.forall_mem_cons.mpr ⟨s_iconst C0 dX11_swap_170 rfl, List.forall_mem_cons.mpr ⟨s_zret C0 hr dX11_swap_171, List.forall_mem_cons.mpr ⟨s_aload_n C0 dX11_swap_172 rfl, List.forall_mem_cons.mpr ⟨s_callV (ci := 11) C0 (kX11_remembers l) dX11_swap_173 rfl qX11_remembers tw7_209 tw7_211 twp_86 tw1_12 tw7_212 rfl (by decide) (by decide), List.forall_mem_cons.mpr ⟨s_aload_n C0 dX11_swap_176 rfl, List.forall_mem_cons.mpr ⟨s_iload_n C0 dX11_swap_177 rfl, List.forall_mem_cons.mpr ⟨s_iload_n C0 dX11_swap_178 rfl, List.forall_mem_cons.mpr ⟨s_iload_n C0 dX11_swap_179 rfl, List.forall_mem_cons.mpr ⟨s_iload C0 dX11_swap_180, List.forall_mem_cons.mpr ⟨s_callV (ci := 11) C0 (kX11_exchanges l) dX11_swap_182 rfl qX11_exchanges tw7_229 tw7_231 twp_88 tw1_12 tw7_232 rfl (by decide) (by decide), List.forall_mem_cons.mpr ⟨s_iconst C0 dX11_swap_185 rfl, List.forall_mem_cons.mpr ⟨s_zret C0 hr dX11_swap_186, fun _ h => absurd h List.not_mem_nil⟩⟩⟩⟩⟩⟩⟩⟩⟩⟩⟩⟩⟩⟩⟩⟩⟩⟩⟩⟩⟩⟩⟩⟩⟩⟩⟩
def fX11_swap : Mf := mf 7 (fun K => tl K lX11_swap)
theorem kX11_swap (l : Launch) : Okm l yX11_swap cX11_swap 7 (some .boolean) 4 fX11_swap := Okm_tl (own := RX11) (by decide +kernel) rfl (fun C0 hr => List.forall_mem_append.mpr ⟨hX11_swap_0 l C0 hr, List.forall_mem_append.mpr ⟨hX11_swap_1 l C0 hr, hX11_swap_2 l C0 hr⟩⟩)
theorem dX11_laysGain_0 : decode cX11_laysGain 0 = .ok (.iconst 0, 1) := by decide +kernel
theorem dX11_laysGain_1 : decode cX11_laysGain 1 = .ok (.istore_n 1, 1) := by decide +kernel
theorem dX11_laysGain_2 : decode cX11_laysGain 2 = .ok (.iconst 0, 1) := by decide +kernel
theorem dX11_laysGain_3 : decode cX11_laysGain 3 = .ok (.istore_n 2, 1) := by decide +kernel
theorem dX11_laysGain_4 : decode cX11_laysGain 4 = .ok (.iload_n 2, 1) := by decide +kernel
theorem dX11_laysGain_5 : decode cX11_laysGain 5 = .ok (.aload_n 0, 1) := by decide +kernel
theorem dX11_laysGain_6 : decode cX11_laysGain 6 = .ok (.getfield 17, 3) := by decide +kernel
theorem dX11_laysGain_9 : decode cX11_laysGain 9 = .ok (.iconst 1, 1) := by decide +kernel
theorem dX11_laysGain_10 : decode cX11_laysGain 10 = .ok (.iaload, 1) := by decide +kernel
theorem dX11_laysGain_11 : decode cX11_laysGain 11 = .ok (.if_icmp .ge 130, 3) := by decide +kernel
theorem dX11_laysGain_14 : decode cX11_laysGain 14 = .ok (.iconst 0, 1) := by decide +kernel
theorem dX11_laysGain_15 : decode cX11_laysGain 15 = .ok (.istore_n 3, 1) := by decide +kernel
theorem dX11_laysGain_16 : decode cX11_laysGain 16 = .ok (.iload_n 3, 1) := by decide +kernel
theorem dX11_laysGain_17 : decode cX11_laysGain 17 = .ok (.aload_n 0, 1) := by decide +kernel
theorem dX11_laysGain_18 : decode cX11_laysGain 18 = .ok (.getfield 17, 3) := by decide +kernel
theorem dX11_laysGain_21 : decode cX11_laysGain 21 = .ok (.bipush 106, 2) := by decide +kernel
theorem dX11_laysGain_23 : decode cX11_laysGain 23 = .ok (.iload_n 2, 1) := by decide +kernel
theorem dX11_laysGain_24 : decode cX11_laysGain 24 = .ok (.iadd, 1) := by decide +kernel
theorem dX11_laysGain_25 : decode cX11_laysGain 25 = .ok (.iaload, 1) := by decide +kernel
theorem dX11_laysGain_26 : decode cX11_laysGain 26 = .ok (.if_icmp .ge 109, 3) := by decide +kernel
theorem dX11_laysGain_29 : decode cX11_laysGain 29 = .ok (.aload_n 0, 1) := by decide +kernel
theorem dX11_laysGain_30 : decode cX11_laysGain 30 = .ok (.iload_n 2, 1) := by decide +kernel
theorem dX11_laysGain_31 : decode cX11_laysGain 31 = .ok (.iload_n 3, 1) := by decide +kernel
theorem dX11_laysGain_32 : decode cX11_laysGain 32 = .ok (.invokevirtual 198, 3) := by decide +kernel
theorem dX11_laysGain_35 : decode cX11_laysGain 35 = .ok (.istore 4, 2) := by decide +kernel
theorem dX11_laysGain_37 : decode cX11_laysGain 37 = .ok (.iconst 0, 1) := by decide +kernel
theorem dX11_laysGain_38 : decode cX11_laysGain 38 = .ok (.istore 5, 2) := by decide +kernel
theorem dX11_laysGain_40 : decode cX11_laysGain 40 = .ok (.iload 5, 2) := by decide +kernel
theorem dX11_laysGain_42 : decode cX11_laysGain 42 = .ok (.aload_n 0, 1) := by decide +kernel
theorem dX11_laysGain_43 : decode cX11_laysGain 43 = .ok (.getfield 17, 3) := by decide +kernel
theorem dX11_laysGain_46 : decode cX11_laysGain 46 = .ok (.iconst 0, 1) := by decide +kernel
theorem dX11_laysGain_47 : decode cX11_laysGain 47 = .ok (.iaload, 1) := by decide +kernel
theorem dX11_laysGain_48 : decode cX11_laysGain 48 = .ok (.if_icmp .ge 81, 3) := by decide +kernel
theorem dX11_laysGain_51 : decode cX11_laysGain 51 = .ok (.aload_n 0, 1) := by decide +kernel
theorem dX11_laysGain_52 : decode cX11_laysGain 52 = .ok (.iload 5, 2) := by decide +kernel
theorem dX11_laysGain_54 : decode cX11_laysGain 54 = .ok (.iload_n 2, 1) := by decide +kernel
theorem dX11_laysGain_55 : decode cX11_laysGain 55 = .ok (.iload 4, 2) := by decide +kernel
theorem dX11_laysGain_57 : decode cX11_laysGain 57 = .ok (.invokevirtual 204, 3) := by decide +kernel
theorem dX11_laysGain_60 : decode cX11_laysGain 60 = .ok (.aload_n 0, 1) := by decide +kernel
theorem dX11_laysGain_61 : decode cX11_laysGain 61 = .ok (.aload_n 0, 1) := by decide +kernel
theorem dX11_laysGain_62 : decode cX11_laysGain 62 = .ok (.iload_n 2, 1) := by decide +kernel
theorem dX11_laysGain_63 : decode cX11_laysGain 63 = .ok (.iload_n 3, 1) := by decide +kernel
theorem dX11_laysGain_64 : decode cX11_laysGain 64 = .ok (.invokevirtual 201, 3) := by decide +kernel
theorem dX11_laysGain_67 : decode cX11_laysGain 67 = .ok (.iload_n 2, 1) := by decide +kernel
theorem dX11_laysGain_68 : decode cX11_laysGain 68 = .ok (.iload 4, 2) := by decide +kernel
theorem dX11_laysGain_70 : decode cX11_laysGain 70 = .ok (.invokevirtual 204, 3) := by decide +kernel
theorem dX11_laysGain_73 : decode cX11_laysGain 73 = .ok (.isub, 1) := by decide +kernel
theorem dX11_laysGain_74 : decode cX11_laysGain 74 = .ok (.istore 6, 2) := by decide +kernel
theorem dX11_laysGain_76 : decode cX11_laysGain 76 = .ok (.iload 6, 2) := by decide +kernel
theorem dX11_laysGain_78 : decode cX11_laysGain 78 = .ok (.iload_n 1, 1) := by decide +kernel
theorem dX11_laysGain_79 : decode cX11_laysGain 79 = .ok (.if_icmp .le 44, 3) := by decide +kernel
theorem dX11_laysGain_82 : decode cX11_laysGain 82 = .ok (.aload_n 0, 1) := by decide +kernel
theorem dX11_laysGain_83 : decode cX11_laysGain 83 = .ok (.iload 5, 2) := by decide +kernel
theorem dX11_laysGain_85 : decode cX11_laysGain 85 = .ok (.iload_n 2, 1) := by decide +kernel
theorem dX11_laysGain_86 : decode cX11_laysGain 86 = .ok (.invokevirtual 242, 3) := by decide +kernel
theorem dX11_laysGain_89 : decode cX11_laysGain 89 = .ok (.ifCond .ne 34, 3) := by decide +kernel
theorem dX11_laysGain_92 : decode cX11_laysGain 92 = .ok (.aload_n 0, 1) := by decide +kernel
theorem dX11_laysGain_93 : decode cX11_laysGain 93 = .ok (.iload 5, 2) := by decide +kernel
theorem dX11_laysGain_95 : decode cX11_laysGain 95 = .ok (.iload_n 2, 1) := by decide +kernel
theorem dX11_laysGain_96 : decode cX11_laysGain 96 = .ok (.iload 4, 2) := by decide +kernel
theorem dX11_laysGain_98 : decode cX11_laysGain 98 = .ok (.invokevirtual 273, 3) := by decide +kernel
theorem dX11_laysGain_101 : decode cX11_laysGain 101 = .ok (.ifCond .eq 22, 3) := by decide +kernel
theorem dX11_laysGain_104 : decode cX11_laysGain 104 = .ok (.iload 6, 2) := by decide +kernel
theorem dX11_laysGain_106 : decode cX11_laysGain 106 = .ok (.istore_n 1, 1) := by decide +kernel
theorem dX11_laysGain_107 : decode cX11_laysGain 107 = .ok (.aload_n 0, 1) := by decide +kernel
theorem dX11_laysGain_108 : decode cX11_laysGain 108 = .ok (.aload_n 0, 1) := by decide +kernel
theorem dX11_laysGain_109 : decode cX11_laysGain 109 = .ok (.iload_n 2, 1) := by decide +kernel
theorem dX11_laysGain_110 : decode cX11_laysGain 110 = .ok (.iload_n 3, 1) := by decide +kernel
theorem dX11_laysGain_111 : decode cX11_laysGain 111 = .ok (.invokevirtual 195, 3) := by decide +kernel
theorem dX11_laysGain_114 : decode cX11_laysGain 114 = .ok (.putfield 305, 3) := by decide +kernel
theorem dX11_laysGain_117 : decode cX11_laysGain 117 = .ok (.aload_n 0, 1) := by decide +kernel
theorem dX11_laysGain_118 : decode cX11_laysGain 118 = .ok (.iload 5, 2) := by decide +kernel
theorem dX11_laysGain_120 : decode cX11_laysGain 120 = .ok (.putfield 308, 3) := by decide +kernel
theorem dX11_laysGain_123 : decode cX11_laysGain 123 = .ok (.iinc 5 1, 3) := by decide +kernel
theorem dX11_laysGain_126 : decode cX11_laysGain 126 = .ok (.goto (-86), 3) := by decide +kernel
theorem dX11_laysGain_129 : decode cX11_laysGain 129 = .ok (.iinc 3 1, 3) := by decide +kernel
theorem dX11_laysGain_132 : decode cX11_laysGain 132 = .ok (.goto (-116), 3) := by decide +kernel
theorem dX11_laysGain_135 : decode cX11_laysGain 135 = .ok (.iinc 2 1, 3) := by decide +kernel
theorem dX11_laysGain_138 : decode cX11_laysGain 138 = .ok (.goto (-134), 3) := by decide +kernel
theorem dX11_laysGain_141 : decode cX11_laysGain 141 = .ok (.iload_n 1, 1) := by decide +kernel
theorem dX11_laysGain_142 : decode cX11_laysGain 142 = .ok (.ifCond .le 7, 3) := by decide +kernel
theorem dX11_laysGain_145 : decode cX11_laysGain 145 = .ok (.iconst 1, 1) := by decide +kernel
theorem dX11_laysGain_146 : decode cX11_laysGain 146 = .ok (.goto 4, 3) := by decide +kernel
theorem dX11_laysGain_149 : decode cX11_laysGain 149 = .ok (.iconst 0, 1) := by decide +kernel
theorem dX11_laysGain_150 : decode cX11_laysGain 150 = .ok (.ireturn, 1) := by decide +kernel
def lX11_laysGain_0 : List (Nat × (Op ⊕ Nat)) := [(0, .inl (o_pushI (nI 0) 1)), (1, .inl (o_istore 1 2)), (2, .inl (o_pushI (nI 0) 3)), (3, .inl (o_istore 2 4)), (4, .inl (o_iload 2 5)), (5, .inl (o_aload 0 6)), (6, .inl (o_get 11 7 9)), (9, .inl (o_pushI (nI 1) 10)), (10, .inl (o_iald 11)), (11, .inl (o_icmp_ge 141 14)), (14, .inl (o_pushI (nI 0) 15)), (15, .inl (o_istore 3 16)), (16, .inl (o_iload 3 17)), (17, .inl (o_aload 0 18)), (18, .inl (o_get 11 7 21)), (21, .inl (o_pushI (nI 106) 23)), (23, .inl (o_iload 2 24)), (24, .inl (o_iadd 25)), (25, .inl (o_iald 26)), (26, .inl (o_icmp_ge 135 29)), (29, .inl (o_aload 0 30)), (30, .inl (o_iload 2 31)), (31, .inl (o_iload 3 32)), (32, .inl (o_callV fX11_throwsAt 2 11 35)), (35, .inl (o_istore 4 37)), (37, .inl (o_pushI (nI 0) 38)), (38, .inl (o_istore 5 40)), (40, .inl (o_iload 5 42)), (42, .inl (o_aload 0 43)), (43, .inl (o_get 11 7 46)), (46, .inl (o_pushI (nI 0) 47)), (47, .inl (o_iald 48)), (48, .inl (o_icmp_ge 129 51)), (51, .inl (o_aload 0 52)), (52, .inl (o_iload 5 54)), (54, .inl (o_iload 2 55)), (55, .inl (o_iload 4 57)), (57, .inl (o_callV fX11_worthOf 3 11 60)), (60, .inl (o_aload 0 61)), (61, .inl (o_aload 0 62))]
def lX11_laysGain_1 : List (Nat × (Op ⊕ Nat)) := [(62, .inl (o_iload 2 63)), (63, .inl (o_iload 3 64)), (64, .inl (o_callV fX11_who 2 11 67)), (67, .inl (o_iload 2 68)), (68, .inl (o_iload 4 70)), (70, .inl (o_callV fX11_worthOf 3 11 73)), (73, .inl (o_isub 74)), (74, .inl (o_istore 6 76)), (76, .inl (o_iload 6 78)), (78, .inl (o_iload 1 79)), (79, .inl (o_icmp_le 123 82)), (82, .inl (o_aload 0 83)), (83, .inl (o_iload 5 85)), (85, .inl (o_iload 2 86)), (86, .inl (o_callV fX11_isIn 2 11 89)), (89, .inl (o_if_ne 123 92)), (92, .inl (o_aload 0 93)), (93, .inl (o_iload 5 95)), (95, .inl (o_iload 2 96)), (96, .inl (o_iload 4 98)), (98, .inl (o_callV fX11_isAloneAllowed 3 11 101)), (101, .inl (o_if_eq 123 104)), (104, .inl (o_iload 6 106)), (106, .inl (o_istore 1 107)), (107, .inl (o_aload 0 108)), (108, .inl (o_aload 0 109)), (109, .inl (o_iload 2 110)), (110, .inl (o_iload 3 111)), (111, .inl (o_callV fX11_slot 2 11 114)), (114, .inl (o_putI 11 26 117)), (117, .inl (o_aload 0 118)), (118, .inl (o_iload 5 120)), (120, .inl (o_putI 11 27 123)), (123, .inl (o_iinc 5 (nI 1) 126)), (126, .inl (o_goto 40)), (129, .inl (o_iinc 3 (nI 1) 132)), (132, .inl (o_goto 16)), (135, .inl (o_iinc 2 (nI 1) 138)), (138, .inl (o_goto 4)), (141, .inl (o_iload 1 142))]
def lX11_laysGain_2 : List (Nat × (Op ⊕ Nat)) := [(142, .inl (o_if_le 149 145)), (145, .inl (o_pushI (nI 1) 146)), (146, .inl (o_goto 150)), (149, .inl (o_pushI (nI 0) 150)), (150, .inr 1)]
def lX11_laysGain : List (Nat × (Op ⊕ Nat)) := lX11_laysGain_0 ++ (lX11_laysGain_1 ++ (lX11_laysGain_2))
theorem qX11_laysGain : yX11_laysGain.cls = RX11 ∧ yX11_laysGain.cls ≠ "java/lang/invoke/MethodHandle" ∧ yX11_laysGain.cls ≠ "java/lang/invoke/VarHandle" ∧ (parseMethodDescriptor yX11_laysGain.desc).map (fun d => d.parameters.length) = some 0 := by decide +kernel
set_option maxRecDepth 10000 in
theorem hX11_laysGain_0 (l : Launch) {p : Program} {e : Env} {s : State} {m : MethodId} {args : Array Value} {below : List Frame} {meth : Method} {c : Code} {D : va_G} {ad adV : Nat → Nat} {cA : Nat → ClassId} {K : Kt} (C0 : Cx p s m args meth c D ad adV cA cX11_laysGain 7 RX11) (hr : meth.sig.returnType = (some .boolean)) : ∀ q ∈ lX11_laysGain_0, Sd p l e (rmd 4) s m args below meth c (MQ below (QQ D ad cA K) args s 0 0 (AA ad)) D ad cA 7 q.1 (opOf K q.2) := List.forall_mem_cons.mpr ⟨s_iconst C0 dX11_laysGain_0 rfl, List.forall_mem_cons.mpr ⟨s_istore_n C0 dX11_laysGain_1 rfl (by decide), List.forall_mem_cons.mpr ⟨s_iconst C0 dX11_laysGain_2 rfl, List.forall_mem_cons.mpr ⟨s_istore_n C0 dX11_laysGain_3 rfl (by decide), List.forall_mem_cons.mpr ⟨s_iload_n C0 dX11_laysGain_4 rfl, List.forall_mem_cons.mpr ⟨s_aload_n C0 dX11_laysGain_5 rfl, List.forall_mem_cons.mpr ⟨s_get (ci := 11) (k := 7) C0 dX11_laysGain_6 inX11 rfl (by decide) tw6_18, List.forall_mem_cons.mpr ⟨s_iconst C0 dX11_laysGain_9 rfl, List.forall_mem_cons.mpr ⟨s_iald C0 dX11_laysGain_10, List.forall_mem_cons.mpr ⟨s_icmp_ge C0 dX11_laysGain_11 rfl, List.forall_mem_cons.mpr ⟨s_iconst C0 dX11_laysGain_14 rfl, List.forall_mem_cons.mpr ⟨s_istore_n C0 dX11_laysGain_15 rfl (by decide), List.forall_mem_cons.mpr ⟨s_iload_n C0 dX11_laysGain_16 rfl, List.forall_mem_cons.mpr ⟨s_aload_n C0 dX11_laysGain_17 rfl, List.forall_mem_cons.mpr ⟨s_get (ci := 11) (k := 7) C0 dX11_laysGain_18 inX11 rfl (by decide) tw6_18, List.forall_mem_cons.mpr ⟨s_bipush C0 dX11_laysGain_21 (by decide +kernel), List.forall_mem_cons.mpr ⟨s_iload_n C0 dX11_laysGain_23 rfl, List.forall_mem_cons.mpr ⟨s_iadd C0 dX11_laysGain_24, List.forall_mem_cons.mpr ⟨s_iald C0 dX11_laysGain_25, List.forall_mem_cons.mpr ⟨s_icmp_ge C0 dX11_laysGain_26 rfl, List.forall_mem_cons.mpr ⟨s_aload_n C0 dX11_laysGain_29 rfl, List.forall_mem_cons.mpr ⟨s_iload_n C0 dX11_laysGain_30 rfl, List.forall_mem_cons.mpr ⟨s_iload_n C0 dX11_laysGain_31 rfl, List.forall_mem_cons.mpr ⟨s_callV (ci := 11) C0 (kX11_throwsAt l) dX11_laysGain_32 rfl qX11_throwsAt tw6_222 tw6_224 twp_59 tw1_12 tw6_225 rfl (by decide) (by decide), List.forall_mem_cons.mpr ⟨s_istore C0 dX11_laysGain_35 (by decide), List.forall_mem_cons.mpr ⟨s_iconst C0 dX11_laysGain_37 rfl, List.forall_mem_cons.mpr ⟨s_istore C0 dX11_laysGain_38 (by decide), List.forall_mem_cons.mpr ⟨s_iload C0 dX11_laysGain_40, List.forall_mem_cons.mpr ⟨s_aload_n C0 dX11_laysGain_42 rfl, List.forall_mem_cons.mpr ⟨s_get (ci := 11) (k := 7) C0 dX11_laysGain_43 inX11 rfl (by decide) tw6_18, List.forall_mem_cons.mpr ⟨s_iconst C0 dX11_laysGain_46 rfl, List.forall_mem_cons.mpr ⟨s_iald C0 dX11_laysGain_47, List.forall_mem_cons.mpr ⟨s_icmp_ge C0 dX11_laysGain_48 rfl, List.forall_mem_cons.mpr ⟨s_aload_n C0 dX11_laysGain_51 rfl, List.forall_mem_cons.mpr ⟨s_iload C0 dX11_laysGain_52, List.forall_mem_cons.mpr ⟨s_iload_n C0 dX11_laysGain_54 rfl, List.forall_mem_cons.mpr ⟨s_iload C0 dX11_laysGain_55, List.forall_mem_cons.mpr ⟨s_callV (ci := 11) C0 (kX11_worthOf l) dX11_laysGain_57 rfl qX11_worthOf tw6_234 tw6_236 twp_62 tw1_12 tw6_237 rfl (by decide) (by decide), List.forall_mem_cons.mpr ⟨s_aload_n C0 dX11_laysGain_60 rfl, List.forall_mem_cons.mpr ⟨s_aload_n C0 dX11_laysGain_61 rfl, fun _ h => absurd h List.not_mem_nil⟩⟩⟩⟩⟩⟩⟩⟩⟩⟩⟩⟩⟩⟩⟩⟩⟩⟩⟩⟩⟩⟩⟩⟩⟩⟩⟩⟩⟩⟩⟩⟩⟩⟩⟩⟩⟩⟩⟩⟩
set_option maxRecDepth 10000 in
theorem hX11_laysGain_1 (l : Launch) {p : Program} {e : Env} {s : State} {m : MethodId} {args : Array Value} {below : List Frame} {meth : Method} {c : Code} {D : va_G} {ad adV : Nat → Nat} {cA : Nat → ClassId} {K : Kt} (C0 : Cx p s m args meth c D ad adV cA cX11_laysGain 7 RX11) (hr : meth.sig.returnType = (some .boolean)) : ∀ q ∈ lX11_laysGain_1, Sd p l e (rmd 4) s m args below meth c (MQ below (QQ D ad cA K) args s 0 0 (AA ad)) D ad cA 7 q.1 (opOf K q.2) := List.forall_mem_cons.mpr ⟨s_iload_n C0 dX11_laysGain_62 rfl, List.forall_mem_cons.mpr ⟨s_iload_n C0 dX11_laysGain_63 rfl, List.forall_mem_cons.mpr ⟨s_callV (ci := 11) C0 (kX11_who l) dX11_laysGain_64 rfl qX11_who tw6_230 tw6_232 twp_61 tw1_12 tw6_233 rfl (by decide) (by decide), List.forall_mem_cons.mpr ⟨s_iload_n C0 dX11_laysGain_67 rfl, List.forall_mem_cons.mpr ⟨s_iload C0 dX11_laysGain_68, List.forall_mem_cons.mpr ⟨s_callV (ci := 11) C0 (kX11_worthOf l) dX11_laysGain_70 rfl qX11_worthOf tw6_234 tw6_236 twp_62 tw1_12 tw6_237 rfl (by decide) (by decide), List.forall_mem_cons.mpr ⟨s_isub C0 dX11_laysGain_73, List.forall_mem_cons.mpr ⟨s_istore C0 dX11_laysGain_74 (by decide), List.forall_mem_cons.mpr ⟨s_iload C0 dX11_laysGain_76, List.forall_mem_cons.mpr ⟨s_iload_n C0 dX11_laysGain_78 rfl, List.forall_mem_cons.mpr ⟨s_icmp_le C0 dX11_laysGain_79 rfl, List.forall_mem_cons.mpr ⟨s_aload_n C0 dX11_laysGain_82 rfl, List.forall_mem_cons.mpr ⟨s_iload C0 dX11_laysGain_83, List.forall_mem_cons.mpr ⟨s_iload_n C0 dX11_laysGain_85 rfl, List.forall_mem_cons.mpr ⟨s_callV (ci := 11) C0 (kX11_isIn l) dX11_laysGain_86 rfl qX11_isIn tw7_74 tw7_76 twp_75 tw1_12 tw7_77 rfl (by decide) (by decide), List.forall_mem_cons.mpr ⟨s_if_ne C0 dX11_laysGain_89 rfl, List.forall_mem_cons.mpr ⟨s_aload_n C0 dX11_laysGain_92 rfl, List.forall_mem_cons.mpr ⟨s_iload C0 dX11_laysGain_93, List.forall_mem_cons.mpr ⟨s_iload_n C0 dX11_laysGain_95 rfl, List.forall_mem_cons.mpr ⟨s_iload C0 dX11_laysGain_96, List.forall_mem_cons.mpr ⟨s_callV (ci := 11) C0 (kX11_isAloneAllowed l) dX11_laysGain_98 rfl qX11_isAloneAllowed tw7_137 tw7_139 twp_83 tw1_12 tw7_140 rfl (by decide) (by decide), List.forall_mem_cons.mpr ⟨s_if_eq C0 dX11_laysGain_101 rfl, List.forall_mem_cons.mpr ⟨s_iload C0 dX11_laysGain_104, List.forall_mem_cons.mpr ⟨s_istore_n C0 dX11_laysGain_106 rfl (by decide), List.forall_mem_cons.mpr ⟨s_aload_n C0 dX11_laysGain_107 rfl, List.forall_mem_cons.mpr ⟨s_aload_n C0 dX11_laysGain_108 rfl, List.forall_mem_cons.mpr ⟨s_iload_n C0 dX11_laysGain_109 rfl, List.forall_mem_cons.mpr ⟨s_iload_n C0 dX11_laysGain_110 rfl, List.forall_mem_cons.mpr ⟨s_callV (ci := 11) C0 (kX11_slot l) dX11_laysGain_111 rfl qX11_slot tw6_226 tw6_228 twp_60 tw1_12 tw6_229 rfl (by decide) (by decide), List.forall_mem_cons.mpr ⟨s_putI (ci := 11) (k := 26) C0 dX11_laysGain_114 inX11 tyX11_ok nmX11 rfl (by decide) rfl rfl tw6_37, List.forall_mem_cons.mpr ⟨s_aload_n C0 dX11_laysGain_117 rfl, List.forall_mem_cons.mpr ⟨s_iload C0 dX11_laysGain_118, List.forall_mem_cons.mpr ⟨s_putI (ci := 11) (k := 27) C0 dX11_laysGain_120 inX11 tyX11_ok nmX11 rfl (by decide) rfl rfl tw6_38, List.forall_mem_cons.mpr ⟨s_iinc C0 dX11_laysGain_123 rfl (by decide), List.forall_mem_cons.mpr ⟨s_goto C0 dX11_laysGain_126 rfl, List.forall_mem_cons.mpr ⟨s_iinc C0 dX11_laysGain_129 rfl (by decide), List.forall_mem_cons.mpr ⟨s_goto C0 dX11_laysGain_132 rfl, List.forall_mem_cons.mpr ⟨s_iinc C0 dX11_laysGain_135 rfl (by decide), List.forall_mem_cons.mpr ⟨s_goto C0 dX11_laysGain_138 rfl, List.forall_mem_cons.mpr ⟨s_iload_n C0 dX11_laysGain_141 rfl, fun _ h => absurd h List.not_mem_nil⟩⟩⟩⟩⟩⟩⟩⟩⟩⟩⟩⟩⟩⟩⟩⟩⟩⟩⟩⟩⟩⟩⟩⟩⟩⟩⟩⟩⟩⟩⟩⟩⟩⟩⟩⟩⟩⟩⟩⟩
set_option maxRecDepth 10000 in
theorem hX11_laysGain_2 (l : Launch) {p : Program} {e : Env} {s : State} {m : MethodId} {args : Array Value} {below : List Frame} {meth : Method} {c : Code} {D : va_G} {ad adV : Nat → Nat} {cA : Nat → ClassId} {K : Kt} (C0 : Cx p s m args meth c D ad adV cA cX11_laysGain 7 RX11) (hr : meth.sig.returnType = (some .boolean)) : ∀ q ∈ lX11_laysGain_2, Sd p l e (rmd 4) s m args below meth c (MQ below (QQ D ad cA K) args s 0 0 (AA ad)) D ad cA 7 q.1 (opOf K q.2) := List.forall_mem_cons.mpr ⟨s_if_le C0 dX11_laysGain_142 rfl, List.forall_mem_cons.mpr ⟨s_iconst C0 dX11_laysGain_145 rfl, List.forall_mem_cons.mpr ⟨s_goto C0 dX11_laysGain_146 rfl, List.forall_mem_cons.mpr ⟨s_iconst C0 dX11_laysGain_149 rfl, List.forall_mem_cons.mpr ⟨s_zret C0 hr dX11_laysGain_150, fun _ h => absurd h List.not_mem_nil⟩⟩⟩⟩⟩
def fX11_laysGain : Mf := mf 7 (fun K => tl K lX11_laysGain)
theorem kX11_laysGain (l : Launch) : Okm l yX11_laysGain cX11_laysGain 7 (some .boolean) 4 fX11_laysGain := Okm_tl (own := RX11) (by decide +kernel) rfl (fun C0 hr => List.forall_mem_append.mpr ⟨hX11_laysGain_0 l C0 hr, List.forall_mem_append.mpr ⟨hX11_laysGain_1 l C0 hr, hX11_laysGain_2 l C0 hr⟩⟩)
theorem dX11_better_0 : decode cX11_better 0 = .ok (.aload_n 0, 1) := by decide +kernel
theorem dX11_better_1 : decode cX11_better 1 = .ok (.aload_n 0, 1) := by decide +kernel
theorem dX11_better_2 : decode cX11_better 2 = .ok (.getfield 171, 3) := by decide +kernel
theorem dX11_better_5 : decode cX11_better 5 = .ok (.invokestatic 182, 3) := by decide +kernel
theorem dX11_better_8 : decode cX11_better 8 = .ok (.invokevirtual 159, 3) := by decide +kernel
theorem dX11_better_11 : decode cX11_better 11 = .ok (.ifCond .eq 5, 3) := by decide +kernel
theorem dX11_better_14 : decode cX11_better 14 = .ok (.iconst (-1), 1) := by decide +kernel
theorem dX11_better_15 : decode cX11_better 15 = .ok (.ireturn, 1) := by decide +kernel
theorem dX11_better_16 : decode cX11_better 16 = .ok (.aload_n 0, 1) := by decide +kernel
theorem dX11_better_17 : decode cX11_better 17 = .ok (.invokevirtual 295, 3) := by decide +kernel
theorem dX11_better_20 : decode cX11_better 20 = .ok (.iconst 0, 1) := by decide +kernel
theorem dX11_better_21 : decode cX11_better 21 = .ok (.istore_n 1, 1) := by decide +kernel
theorem dX11_better_22 : decode cX11_better 22 = .ok (.iload_n 1, 1) := by decide +kernel
theorem dX11_better_23 : decode cX11_better 23 = .ok (.bipush 99, 2) := by decide +kernel
theorem dX11_better_25 : decode cX11_better 25 = .ok (.if_icmp .ge 32, 3) := by decide +kernel
theorem dX11_better_28 : decode cX11_better 28 = .ok (.aload_n 0, 1) := by decide +kernel
theorem dX11_better_29 : decode cX11_better 29 = .ok (.invokevirtual 311, 3) := by decide +kernel
theorem dX11_better_32 : decode cX11_better 32 = .ok (.ifCond .eq 25, 3) := by decide +kernel
theorem dX11_better_35 : decode cX11_better 35 = .ok (.aload_n 0, 1) := by decide +kernel
theorem dX11_better_36 : decode cX11_better 36 = .ok (.getfield 17, 3) := by decide +kernel
theorem dX11_better_39 : decode cX11_better 39 = .ok (.bipush 126, 2) := by decide +kernel
theorem dX11_better_41 : decode cX11_better 41 = .ok (.aload_n 0, 1) := by decide +kernel
theorem dX11_better_42 : decode cX11_better 42 = .ok (.getfield 305, 3) := by decide +kernel
theorem dX11_better_45 : decode cX11_better 45 = .ok (.iadd, 1) := by decide +kernel
theorem dX11_better_46 : decode cX11_better 46 = .ok (.aload_n 0, 1) := by decide +kernel
theorem dX11_better_47 : decode cX11_better 47 = .ok (.getfield 308, 3) := by decide +kernel
theorem dX11_better_50 : decode cX11_better 50 = .ok (.iastore, 1) := by decide +kernel
theorem dX11_better_51 : decode cX11_better 51 = .ok (.iinc 1 1, 3) := by decide +kernel
theorem dX11_better_54 : decode cX11_better 54 = .ok (.goto (-32), 3) := by decide +kernel
theorem dX11_better_57 : decode cX11_better 57 = .ok (.iload_n 1, 1) := by decide +kernel
theorem dX11_better_58 : decode cX11_better 58 = .ok (.ireturn, 1) := by decide +kernel
def lX11_better : List (Nat × (Op ⊕ Nat)) := [(0, .inl (o_aload 0 1)), (1, .inl (o_aload 0 2)), (2, .inl (o_get 11 6 5)), (5, .inl (o_callS fX11_unless 1 8)), (8, .inl (o_callV fX11_isRefused 1 11 11)), (11, .inl (o_if_eq 16 14)), (14, .inl (o_pushI ((-1)) 15)), (15, .inr 0), (16, .inl (o_aload 0 17)), (17, .inl (o_callV fX11_remembers 0 11 20)), (20, .inl (o_pushI (nI 0) 21)), (21, .inl (o_istore 1 22)), (22, .inl (o_iload 1 23)), (23, .inl (o_pushI (nI 99) 25)), (25, .inl (o_icmp_ge 57 28)), (28, .inl (o_aload 0 29)), (29, .inl (o_callV fX11_laysGain 0 11 32)), (32, .inl (o_if_eq 57 35)), (35, .inl (o_aload 0 36)), (36, .inl (o_get 11 7 39)), (39, .inl (o_pushI (nI 126) 41)), (41, .inl (o_aload 0 42)), (42, .inl (o_get 11 26 45)), (45, .inl (o_iadd 46)), (46, .inl (o_aload 0 47)), (47, .inl (o_get 11 27 50)), (50, .inl (o_iast 51)), (51, .inl (o_iinc 1 (nI 1) 54)), (54, .inl (o_goto 22)), (57, .inl (o_iload 1 58)), (58, .inr 0)]
theorem qX11_better : yX11_better.cls = RX11 ∧ yX11_better.cls ≠ "java/lang/invoke/MethodHandle" ∧ yX11_better.cls ≠ "java/lang/invoke/VarHandle" ∧ (parseMethodDescriptor yX11_better.desc).map (fun d => d.parameters.length) = some 0 := by decide +kernel
set_option maxRecDepth 10000 in
theorem hX11_better_0 (l : Launch) {p : Program} {e : Env} {s : State} {m : MethodId} {args : Array Value} {below : List Frame} {meth : Method} {c : Code} {D : va_G} {ad adV : Nat → Nat} {cA : Nat → ClassId} {K : Kt} (C0 : Cx p s m args meth c D ad adV cA cX11_better 2 RX11) (hr : meth.sig.returnType = (some .int)) : ∀ q ∈ lX11_better, Sd p l e (rmd 5) s m args below meth c (MQ below (QQ D ad cA K) args s 0 0 (AA ad)) D ad cA 2 q.1 (opOf K q.2) := List.forall_mem_cons.mpr ⟨s_aload_n C0 dX11_better_0 rfl, List.forall_mem_cons.mpr ⟨s_aload_n C0 dX11_better_1 rfl, List.forall_mem_cons.mpr ⟨s_get (ci := 11) (k := 6) C0 dX11_better_2 inX11 rfl (by decide) tw6_17, List.forall_mem_cons.mpr ⟨s_callS C0 (kX11_unless l) dX11_better_5 qX11_unless tw6_203 tw6_204 tw1_12 tw6_205 rfl (by decide) (by decide), List.forall_mem_cons.mpr ⟨s_callV (ci := 11) C0 (kX11_isRefused l) dX11_better_8 rfl qX11_isRefused tw6_118 tw6_120 twp_41 tw1_12 tw6_121 rfl (by decide) (by decide), List.forall_mem_cons.mpr ⟨s_if_eq C0 dX11_better_11 rfl, List.forall_mem_cons.mpr ⟨s_iconst C0 dX11_better_14 rfl, List.forall_mem_cons.mpr ⟨s_iret C0 hr dX11_better_15, List.forall_mem_cons.mpr ⟨s_aload_n C0 dX11_better_16 rfl, List.forall_mem_cons.mpr ⟨s_callV (ci := 11) C0 (kX11_remembers l) dX11_better_17 rfl qX11_remembers tw7_209 tw7_211 twp_86 tw1_12 tw7_212 rfl (by decide) (by decide), List.forall_mem_cons.mpr ⟨s_iconst C0 dX11_better_20 rfl, List.forall_mem_cons.mpr ⟨s_istore_n C0 dX11_better_21 rfl (by decide), List.forall_mem_cons.mpr ⟨s_iload_n C0 dX11_better_22 rfl, List.forall_mem_cons.mpr ⟨s_bipush C0 dX11_better_23 (by decide +kernel), List.forall_mem_cons.mpr ⟨s_icmp_ge C0 dX11_better_25 rfl, List.forall_mem_cons.mpr ⟨s_aload_n C0 dX11_better_28 rfl, List.forall_mem_cons.mpr ⟨s_callV (ci := 11) C0 (kX11_laysGain l) dX11_better_29 rfl qX11_laysGain tw7_237 tw7_239 twp_89 tw1_12 tw8_0 rfl (by decide) (by decide), List.forall_mem_cons.mpr ⟨s_if_eq C0 dX11_better_32 rfl, List.forall_mem_cons.mpr ⟨s_aload_n C0 dX11_better_35 rfl, List.forall_mem_cons.mpr ⟨s_get (ci := 11) (k := 7) C0 dX11_better_36 inX11 rfl (by decide) tw6_18, List.forall_mem_cons.mpr ⟨s_bipush C0 dX11_better_39 (by decide +kernel), List.forall_mem_cons.mpr ⟨s_aload_n C0 dX11_better_41 rfl, List.forall_mem_cons.mpr ⟨s_get (ci := 11) (k := 26) C0 dX11_better_42 inX11 rfl (by decide) tw6_37, List.forall_mem_cons.mpr ⟨s_iadd C0 dX11_better_45, List.forall_mem_cons.mpr ⟨s_aload_n C0 dX11_better_46 rfl, List.forall_mem_cons.mpr ⟨s_get (ci := 11) (k := 27) C0 dX11_better_47 inX11 rfl (by decide) tw6_38, List.forall_mem_cons.mpr ⟨s_iast C0 dX11_better_50, List.forall_mem_cons.mpr ⟨s_iinc C0 dX11_better_51 rfl (by decide), List.forall_mem_cons.mpr ⟨s_goto C0 dX11_better_54 rfl, List.forall_mem_cons.mpr ⟨s_iload_n C0 dX11_better_57 rfl, List.forall_mem_cons.mpr ⟨s_iret C0 hr dX11_better_58, fun _ h => absurd h List.not_mem_nil⟩⟩⟩⟩⟩⟩⟩⟩⟩⟩⟩⟩⟩⟩⟩⟩⟩⟩⟩⟩⟩⟩⟩⟩⟩⟩⟩⟩⟩⟩⟩
def fX11_better : Mf := mf 2 (fun K => tl K lX11_better)
theorem kX11_better (l : Launch) : Okm l yX11_better cX11_better 2 (some .int) 5 fX11_better := Okm_tl (own := RX11) (by decide +kernel) rfl (fun C0 hr => hX11_better_0 l C0 hr)
theorem dX11_fills_0 : decode cX11_fills 0 = .ok (.iconst 0, 1) := by decide +kernel
theorem dX11_fills_1 : decode cX11_fills 1 = .ok (.istore_n 2, 1) := by decide +kernel
theorem dX11_fills_2 : decode cX11_fills 2 = .ok (.iconst 0, 1) := by decide +kernel
theorem dX11_fills_3 : decode cX11_fills 3 = .ok (.istore_n 3, 1) := by decide +kernel
theorem dX11_fills_4 : decode cX11_fills 4 = .ok (.iload_n 3, 1) := by decide +kernel
theorem dX11_fills_5 : decode cX11_fills 5 = .ok (.iconst (-1), 1) := by decide +kernel
theorem dX11_fills_6 : decode cX11_fills 6 = .ok (.if_icmp .eq 101, 3) := by decide +kernel
theorem dX11_fills_9 : decode cX11_fills 9 = .ok (.iconst (-1), 1) := by decide +kernel
theorem dX11_fills_10 : decode cX11_fills 10 = .ok (.istore_n 3, 1) := by decide +kernel
theorem dX11_fills_11 : decode cX11_fills 11 = .ok (.iconst 0, 1) := by decide +kernel
theorem dX11_fills_12 : decode cX11_fills 12 = .ok (.istore 4, 2) := by decide +kernel
theorem dX11_fills_14 : decode cX11_fills 14 = .ok (.iconst 0, 1) := by decide +kernel
theorem dX11_fills_15 : decode cX11_fills 15 = .ok (.istore 5, 2) := by decide +kernel
theorem dX11_fills_17 : decode cX11_fills 17 = .ok (.iconst 0, 1) := by decide +kernel
theorem dX11_fills_18 : decode cX11_fills 18 = .ok (.istore 6, 2) := by decide +kernel
theorem dX11_fills_20 : decode cX11_fills 20 = .ok (.iload 6, 2) := by decide +kernel
theorem dX11_fills_22 : decode cX11_fills 22 = .ok (.aload_n 0, 1) := by decide +kernel
theorem dX11_fills_23 : decode cX11_fills 23 = .ok (.getfield 17, 3) := by decide +kernel
theorem dX11_fills_26 : decode cX11_fills 26 = .ok (.iconst 0, 1) := by decide +kernel
theorem dX11_fills_27 : decode cX11_fills 27 = .ok (.iaload, 1) := by decide +kernel
theorem dX11_fills_28 : decode cX11_fills 28 = .ok (.if_icmp .ge 60, 3) := by decide +kernel
theorem dX11_fills_31 : decode cX11_fills 31 = .ok (.aload_n 0, 1) := by decide +kernel
theorem dX11_fills_32 : decode cX11_fills 32 = .ok (.iload 6, 2) := by decide +kernel
theorem dX11_fills_34 : decode cX11_fills 34 = .ok (.iload_n 1, 1) := by decide +kernel
theorem dX11_fills_35 : decode cX11_fills 35 = .ok (.invokevirtual 252, 3) := by decide +kernel
theorem dX11_fills_38 : decode cX11_fills 38 = .ok (.istore 7, 2) := by decide +kernel
theorem dX11_fills_40 : decode cX11_fills 40 = .ok (.iload 7, 2) := by decide +kernel
theorem dX11_fills_42 : decode cX11_fills 42 = .ok (.ifCond .le 40, 3) := by decide +kernel
theorem dX11_fills_45 : decode cX11_fills 45 = .ok (.iload_n 3, 1) := by decide +kernel
theorem dX11_fills_46 : decode cX11_fills 46 = .ok (.iconst (-1), 1) := by decide +kernel
theorem dX11_fills_47 : decode cX11_fills 47 = .ok (.if_icmp .eq 17, 3) := by decide +kernel
theorem dX11_fills_50 : decode cX11_fills 50 = .ok (.aload_n 0, 1) := by decide +kernel
theorem dX11_fills_51 : decode cX11_fills 51 = .ok (.iload 6, 2) := by decide +kernel
theorem dX11_fills_53 : decode cX11_fills 53 = .ok (.iload_n 1, 1) := by decide +kernel
theorem dX11_fills_54 : decode cX11_fills 54 = .ok (.iload 7, 2) := by decide +kernel
theorem dX11_fills_56 : decode cX11_fills 56 = .ok (.invokevirtual 204, 3) := by decide +kernel
theorem dX11_fills_59 : decode cX11_fills 59 = .ok (.iload 5, 2) := by decide +kernel
theorem dX11_fills_61 : decode cX11_fills 61 = .ok (.if_icmp .le 21, 3) := by decide +kernel
theorem dX11_fills_64 : decode cX11_fills 64 = .ok (.iload 6, 2) := by decide +kernel
theorem dX11_fills_66 : decode cX11_fills 66 = .ok (.istore_n 3, 1) := by decide +kernel
theorem dX11_fills_67 : decode cX11_fills 67 = .ok (.iload 7, 2) := by decide +kernel
theorem dX11_fills_69 : decode cX11_fills 69 = .ok (.istore 4, 2) := by decide +kernel
theorem dX11_fills_71 : decode cX11_fills 71 = .ok (.aload_n 0, 1) := by decide +kernel
theorem dX11_fills_72 : decode cX11_fills 72 = .ok (.iload 6, 2) := by decide +kernel
theorem dX11_fills_74 : decode cX11_fills 74 = .ok (.iload_n 1, 1) := by decide +kernel
theorem dX11_fills_75 : decode cX11_fills 75 = .ok (.iload 7, 2) := by decide +kernel
theorem dX11_fills_77 : decode cX11_fills 77 = .ok (.invokevirtual 204, 3) := by decide +kernel
theorem dX11_fills_80 : decode cX11_fills 80 = .ok (.istore 5, 2) := by decide +kernel
theorem dX11_fills_82 : decode cX11_fills 82 = .ok (.iinc 6 1, 3) := by decide +kernel
theorem dX11_fills_85 : decode cX11_fills 85 = .ok (.goto (-65), 3) := by decide +kernel
theorem dX11_fills_88 : decode cX11_fills 88 = .ok (.iload_n 3, 1) := by decide +kernel
theorem dX11_fills_89 : decode cX11_fills 89 = .ok (.iconst (-1), 1) := by decide +kernel
theorem dX11_fills_90 : decode cX11_fills 90 = .ok (.if_icmp .eq 14, 3) := by decide +kernel
theorem dX11_fills_93 : decode cX11_fills 93 = .ok (.aload_n 0, 1) := by decide +kernel
theorem dX11_fills_94 : decode cX11_fills 94 = .ok (.iload_n 1, 1) := by decide +kernel
theorem dX11_fills_95 : decode cX11_fills 95 = .ok (.iload_n 3, 1) := by decide +kernel
theorem dX11_fills_96 : decode cX11_fills 96 = .ok (.iload 4, 2) := by decide +kernel
theorem dX11_fills_98 : decode cX11_fills 98 = .ok (.invokevirtual 298, 3) := by decide +kernel
theorem dX11_fills_101 : decode cX11_fills 101 = .ok (.iinc 2 1, 3) := by decide +kernel
theorem dX11_fills_104 : decode cX11_fills 104 = .ok (.goto (-100), 3) := by decide +kernel
theorem dX11_fills_107 : decode cX11_fills 107 = .ok (.iload_n 2, 1) := by decide +kernel
theorem dX11_fills_108 : decode cX11_fills 108 = .ok (.ireturn, 1) := by decide +kernel
def lX11_fills_0 : List (Nat × (Op ⊕ Nat)) := [(0, .inl (o_pushI (nI 0) 1)), (1, .inl (o_istore 2 2)), (2, .inl (o_pushI (nI 0) 3)), (3, .inl (o_istore 3 4)), (4, .inl (o_iload 3 5)), (5, .inl (o_pushI ((-1)) 6)), (6, .inl (o_icmp_eq 107 9)), (9, .inl (o_pushI ((-1)) 10)), (10, .inl (o_istore 3 11)), (11, .inl (o_pushI (nI 0) 12)), (12, .inl (o_istore 4 14)), (14, .inl (o_pushI (nI 0) 15)), (15, .inl (o_istore 5 17)), (17, .inl (o_pushI (nI 0) 18)), (18, .inl (o_istore 6 20)), (20, .inl (o_iload 6 22)), (22, .inl (o_aload 0 23)), (23, .inl (o_get 11 7 26)), (26, .inl (o_pushI (nI 0) 27)), (27, .inl (o_iald 28)), (28, .inl (o_icmp_ge 88 31)), (31, .inl (o_aload 0 32)), (32, .inl (o_iload 6 34)), (34, .inl (o_iload 1 35)), (35, .inl (o_callV fX11_mostOf 2 11 38)), (38, .inl (o_istore 7 40)), (40, .inl (o_iload 7 42)), (42, .inl (o_if_le 82 45)), (45, .inl (o_iload 3 46)), (46, .inl (o_pushI ((-1)) 47)), (47, .inl (o_icmp_eq 64 50)), (50, .inl (o_aload 0 51)), (51, .inl (o_iload 6 53)), (53, .inl (o_iload 1 54)), (54, .inl (o_iload 7 56)), (56, .inl (o_callV fX11_worthOf 3 11 59)), (59, .inl (o_iload 5 61)), (61, .inl (o_icmp_le 82 64)), (64, .inl (o_iload 6 66)), (66, .inl (o_istore 3 67))]
def lX11_fills_1 : List (Nat × (Op ⊕ Nat)) := [(67, .inl (o_iload 7 69)), (69, .inl (o_istore 4 71)), (71, .inl (o_aload 0 72)), (72, .inl (o_iload 6 74)), (74, .inl (o_iload 1 75)), (75, .inl (o_iload 7 77)), (77, .inl (o_callV fX11_worthOf 3 11 80)), (80, .inl (o_istore 5 82)), (82, .inl (o_iinc 6 (nI 1) 85)), (85, .inl (o_goto 20)), (88, .inl (o_iload 3 89)), (89, .inl (o_pushI ((-1)) 90)), (90, .inl (o_icmp_eq 104 93)), (93, .inl (o_aload 0 94)), (94, .inl (o_iload 1 95)), (95, .inl (o_iload 3 96)), (96, .inl (o_iload 4 98)), (98, .inl (o_callV fX11_comes 3 11 101)), (101, .inl (o_iinc 2 (nI 1) 104)), (104, .inl (o_goto 4)), (107, .inl (o_iload 2 108)), (108, .inr 0)]
def lX11_fills : List (Nat × (Op ⊕ Nat)) := lX11_fills_0 ++ (lX11_fills_1)
theorem qX11_fills : yX11_fills.cls = RX11 ∧ yX11_fills.cls ≠ "java/lang/invoke/MethodHandle" ∧ yX11_fills.cls ≠ "java/lang/invoke/VarHandle" ∧ (parseMethodDescriptor yX11_fills.desc).map (fun d => d.parameters.length) = some 1 := by decide +kernel
set_option maxRecDepth 10000 in
theorem hX11_fills_0 (l : Launch) {p : Program} {e : Env} {s : State} {m : MethodId} {args : Array Value} {below : List Frame} {meth : Method} {c : Code} {D : va_G} {ad adV : Nat → Nat} {cA : Nat → ClassId} {K : Kt} (C0 : Cx p s m args meth c D ad adV cA cX11_fills 8 RX11) (hr : meth.sig.returnType = (some .int)) : ∀ q ∈ lX11_fills_0, Sd p l e (rmd 5) s m args below meth c (MQ below (QQ D ad cA K) args s 0 0 (AA ad)) D ad cA 8 q.1 (opOf K q.2) := List.forall_mem_cons.mpr ⟨s_iconst C0 dX11_fills_0 rfl, List.forall_mem_cons.mpr ⟨s_istore_n C0 dX11_fills_1 rfl (by decide), List.forall_mem_cons.mpr ⟨s_iconst C0 dX11_fills_2 rfl, List.forall_mem_cons.mpr ⟨s_istore_n C0 dX11_fills_3 rfl (by decide), List.forall_mem_cons.mpr ⟨s_iload_n C0 dX11_fills_4 rfl, List.forall_mem_cons.mpr ⟨s_iconst C0 dX11_fills_5 rfl, List.forall_mem_cons.mpr ⟨s_icmp_eq C0 dX11_fills_6 rfl, List.forall_mem_cons.mpr ⟨s_iconst C0 dX11_fills_9 rfl, List.forall_mem_cons.mpr ⟨s_istore_n C0 dX11_fills_10 rfl (by decide), List.forall_mem_cons.mpr ⟨s_iconst C0 dX11_fills_11 rfl, List.forall_mem_cons.mpr ⟨s_istore C0 dX11_fills_12 (by decide), List.forall_mem_cons.mpr ⟨s_iconst C0 dX11_fills_14 rfl, List.forall_mem_cons.mpr ⟨s_istore C0 dX11_fills_15 (by decide), List.forall_mem_cons.mpr ⟨s_iconst C0 dX11_fills_17 rfl, List.forall_mem_cons.mpr ⟨s_istore C0 dX11_fills_18 (by decide), List.forall_mem_cons.mpr ⟨s_iload C0 dX11_fills_20, List.forall_mem_cons.mpr ⟨s_aload_n C0 dX11_fills_22 rfl, List.forall_mem_cons.mpr ⟨s_get (ci := 11) (k := 7) C0 dX11_fills_23 inX11 rfl (by decide) tw6_18, List.forall_mem_cons.mpr ⟨s_iconst C0 dX11_fills_26 rfl, List.forall_mem_cons.mpr ⟨s_iald C0 dX11_fills_27, List.forall_mem_cons.mpr ⟨s_icmp_ge C0 dX11_fills_28 rfl, List.forall_mem_cons.mpr ⟨s_aload_n C0 dX11_fills_31 rfl, List.forall_mem_cons.mpr ⟨s_iload C0 dX11_fills_32, List.forall_mem_cons.mpr ⟨s_iload_n C0 dX11_fills_34 rfl, List.forall_mem_cons.mpr ⟨s_callV (ci := 11) C0 (kX11_mostOf l) dX11_fills_35 rfl qX11_mostOf tw7_70 tw7_72 twp_74 tw1_12 tw7_73 rfl (by decide) (by decide), List.forall_mem_cons.mpr ⟨s_istore C0 dX11_fills_38 (by decide), List.forall_mem_cons.mpr ⟨s_iload C0 dX11_fills_40, List.forall_mem_cons.mpr ⟨s_if_le C0 dX11_fills_42 rfl, List.forall_mem_cons.mpr ⟨s_iload_n C0 dX11_fills_45 rfl, List.forall_mem_cons.mpr ⟨s_iconst C0 dX11_fills_46 rfl, List.forall_mem_cons.mpr ⟨s_icmp_eq C0 dX11_fills_47 rfl, List.forall_mem_cons.mpr ⟨s_aload_n C0 dX11_fills_50 rfl, List.forall_mem_cons.mpr ⟨s_iload C0 dX11_fills_51, List.forall_mem_cons.mpr ⟨s_iload_n C0 dX11_fills_53 rfl, List.forall_mem_cons.mpr ⟨s_iload C0 dX11_fills_54, List.forall_mem_cons.mpr ⟨s_callV (ci := 11) C0 (kX11_worthOf l) dX11_fills_56 rfl qX11_worthOf tw6_234 tw6_236 twp_62 tw1_12 tw6_237 rfl (by decide) (by decide), List.forall_mem_cons.mpr ⟨s_iload C0 dX11_fills_59, List.forall_mem_cons.mpr ⟨s_icmp_le C0 dX11_fills_61 rfl, List.forall_mem_cons.mpr ⟨s_iload C0 dX11_fills_64, List.forall_mem_cons.mpr ⟨s_istore_n C0 dX11_fills_66 rfl (by decide), fun _ h => absurd h List.not_mem_nil⟩⟩⟩⟩⟩⟩⟩⟩⟩⟩⟩⟩⟩⟩⟩⟩⟩⟩⟩⟩⟩⟩⟩⟩⟩⟩⟩⟩⟩⟩⟩⟩⟩⟩⟩⟩⟩⟩⟩⟩
set_option maxRecDepth 10000 in
theorem hX11_fills_1 (l : Launch) {p : Program} {e : Env} {s : State} {m : MethodId} {args : Array Value} {below : List Frame} {meth : Method} {c : Code} {D : va_G} {ad adV : Nat → Nat} {cA : Nat → ClassId} {K : Kt} (C0 : Cx p s m args meth c D ad adV cA cX11_fills 8 RX11) (hr : meth.sig.returnType = (some .int)) : ∀ q ∈ lX11_fills_1, Sd p l e (rmd 5) s m args below meth c (MQ below (QQ D ad cA K) args s 0 0 (AA ad)) D ad cA 8 q.1 (opOf K q.2) := List.forall_mem_cons.mpr ⟨s_iload C0 dX11_fills_67, List.forall_mem_cons.mpr ⟨s_istore C0 dX11_fills_69 (by decide), List.forall_mem_cons.mpr ⟨s_aload_n C0 dX11_fills_71 rfl, List.forall_mem_cons.mpr ⟨s_iload C0 dX11_fills_72, List.forall_mem_cons.mpr ⟨s_iload_n C0 dX11_fills_74 rfl, List.forall_mem_cons.mpr ⟨s_iload C0 dX11_fills_75, List.forall_mem_cons.mpr ⟨s_callV (ci := 11) C0 (kX11_worthOf l) dX11_fills_77 rfl qX11_worthOf tw6_234 tw6_236 twp_62 tw1_12 tw6_237 rfl (by decide) (by decide), List.forall_mem_cons.mpr ⟨s_istore C0 dX11_fills_80 (by decide), List.forall_mem_cons.mpr ⟨s_iinc C0 dX11_fills_82 rfl (by decide), List.forall_mem_cons.mpr ⟨s_goto C0 dX11_fills_85 rfl, List.forall_mem_cons.mpr ⟨s_iload_n C0 dX11_fills_88 rfl, List.forall_mem_cons.mpr ⟨s_iconst C0 dX11_fills_89 rfl, List.forall_mem_cons.mpr ⟨s_icmp_eq C0 dX11_fills_90 rfl, List.forall_mem_cons.mpr ⟨s_aload_n C0 dX11_fills_93 rfl, List.forall_mem_cons.mpr ⟨s_iload_n C0 dX11_fills_94 rfl, List.forall_mem_cons.mpr ⟨s_iload_n C0 dX11_fills_95 rfl, List.forall_mem_cons.mpr ⟨s_iload C0 dX11_fills_96, List.forall_mem_cons.mpr ⟨s_callV (ci := 11) C0 (kX11_comes l) dX11_fills_98 rfl qX11_comes tw7_213 tw7_215 twp_87 tw1_12 tw7_216 rfl (by decide) (by decide), List.forall_mem_cons.mpr ⟨s_iinc C0 dX11_fills_101 rfl (by decide), List.forall_mem_cons.mpr ⟨s_goto C0 dX11_fills_104 rfl, List.forall_mem_cons.mpr ⟨s_iload_n C0 dX11_fills_107 rfl, List.forall_mem_cons.mpr ⟨s_iret C0 hr dX11_fills_108, fun _ h => absurd h List.not_mem_nil⟩⟩⟩⟩⟩⟩⟩⟩⟩⟩⟩⟩⟩⟩⟩⟩⟩⟩⟩⟩⟩⟩
def fX11_fills : Mf := mf 8 (fun K => tl K lX11_fills)
theorem kX11_fills (l : Launch) : Okm l yX11_fills cX11_fills 8 (some .int) 5 fX11_fills := Okm_tl (own := RX11) (by decide +kernel) rfl (fun C0 hr => List.forall_mem_append.mpr ⟨hX11_fills_0 l C0 hr, hX11_fills_1 l C0 hr⟩)
theorem dX11_fill_0 : decode cX11_fill 0 = .ok (.aload_n 0, 1) := by decide +kernel
theorem dX11_fill_1 : decode cX11_fill 1 = .ok (.aload_n 0, 1) := by decide +kernel
theorem dX11_fill_2 : decode cX11_fill 2 = .ok (.iload_n 1, 1) := by decide +kernel
theorem dX11_fill_3 : decode cX11_fill 3 = .ok (.invokevirtual 217, 3) := by decide +kernel
theorem dX11_fill_6 : decode cX11_fill 6 = .ok (.invokestatic 182, 3) := by decide +kernel
theorem dX11_fill_9 : decode cX11_fill 9 = .ok (.invokevirtual 159, 3) := by decide +kernel
theorem dX11_fill_12 : decode cX11_fill 12 = .ok (.ifCond .eq 5, 3) := by decide +kernel
theorem dX11_fill_15 : decode cX11_fill 15 = .ok (.iconst (-1), 1) := by decide +kernel
theorem dX11_fill_16 : decode cX11_fill 16 = .ok (.ireturn, 1) := by decide +kernel
theorem dX11_fill_17 : decode cX11_fill 17 = .ok (.aload_n 0, 1) := by decide +kernel
theorem dX11_fill_18 : decode cX11_fill 18 = .ok (.invokevirtual 295, 3) := by decide +kernel
theorem dX11_fill_21 : decode cX11_fill 21 = .ok (.aload_n 0, 1) := by decide +kernel
theorem dX11_fill_22 : decode cX11_fill 22 = .ok (.iload_n 1, 1) := by decide +kernel
theorem dX11_fill_23 : decode cX11_fill 23 = .ok (.invokevirtual 314, 3) := by decide +kernel
theorem dX11_fill_26 : decode cX11_fill 26 = .ok (.ireturn, 1) := by decide +kernel
def lX11_fill : List (Nat × (Op ⊕ Nat)) := [(0, .inl (o_aload 0 1)), (1, .inl (o_aload 0 2)), (2, .inl (o_iload 1 3)), (3, .inl (o_callV fX11_isGame 1 11 6)), (6, .inl (o_callS fX11_unless 1 9)), (9, .inl (o_callV fX11_isRefused 1 11 12)), (12, .inl (o_if_eq 17 15)), (15, .inl (o_pushI ((-1)) 16)), (16, .inr 0), (17, .inl (o_aload 0 18)), (18, .inl (o_callV fX11_remembers 0 11 21)), (21, .inl (o_aload 0 22)), (22, .inl (o_iload 1 23)), (23, .inl (o_callV fX11_fills 1 11 26)), (26, .inr 0)]
theorem qX11_fill : yX11_fill.cls = RX11 ∧ yX11_fill.cls ≠ "java/lang/invoke/MethodHandle" ∧ yX11_fill.cls ≠ "java/lang/invoke/VarHandle" ∧ (parseMethodDescriptor yX11_fill.desc).map (fun d => d.parameters.length) = some 1 := by decide +kernel
set_option maxRecDepth 10000 in
theorem hX11_fill_0 (l : Launch) {p : Program} {e : Env} {s : State} {m : MethodId} {args : Array Value} {below : List Frame} {meth : Method} {c : Code} {D : va_G} {ad adV : Nat → Nat} {cA : Nat → ClassId} {K : Kt} (C0 : Cx p s m args meth c D ad adV cA cX11_fill 2 RX11) (hr : meth.sig.returnType = (some .int)) : ∀ q ∈ lX11_fill, Sd p l e (rmd 6) s m args below meth c (MQ below (QQ D ad cA K) args s 0 0 (AA ad)) D ad cA 2 q.1 (opOf K q.2) := List.forall_mem_cons.mpr ⟨s_aload_n C0 dX11_fill_0 rfl, List.forall_mem_cons.mpr ⟨s_aload_n C0 dX11_fill_1 rfl, List.forall_mem_cons.mpr ⟨s_iload_n C0 dX11_fill_2 rfl, List.forall_mem_cons.mpr ⟨s_callV (ci := 11) C0 (kX11_isGame l) dX11_fill_3 rfl qX11_isGame tw7_14 tw7_16 twp_66 tw1_12 tw7_17 rfl (by decide) (by decide), List.forall_mem_cons.mpr ⟨s_callS C0 (kX11_unless l) dX11_fill_6 qX11_unless tw6_203 tw6_204 tw1_12 tw6_205 rfl (by decide) (by decide), List.forall_mem_cons.mpr ⟨s_callV (ci := 11) C0 (kX11_isRefused l) dX11_fill_9 rfl qX11_isRefused tw6_118 tw6_120 twp_41 tw1_12 tw6_121 rfl (by decide) (by decide), List.forall_mem_cons.mpr ⟨s_if_eq C0 dX11_fill_12 rfl, List.forall_mem_cons.mpr ⟨s_iconst C0 dX11_fill_15 rfl, List.forall_mem_cons.mpr ⟨s_iret C0 hr dX11_fill_16, List.forall_mem_cons.mpr ⟨s_aload_n C0 dX11_fill_17 rfl, List.forall_mem_cons.mpr ⟨s_callV (ci := 11) C0 (kX11_remembers l) dX11_fill_18 rfl qX11_remembers tw7_209 tw7_211 twp_86 tw1_12 tw7_212 rfl (by decide) (by decide), List.forall_mem_cons.mpr ⟨s_aload_n C0 dX11_fill_21 rfl, List.forall_mem_cons.mpr ⟨s_iload_n C0 dX11_fill_22 rfl, List.forall_mem_cons.mpr ⟨s_callV (ci := 11) C0 (kX11_fills l) dX11_fill_23 rfl qX11_fills tw8_5 tw8_7 twp_90 tw1_12 tw8_8 rfl (by decide) (by decide), List.forall_mem_cons.mpr ⟨s_iret C0 hr dX11_fill_26, fun _ h => absurd h List.not_mem_nil⟩⟩⟩⟩⟩⟩⟩⟩⟩⟩⟩⟩⟩⟩⟩
def fX11_fill : Mf := mf 2 (fun K => tl K lX11_fill)
theorem kX11_fill (l : Launch) : Okm l yX11_fill cX11_fill 2 (some .int) 6 fX11_fill := Okm_tl (own := RX11) (by decide +kernel) rfl (fun C0 hr => hX11_fill_0 l C0 hr)
theorem dX11_fillAll_0 : decode cX11_fillAll 0 = .ok (.aload_n 0, 1) := by decide +kernel
theorem dX11_fillAll_1 : decode cX11_fillAll 1 = .ok (.aload_n 0, 1) := by decide +kernel
theorem dX11_fillAll_2 : decode cX11_fillAll 2 = .ok (.getfield 171, 3) := by decide +kernel
theorem dX11_fillAll_5 : decode cX11_fillAll 5 = .ok (.invokestatic 182, 3) := by decide +kernel
theorem dX11_fillAll_8 : decode cX11_fillAll 8 = .ok (.invokevirtual 159, 3) := by decide +kernel
theorem dX11_fillAll_11 : decode cX11_fillAll 11 = .ok (.ifCond .eq 5, 3) := by decide +kernel
theorem dX11_fillAll_14 : decode cX11_fillAll 14 = .ok (.iconst (-1), 1) := by decide +kernel
theorem dX11_fillAll_15 : decode cX11_fillAll 15 = .ok (.ireturn, 1) := by decide +kernel
theorem dX11_fillAll_16 : decode cX11_fillAll 16 = .ok (.aload_n 0, 1) := by decide +kernel
theorem dX11_fillAll_17 : decode cX11_fillAll 17 = .ok (.invokevirtual 295, 3) := by decide +kernel
theorem dX11_fillAll_20 : decode cX11_fillAll 20 = .ok (.iconst 0, 1) := by decide +kernel
theorem dX11_fillAll_21 : decode cX11_fillAll 21 = .ok (.istore_n 1, 1) := by decide +kernel
theorem dX11_fillAll_22 : decode cX11_fillAll 22 = .ok (.iconst 0, 1) := by decide +kernel
theorem dX11_fillAll_23 : decode cX11_fillAll 23 = .ok (.istore_n 2, 1) := by decide +kernel
theorem dX11_fillAll_24 : decode cX11_fillAll 24 = .ok (.iload_n 2, 1) := by decide +kernel
theorem dX11_fillAll_25 : decode cX11_fillAll 25 = .ok (.aload_n 0, 1) := by decide +kernel
theorem dX11_fillAll_26 : decode cX11_fillAll 26 = .ok (.getfield 17, 3) := by decide +kernel
theorem dX11_fillAll_29 : decode cX11_fillAll 29 = .ok (.iconst 1, 1) := by decide +kernel
theorem dX11_fillAll_30 : decode cX11_fillAll 30 = .ok (.iaload, 1) := by decide +kernel
theorem dX11_fillAll_31 : decode cX11_fillAll 31 = .ok (.if_icmp .ge 17, 3) := by decide +kernel
theorem dX11_fillAll_34 : decode cX11_fillAll 34 = .ok (.iload_n 1, 1) := by decide +kernel
theorem dX11_fillAll_35 : decode cX11_fillAll 35 = .ok (.aload_n 0, 1) := by decide +kernel
theorem dX11_fillAll_36 : decode cX11_fillAll 36 = .ok (.iload_n 2, 1) := by decide +kernel
theorem dX11_fillAll_37 : decode cX11_fillAll 37 = .ok (.invokevirtual 314, 3) := by decide +kernel
theorem dX11_fillAll_40 : decode cX11_fillAll 40 = .ok (.iadd, 1) := by decide +kernel
theorem dX11_fillAll_41 : decode cX11_fillAll 41 = .ok (.istore_n 1, 1) := by decide +kernel
theorem dX11_fillAll_42 : decode cX11_fillAll 42 = .ok (.iinc 2 1, 3) := by decide +kernel
theorem dX11_fillAll_45 : decode cX11_fillAll 45 = .ok (.goto (-21), 3) := by decide +kernel
theorem dX11_fillAll_48 : decode cX11_fillAll 48 = .ok (.iload_n 1, 1) := by decide +kernel
theorem dX11_fillAll_49 : decode cX11_fillAll 49 = .ok (.ireturn, 1) := by decide +kernel
def lX11_fillAll : List (Nat × (Op ⊕ Nat)) := [(0, .inl (o_aload 0 1)), (1, .inl (o_aload 0 2)), (2, .inl (o_get 11 6 5)), (5, .inl (o_callS fX11_unless 1 8)), (8, .inl (o_callV fX11_isRefused 1 11 11)), (11, .inl (o_if_eq 16 14)), (14, .inl (o_pushI ((-1)) 15)), (15, .inr 0), (16, .inl (o_aload 0 17)), (17, .inl (o_callV fX11_remembers 0 11 20)), (20, .inl (o_pushI (nI 0) 21)), (21, .inl (o_istore 1 22)), (22, .inl (o_pushI (nI 0) 23)), (23, .inl (o_istore 2 24)), (24, .inl (o_iload 2 25)), (25, .inl (o_aload 0 26)), (26, .inl (o_get 11 7 29)), (29, .inl (o_pushI (nI 1) 30)), (30, .inl (o_iald 31)), (31, .inl (o_icmp_ge 48 34)), (34, .inl (o_iload 1 35)), (35, .inl (o_aload 0 36)), (36, .inl (o_iload 2 37)), (37, .inl (o_callV fX11_fills 1 11 40)), (40, .inl (o_iadd 41)), (41, .inl (o_istore 1 42)), (42, .inl (o_iinc 2 (nI 1) 45)), (45, .inl (o_goto 24)), (48, .inl (o_iload 1 49)), (49, .inr 0)]
theorem qX11_fillAll : yX11_fillAll.cls = RX11 ∧ yX11_fillAll.cls ≠ "java/lang/invoke/MethodHandle" ∧ yX11_fillAll.cls ≠ "java/lang/invoke/VarHandle" ∧ (parseMethodDescriptor yX11_fillAll.desc).map (fun d => d.parameters.length) = some 0 := by decide +kernel
set_option maxRecDepth 10000 in
theorem hX11_fillAll_0 (l : Launch) {p : Program} {e : Env} {s : State} {m : MethodId} {args : Array Value} {below : List Frame} {meth : Method} {c : Code} {D : va_G} {ad adV : Nat → Nat} {cA : Nat → ClassId} {K : Kt} (C0 : Cx p s m args meth c D ad adV cA cX11_fillAll 3 RX11) (hr : meth.sig.returnType = (some .int)) : ∀ q ∈ lX11_fillAll, Sd p l e (rmd 6) s m args below meth c (MQ below (QQ D ad cA K) args s 0 0 (AA ad)) D ad cA 3 q.1 (opOf K q.2) := List.forall_mem_cons.mpr ⟨s_aload_n C0 dX11_fillAll_0 rfl, List.forall_mem_cons.mpr ⟨s_aload_n C0 dX11_fillAll_1 rfl, List.forall_mem_cons.mpr ⟨s_get (ci := 11) (k := 6) C0 dX11_fillAll_2 inX11 rfl (by decide) tw6_17, List.forall_mem_cons.mpr ⟨s_callS C0 (kX11_unless l) dX11_fillAll_5 qX11_unless tw6_203 tw6_204 tw1_12 tw6_205 rfl (by decide) (by decide), List.forall_mem_cons.mpr ⟨s_callV (ci := 11) C0 (kX11_isRefused l) dX11_fillAll_8 rfl qX11_isRefused tw6_118 tw6_120 twp_41 tw1_12 tw6_121 rfl (by decide) (by decide), List.forall_mem_cons.mpr ⟨s_if_eq C0 dX11_fillAll_11 rfl, List.forall_mem_cons.mpr ⟨s_iconst C0 dX11_fillAll_14 rfl, List.forall_mem_cons.mpr ⟨s_iret C0 hr dX11_fillAll_15, List.forall_mem_cons.mpr ⟨s_aload_n C0 dX11_fillAll_16 rfl, List.forall_mem_cons.mpr ⟨s_callV (ci := 11) C0 (kX11_remembers l) dX11_fillAll_17 rfl qX11_remembers tw7_209 tw7_211 twp_86 tw1_12 tw7_212 rfl (by decide) (by decide), List.forall_mem_cons.mpr ⟨s_iconst C0 dX11_fillAll_20 rfl, List.forall_mem_cons.mpr ⟨s_istore_n C0 dX11_fillAll_21 rfl (by decide), List.forall_mem_cons.mpr ⟨s_iconst C0 dX11_fillAll_22 rfl, List.forall_mem_cons.mpr ⟨s_istore_n C0 dX11_fillAll_23 rfl (by decide), List.forall_mem_cons.mpr ⟨s_iload_n C0 dX11_fillAll_24 rfl, List.forall_mem_cons.mpr ⟨s_aload_n C0 dX11_fillAll_25 rfl, List.forall_mem_cons.mpr ⟨s_get (ci := 11) (k := 7) C0 dX11_fillAll_26 inX11 rfl (by decide) tw6_18, List.forall_mem_cons.mpr ⟨s_iconst C0 dX11_fillAll_29 rfl, List.forall_mem_cons.mpr ⟨s_iald C0 dX11_fillAll_30, List.forall_mem_cons.mpr ⟨s_icmp_ge C0 dX11_fillAll_31 rfl, List.forall_mem_cons.mpr ⟨s_iload_n C0 dX11_fillAll_34 rfl, List.forall_mem_cons.mpr ⟨s_aload_n C0 dX11_fillAll_35 rfl, List.forall_mem_cons.mpr ⟨s_iload_n C0 dX11_fillAll_36 rfl, List.forall_mem_cons.mpr ⟨s_callV (ci := 11) C0 (kX11_fills l) dX11_fillAll_37 rfl qX11_fills tw8_5 tw8_7 twp_90 tw1_12 tw8_8 rfl (by decide) (by decide), List.forall_mem_cons.mpr ⟨s_iadd C0 dX11_fillAll_40, List.forall_mem_cons.mpr ⟨s_istore_n C0 dX11_fillAll_41 rfl (by decide), List.forall_mem_cons.mpr ⟨s_iinc C0 dX11_fillAll_42 rfl (by decide), List.forall_mem_cons.mpr ⟨s_goto C0 dX11_fillAll_45 rfl, List.forall_mem_cons.mpr ⟨s_iload_n C0 dX11_fillAll_48 rfl, List.forall_mem_cons.mpr ⟨s_iret C0 hr dX11_fillAll_49, fun _ h => absurd h List.not_mem_nil⟩⟩⟩⟩⟩⟩⟩⟩⟩⟩⟩⟩⟩⟩⟩⟩⟩⟩⟩⟩⟩⟩⟩⟩⟩⟩⟩⟩⟩⟩
def fX11_fillAll : Mf := mf 3 (fun K => tl K lX11_fillAll)
theorem kX11_fillAll (l : Launch) : Okm l yX11_fillAll cX11_fillAll 3 (some .int) 6 fX11_fillAll := Okm_tl (own := RX11) (by decide +kernel) rfl (fun C0 hr => hX11_fillAll_0 l C0 hr)
theorem dX11_laid_0 : decode cX11_laid 0 = .ok (.aload_n 0, 1) := by decide +kernel
theorem dX11_laid_1 : decode cX11_laid 1 = .ok (.aload_n 0, 1) := by decide +kernel
theorem dX11_laid_2 : decode cX11_laid 2 = .ok (.iload_n 1, 1) := by decide +kernel
theorem dX11_laid_3 : decode cX11_laid 3 = .ok (.iload_n 2, 1) := by decide +kernel
theorem dX11_laid_4 : decode cX11_laid 4 = .ok (.invokevirtual 267, 3) := by decide +kernel
theorem dX11_laid_7 : decode cX11_laid 7 = .ok (.invokevirtual 159, 3) := by decide +kernel
theorem dX11_laid_10 : decode cX11_laid 10 = .ok (.ifCond .eq 5, 3) := by decide +kernel
theorem dX11_laid_13 : decode cX11_laid 13 = .ok (.iconst (-1), 1) := by decide +kernel
theorem dX11_laid_14 : decode cX11_laid 14 = .ok (.ireturn, 1) := by decide +kernel
theorem dX11_laid_15 : decode cX11_laid 15 = .ok (.aload_n 0, 1) := by decide +kernel
theorem dX11_laid_16 : decode cX11_laid 16 = .ok (.iload_n 1, 1) := by decide +kernel
theorem dX11_laid_17 : decode cX11_laid 17 = .ok (.iload_n 2, 1) := by decide +kernel
theorem dX11_laid_18 : decode cX11_laid 18 = .ok (.invokevirtual 270, 3) := by decide +kernel
theorem dX11_laid_21 : decode cX11_laid 21 = .ok (.istore_n 3, 1) := by decide +kernel
theorem dX11_laid_22 : decode cX11_laid 22 = .ok (.aload_n 0, 1) := by decide +kernel
theorem dX11_laid_23 : decode cX11_laid 23 = .ok (.invokevirtual 295, 3) := by decide +kernel
theorem dX11_laid_26 : decode cX11_laid 26 = .ok (.iconst 0, 1) := by decide +kernel
theorem dX11_laid_27 : decode cX11_laid 27 = .ok (.istore 4, 2) := by decide +kernel
theorem dX11_laid_29 : decode cX11_laid 29 = .ok (.iload 4, 2) := by decide +kernel
theorem dX11_laid_31 : decode cX11_laid 31 = .ok (.iload_n 2, 1) := by decide +kernel
theorem dX11_laid_32 : decode cX11_laid 32 = .ok (.if_icmp .ge 68, 3) := by decide +kernel
theorem dX11_laid_35 : decode cX11_laid 35 = .ok (.aload_n 0, 1) := by decide +kernel
theorem dX11_laid_36 : decode cX11_laid 36 = .ok (.getfield 17, 3) := by decide +kernel
theorem dX11_laid_39 : decode cX11_laid 39 = .ok (.bipush 106, 2) := by decide +kernel
theorem dX11_laid_41 : decode cX11_laid 41 = .ok (.iload_n 1, 1) := by decide +kernel
theorem dX11_laid_42 : decode cX11_laid 42 = .ok (.iadd, 1) := by decide +kernel
theorem dX11_laid_43 : decode cX11_laid 43 = .ok (.iload 4, 2) := by decide +kernel
theorem dX11_laid_45 : decode cX11_laid 45 = .ok (.iadd, 1) := by decide +kernel
theorem dX11_laid_46 : decode cX11_laid 46 = .ok (.iconst 0, 1) := by decide +kernel
theorem dX11_laid_47 : decode cX11_laid 47 = .ok (.iastore, 1) := by decide +kernel
theorem dX11_laid_48 : decode cX11_laid 48 = .ok (.aload_n 0, 1) := by decide +kernel
theorem dX11_laid_49 : decode cX11_laid 49 = .ok (.getfield 35, 3) := by decide +kernel
theorem dX11_laid_52 : decode cX11_laid 52 = .ok (.iload 4, 2) := by decide +kernel
theorem dX11_laid_54 : decode cX11_laid 54 = .ok (.iaload, 1) := by decide +kernel
theorem dX11_laid_55 : decode cX11_laid 55 = .ok (.aload_n 0, 1) := by decide +kernel
theorem dX11_laid_56 : decode cX11_laid 56 = .ok (.getfield 17, 3) := by decide +kernel
theorem dX11_laid_59 : decode cX11_laid 59 = .ok (.iconst 0, 1) := by decide +kernel
theorem dX11_laid_60 : decode cX11_laid 60 = .ok (.iaload, 1) := by decide +kernel
theorem dX11_laid_61 : decode cX11_laid 61 = .ok (.if_icmp .ge 33, 3) := by decide +kernel
theorem dX11_laid_64 : decode cX11_laid 64 = .ok (.aload_n 0, 1) := by decide +kernel
theorem dX11_laid_65 : decode cX11_laid 65 = .ok (.iload_n 1, 1) := by decide +kernel
theorem dX11_laid_66 : decode cX11_laid 66 = .ok (.iload 4, 2) := by decide +kernel
theorem dX11_laid_68 : decode cX11_laid 68 = .ok (.iadd, 1) := by decide +kernel
theorem dX11_laid_69 : decode cX11_laid 69 = .ok (.aload_n 0, 1) := by decide +kernel
theorem dX11_laid_70 : decode cX11_laid 70 = .ok (.getfield 35, 3) := by decide +kernel
theorem dX11_laid_73 : decode cX11_laid 73 = .ok (.iload 4, 2) := by decide +kernel
theorem dX11_laid_75 : decode cX11_laid 75 = .ok (.iaload, 1) := by decide +kernel
theorem dX11_laid_76 : decode cX11_laid 76 = .ok (.aload_n 0, 1) := by decide +kernel
theorem dX11_laid_77 : decode cX11_laid 77 = .ok (.aload_n 0, 1) := by decide +kernel
theorem dX11_laid_78 : decode cX11_laid 78 = .ok (.getfield 35, 3) := by decide +kernel
theorem dX11_laid_81 : decode cX11_laid 81 = .ok (.iload 4, 2) := by decide +kernel
theorem dX11_laid_83 : decode cX11_laid 83 = .ok (.iaload, 1) := by decide +kernel
theorem dX11_laid_84 : decode cX11_laid 84 = .ok (.iload_n 1, 1) := by decide +kernel
theorem dX11_laid_85 : decode cX11_laid 85 = .ok (.iload 4, 2) := by decide +kernel
theorem dX11_laid_87 : decode cX11_laid 87 = .ok (.iadd, 1) := by decide +kernel
theorem dX11_laid_88 : decode cX11_laid 88 = .ok (.invokevirtual 255, 3) := by decide +kernel
theorem dX11_laid_91 : decode cX11_laid 91 = .ok (.invokevirtual 298, 3) := by decide +kernel
theorem dX11_laid_94 : decode cX11_laid 94 = .ok (.iinc 4 1, 3) := by decide +kernel
theorem dX11_laid_97 : decode cX11_laid 97 = .ok (.goto (-68), 3) := by decide +kernel
theorem dX11_laid_100 : decode cX11_laid 100 = .ok (.iload_n 3, 1) := by decide +kernel
theorem dX11_laid_101 : decode cX11_laid 101 = .ok (.ireturn, 1) := by decide +kernel
def lX11_laid_0 : List (Nat × (Op ⊕ Nat)) := [(0, .inl (o_aload 0 1)), (1, .inl (o_aload 0 2)), (2, .inl (o_iload 1 3)), (3, .inl (o_iload 2 4)), (4, .inl (o_callV fX11_whyNotBest 2 11 7)), (7, .inl (o_callV fX11_isRefused 1 11 10)), (10, .inl (o_if_eq 15 13)), (13, .inl (o_pushI ((-1)) 14)), (14, .inr 0), (15, .inl (o_aload 0 16)), (16, .inl (o_iload 1 17)), (17, .inl (o_iload 2 18)), (18, .inl (o_callV fX11_laysBest 2 11 21)), (21, .inl (o_istore 3 22)), (22, .inl (o_aload 0 23)), (23, .inl (o_callV fX11_remembers 0 11 26)), (26, .inl (o_pushI (nI 0) 27)), (27, .inl (o_istore 4 29)), (29, .inl (o_iload 4 31)), (31, .inl (o_iload 2 32)), (32, .inl (o_icmp_ge 100 35)), (35, .inl (o_aload 0 36)), (36, .inl (o_get 11 7 39)), (39, .inl (o_pushI (nI 106) 41)), (41, .inl (o_iload 1 42)), (42, .inl (o_iadd 43)), (43, .inl (o_iload 4 45)), (45, .inl (o_iadd 46)), (46, .inl (o_pushI (nI 0) 47)), (47, .inl (o_iast 48)), (48, .inl (o_aload 0 49)), (49, .inl (o_get 11 21 52)), (52, .inl (o_iload 4 54)), (54, .inl (o_iald 55)), (55, .inl (o_aload 0 56)), (56, .inl (o_get 11 7 59)), (59, .inl (o_pushI (nI 0) 60)), (60, .inl (o_iald 61)), (61, .inl (o_icmp_ge 94 64)), (64, .inl (o_aload 0 65))]
def lX11_laid_1 : List (Nat × (Op ⊕ Nat)) := [(65, .inl (o_iload 1 66)), (66, .inl (o_iload 4 68)), (68, .inl (o_iadd 69)), (69, .inl (o_aload 0 70)), (70, .inl (o_get 11 21 73)), (73, .inl (o_iload 4 75)), (75, .inl (o_iald 76)), (76, .inl (o_aload 0 77)), (77, .inl (o_aload 0 78)), (78, .inl (o_get 11 21 81)), (81, .inl (o_iload 4 83)), (83, .inl (o_iald 84)), (84, .inl (o_iload 1 85)), (85, .inl (o_iload 4 87)), (87, .inl (o_iadd 88)), (88, .inl (o_callV fX11_fullOf 2 11 91)), (91, .inl (o_callV fX11_comes 3 11 94)), (94, .inl (o_iinc 4 (nI 1) 97)), (97, .inl (o_goto 29)), (100, .inl (o_iload 3 101)), (101, .inr 0)]
def lX11_laid : List (Nat × (Op ⊕ Nat)) := lX11_laid_0 ++ (lX11_laid_1)
theorem qX11_laid : yX11_laid.cls = RX11 ∧ yX11_laid.cls ≠ "java/lang/invoke/MethodHandle" ∧ yX11_laid.cls ≠ "java/lang/invoke/VarHandle" ∧ (parseMethodDescriptor yX11_laid.desc).map (fun d => d.parameters.length) = some 2 := by decide +kernel
set_option maxRecDepth 10000 in
theorem hX11_laid_0 (l : Launch) {p : Program} {e : Env} {s : State} {m : MethodId} {args : Array Value} {below : List Frame} {meth : Method} {c : Code} {D : va_G} {ad adV : Nat → Nat} {cA : Nat → ClassId} {K : Kt} (C0 : Cx p s m args meth c D ad adV cA cX11_laid 5 RX11) (hr : meth.sig.returnType = (some .int)) : ∀ q ∈ lX11_laid_0, Sd p l e (rmd 5) s m args below meth c (MQ below (QQ D ad cA K) args s 0 0 (AA ad)) D ad cA 5 q.1 (opOf K q.2) := List.forall_mem_cons.mpr ⟨s_aload_n C0 dX11_laid_0 rfl, List.forall_mem_cons.mpr ⟨s_aload_n C0 dX11_laid_1 rfl, List.forall_mem_cons.mpr ⟨s_iload_n C0 dX11_laid_2 rfl, List.forall_mem_cons.mpr ⟨s_iload_n C0 dX11_laid_3 rfl, List.forall_mem_cons.mpr ⟨s_callV (ci := 11) C0 (kX11_whyNotBest l) dX11_laid_4 rfl qX11_whyNotBest tw7_109 tw7_111 twp_78 tw1_12 tw7_112 rfl (by decide) (by decide), List.forall_mem_cons.mpr ⟨s_callV (ci := 11) C0 (kX11_isRefused l) dX11_laid_7 rfl qX11_isRefused tw6_118 tw6_120 twp_41 tw1_12 tw6_121 rfl (by decide) (by decide), List.forall_mem_cons.mpr ⟨s_if_eq C0 dX11_laid_10 rfl, List.forall_mem_cons.mpr ⟨s_iconst C0 dX11_laid_13 rfl, List.forall_mem_cons.mpr ⟨s_iret C0 hr dX11_laid_14, List.forall_mem_cons.mpr ⟨s_aload_n C0 dX11_laid_15 rfl, List.forall_mem_cons.mpr ⟨s_iload_n C0 dX11_laid_16 rfl, List.forall_mem_cons.mpr ⟨s_iload_n C0 dX11_laid_17 rfl, List.forall_mem_cons.mpr ⟨s_callV (ci := 11) C0 (kX11_laysBest l) dX11_laid_18 rfl qX11_laysBest tw7_113 tw7_115 twp_79 tw1_12 tw7_116 rfl (by decide) (by decide), List.forall_mem_cons.mpr ⟨s_istore_n C0 dX11_laid_21 rfl (by decide), List.forall_mem_cons.mpr ⟨s_aload_n C0 dX11_laid_22 rfl, List.forall_mem_cons.mpr ⟨s_callV (ci := 11) C0 (kX11_remembers l) dX11_laid_23 rfl qX11_remembers tw7_209 tw7_211 twp_86 tw1_12 tw7_212 rfl (by decide) (by decide), List.forall_mem_cons.mpr ⟨s_iconst C0 dX11_laid_26 rfl, List.forall_mem_cons.mpr ⟨s_istore C0 dX11_laid_27 (by decide), List.forall_mem_cons.mpr ⟨s_iload C0 dX11_laid_29, List.forall_mem_cons.mpr ⟨s_iload_n C0 dX11_laid_31 rfl, List.forall_mem_cons.mpr ⟨s_icmp_ge C0 dX11_laid_32 rfl, List.forall_mem_cons.mpr ⟨s_aload_n C0 dX11_laid_35 rfl, List.forall_mem_cons.mpr ⟨s_get (ci := 11) (k := 7) C0 dX11_laid_36 inX11 rfl (by decide) tw6_18, List.forall_mem_cons.mpr ⟨s_bipush C0 dX11_laid_39 (by decide +kernel), List.forall_mem_cons.mpr ⟨s_iload_n C0 dX11_laid_41 rfl, List.forall_mem_cons.mpr ⟨s_iadd C0 dX11_laid_42, List.forall_mem_cons.mpr ⟨s_iload C0 dX11_laid_43, List.forall_mem_cons.mpr ⟨s_iadd C0 dX11_laid_45, List.forall_mem_cons.mpr ⟨s_iconst C0 dX11_laid_46 rfl, List.forall_mem_cons.mpr ⟨s_iast C0 dX11_laid_47, List.forall_mem_cons.mpr ⟨s_aload_n C0 dX11_laid_48 rfl, List.forall_mem_cons.mpr ⟨s_get (ci := 11) (k := 21) C0 dX11_laid_49 inX11 rfl (by decide) tw6_32, List.forall_mem_cons.mpr ⟨s_iload C0 dX11_laid_52, List.forall_mem_cons.mpr ⟨s_iald C0 dX11_laid_54, List.forall_mem_cons.mpr ⟨s_aload_n C0 dX11_laid_55 rfl, List.forall_mem_cons.mpr ⟨s_get (ci := 11) (k := 7) C0 dX11_laid_56 inX11 rfl (by decide) tw6_18, List.forall_mem_cons.mpr ⟨s_iconst C0 dX11_laid_59 rfl, List.forall_mem_cons.mpr ⟨s_iald C0 dX11_laid_60, List.forall_mem_cons.mpr ⟨s_icmp_ge C0 dX11_laid_61 rfl, List.forall_mem_cons.mpr ⟨s_aload_n C0 dX11_laid_64 rfl, fun _ h => absurd h List.not_mem_nil⟩⟩⟩⟩⟩⟩⟩⟩⟩⟩⟩⟩⟩⟩⟩⟩⟩⟩⟩⟩⟩⟩⟩⟩⟩⟩⟩⟩⟩⟩⟩⟩⟩⟩⟩⟩⟩⟩⟩⟩
set_option maxRecDepth 10000 in
theorem hX11_laid_1 (l : Launch) {p : Program} {e : Env} {s : State} {m : MethodId} {args : Array Value} {below : List Frame} {meth : Method} {c : Code} {D : va_G} {ad adV : Nat → Nat} {cA : Nat → ClassId} {K : Kt} (C0 : Cx p s m args meth c D ad adV cA cX11_laid 5 RX11) (hr : meth.sig.returnType = (some .int)) : ∀ q ∈ lX11_laid_1, Sd p l e (rmd 5) s m args below meth c (MQ below (QQ D ad cA K) args s 0 0 (AA ad)) D ad cA 5 q.1 (opOf K q.2) := List.forall_mem_cons.mpr ⟨s_iload_n C0 dX11_laid_65 rfl, List.forall_mem_cons.mpr ⟨s_iload C0 dX11_laid_66, List.forall_mem_cons.mpr ⟨s_iadd C0 dX11_laid_68, List.forall_mem_cons.mpr ⟨s_aload_n C0 dX11_laid_69 rfl, List.forall_mem_cons.mpr ⟨s_get (ci := 11) (k := 21) C0 dX11_laid_70 inX11 rfl (by decide) tw6_32, List.forall_mem_cons.mpr ⟨s_iload C0 dX11_laid_73, List.forall_mem_cons.mpr ⟨s_iald C0 dX11_laid_75, List.forall_mem_cons.mpr ⟨s_aload_n C0 dX11_laid_76 rfl, List.forall_mem_cons.mpr ⟨s_aload_n C0 dX11_laid_77 rfl, List.forall_mem_cons.mpr ⟨s_get (ci := 11) (k := 21) C0 dX11_laid_78 inX11 rfl (by decide) tw6_32, List.forall_mem_cons.mpr ⟨s_iload C0 dX11_laid_81, List.forall_mem_cons.mpr ⟨s_iald C0 dX11_laid_83, List.forall_mem_cons.mpr ⟨s_iload_n C0 dX11_laid_84 rfl, List.forall_mem_cons.mpr ⟨s_iload C0 dX11_laid_85, List.forall_mem_cons.mpr ⟨s_iadd C0 dX11_laid_87, List.forall_mem_cons.mpr ⟨s_callV (ci := 11) C0 (kX11_fullOf l) dX11_laid_88 rfl qX11_fullOf tw7_97 tw7_99 twp_77 tw1_12 tw7_100 rfl (by decide) (by decide), List.forall_mem_cons.mpr ⟨s_callV (ci := 11) C0 (kX11_comes l) dX11_laid_91 rfl qX11_comes tw7_213 tw7_215 twp_87 tw1_12 tw7_216 rfl (by decide) (by decide), List.forall_mem_cons.mpr ⟨s_iinc C0 dX11_laid_94 rfl (by decide), List.forall_mem_cons.mpr ⟨s_goto C0 dX11_laid_97 rfl, List.forall_mem_cons.mpr ⟨s_iload_n C0 dX11_laid_100 rfl, List.forall_mem_cons.mpr ⟨s_iret C0 hr dX11_laid_101, fun _ h => absurd h List.not_mem_nil⟩⟩⟩⟩⟩⟩⟩⟩⟩⟩⟩⟩⟩⟩⟩⟩⟩⟩⟩⟩⟩
def fX11_laid : Mf := mf 5 (fun K => tl K lX11_laid)
theorem kX11_laid (l : Launch) : Okm l yX11_laid cX11_laid 5 (some .int) 5 fX11_laid := Okm_tl (own := RX11) (by decide +kernel) rfl (fun C0 hr => List.forall_mem_append.mpr ⟨hX11_laid_0 l C0 hr, hX11_laid_1 l C0 hr⟩)
theorem dX11_canBecome_0 : decode cX11_canBecome 0 = .ok (.iload_n 2, 1) := by decide +kernel
theorem dX11_canBecome_1 : decode cX11_canBecome 1 = .ok (.ifCond .ne 13, 3) := by decide +kernel
theorem dX11_canBecome_4 : decode cX11_canBecome 4 = .ok (.iload_n 3, 1) := by decide +kernel
theorem dX11_canBecome_5 : decode cX11_canBecome 5 = .ok (.iconst 1, 1) := by decide +kernel
theorem dX11_canBecome_6 : decode cX11_canBecome 6 = .ok (.bipush 99, 2) := by decide +kernel
theorem dX11_canBecome_8 : decode cX11_canBecome 8 = .ok (.invokestatic 76, 3) := by decide +kernel
theorem dX11_canBecome_11 : decode cX11_canBecome 11 = .ok (.goto 47, 3) := by decide +kernel
theorem dX11_canBecome_14 : decode cX11_canBecome 14 = .ok (.iload_n 2, 1) := by decide +kernel
theorem dX11_canBecome_15 : decode cX11_canBecome 15 = .ok (.iconst 1, 1) := by decide +kernel
theorem dX11_canBecome_16 : decode cX11_canBecome 16 = .ok (.if_icmp .ne 13, 3) := by decide +kernel
theorem dX11_canBecome_19 : decode cX11_canBecome 19 = .ok (.iload_n 3, 1) := by decide +kernel
theorem dX11_canBecome_20 : decode cX11_canBecome 20 = .ok (.iconst 1, 1) := by decide +kernel
theorem dX11_canBecome_21 : decode cX11_canBecome 21 = .ok (.bipush 120, 2) := by decide +kernel
theorem dX11_canBecome_23 : decode cX11_canBecome 23 = .ok (.invokestatic 76, 3) := by decide +kernel
theorem dX11_canBecome_26 : decode cX11_canBecome 26 = .ok (.goto 32, 3) := by decide +kernel
theorem dX11_canBecome_29 : decode cX11_canBecome 29 = .ok (.iload_n 2, 1) := by decide +kernel
theorem dX11_canBecome_30 : decode cX11_canBecome 30 = .ok (.iconst 2, 1) := by decide +kernel
theorem dX11_canBecome_31 : decode cX11_canBecome 31 = .ok (.if_icmp .ne 20, 3) := by decide +kernel
theorem dX11_canBecome_34 : decode cX11_canBecome 34 = .ok (.iload_n 3, 1) := by decide +kernel
theorem dX11_canBecome_35 : decode cX11_canBecome 35 = .ok (.iconst 0, 1) := by decide +kernel
theorem dX11_canBecome_36 : decode cX11_canBecome 36 = .ok (.aload_n 0, 1) := by decide +kernel
theorem dX11_canBecome_37 : decode cX11_canBecome 37 = .ok (.getfield 17, 3) := by decide +kernel
theorem dX11_canBecome_40 : decode cX11_canBecome 40 = .ok (.bipush 22, 2) := by decide +kernel
theorem dX11_canBecome_42 : decode cX11_canBecome 42 = .ok (.iload_n 1, 1) := by decide +kernel
theorem dX11_canBecome_43 : decode cX11_canBecome 43 = .ok (.iadd, 1) := by decide +kernel
theorem dX11_canBecome_44 : decode cX11_canBecome 44 = .ok (.iaload, 1) := by decide +kernel
theorem dX11_canBecome_45 : decode cX11_canBecome 45 = .ok (.invokestatic 76, 3) := by decide +kernel
theorem dX11_canBecome_48 : decode cX11_canBecome 48 = .ok (.goto 10, 3) := by decide +kernel
theorem dX11_canBecome_51 : decode cX11_canBecome 51 = .ok (.iload_n 3, 1) := by decide +kernel
theorem dX11_canBecome_52 : decode cX11_canBecome 52 = .ok (.iconst 0, 1) := by decide +kernel
theorem dX11_canBecome_53 : decode cX11_canBecome 53 = .ok (.bipush 9, 2) := by decide +kernel
theorem dX11_canBecome_55 : decode cX11_canBecome 55 = .ok (.invokestatic 76, 3) := by decide +kernel
theorem dX11_canBecome_58 : decode cX11_canBecome 58 = .ok (.ireturn, 1) := by decide +kernel
def lX11_canBecome : List (Nat × (Op ⊕ Nat)) := [(0, .inl (o_iload 2 1)), (1, .inl (o_if_ne 14 4)), (4, .inl (o_iload 3 5)), (5, .inl (o_pushI (nI 1) 6)), (6, .inl (o_pushI (nI 99) 8)), (8, .inl (o_callS fX11_in 3 11)), (11, .inl (o_goto 58)), (14, .inl (o_iload 2 15)), (15, .inl (o_pushI (nI 1) 16)), (16, .inl (o_icmp_ne 29 19)), (19, .inl (o_iload 3 20)), (20, .inl (o_pushI (nI 1) 21)), (21, .inl (o_pushI (nI 120) 23)), (23, .inl (o_callS fX11_in 3 26)), (26, .inl (o_goto 58)), (29, .inl (o_iload 2 30)), (30, .inl (o_pushI (nI 2) 31)), (31, .inl (o_icmp_ne 51 34)), (34, .inl (o_iload 3 35)), (35, .inl (o_pushI (nI 0) 36)), (36, .inl (o_aload 0 37)), (37, .inl (o_get 11 7 40)), (40, .inl (o_pushI (nI 22) 42)), (42, .inl (o_iload 1 43)), (43, .inl (o_iadd 44)), (44, .inl (o_iald 45)), (45, .inl (o_callS fX11_in 3 48)), (48, .inl (o_goto 58)), (51, .inl (o_iload 3 52)), (52, .inl (o_pushI (nI 0) 53)), (53, .inl (o_pushI (nI 9) 55)), (55, .inl (o_callS fX11_in 3 58)), (58, .inr 1)]
theorem qX11_canBecome : yX11_canBecome.cls = RX11 ∧ yX11_canBecome.cls ≠ "java/lang/invoke/MethodHandle" ∧ yX11_canBecome.cls ≠ "java/lang/invoke/VarHandle" ∧ (parseMethodDescriptor yX11_canBecome.desc).map (fun d => d.parameters.length) = some 3 := by decide +kernel
set_option maxRecDepth 10000 in
theorem hX11_canBecome_0 (l : Launch) {p : Program} {e : Env} {s : State} {m : MethodId} {args : Array Value} {below : List Frame} {meth : Method} {c : Code} {D : va_G} {ad adV : Nat → Nat} {cA : Nat → ClassId} {K : Kt} (C0 : Cx p s m args meth c D ad adV cA cX11_canBecome 4 RX11) (hr : meth.sig.returnType = (some .boolean)) : ∀ q ∈ lX11_canBecome, Sd p l e (rmd 1) s m args below meth c (MQ below (QQ D ad cA K) args s 0 0 (AA ad)) D ad cA 4 q.1 (opOf K q.2) := List.forall_mem_cons.mpr ⟨s_iload_n C0 dX11_canBecome_0 rfl, List.forall_mem_cons.mpr ⟨s_if_ne C0 dX11_canBecome_1 rfl, List.forall_mem_cons.mpr ⟨s_iload_n C0 dX11_canBecome_4 rfl, List.forall_mem_cons.mpr ⟨s_iconst C0 dX11_canBecome_5 rfl, List.forall_mem_cons.mpr ⟨s_bipush C0 dX11_canBecome_6 (by decide +kernel), List.forall_mem_cons.mpr ⟨s_callS C0 (kX11_in l) dX11_canBecome_8 qX11_in tw6_112 tw6_113 tw1_12 tw6_114 rfl (by decide) (by decide), List.forall_mem_cons.mpr ⟨s_goto C0 dX11_canBecome_11 rfl, List.forall_mem_cons.mpr ⟨s_iload_n C0 dX11_canBecome_14 rfl, List.forall_mem_cons.mpr ⟨s_iconst C0 dX11_canBecome_15 rfl, List.forall_mem_cons.mpr ⟨s_icmp_ne C0 dX11_canBecome_16 rfl, List.forall_mem_cons.mpr ⟨s_iload_n C0 dX11_canBecome_19 rfl, List.forall_mem_cons.mpr ⟨s_iconst C0 dX11_canBecome_20 rfl, List.forall_mem_cons.mpr ⟨s_bipush C0 dX11_canBecome_21 (by decide +kernel), List.forall_mem_cons.mpr ⟨s_callS C0 (kX11_in l) dX11_canBecome_23 qX11_in tw6_112 tw6_113 tw1_12 tw6_114 rfl (by decide) (by decide), List.forall_mem_cons.mpr ⟨s_goto C0 dX11_canBecome_26 rfl, List.forall_mem_cons.mpr ⟨s_iload_n C0 dX11_canBecome_29 rfl, List.forall_mem_cons.mpr ⟨s_iconst C0 dX11_canBecome_30 rfl, List.forall_mem_cons.mpr ⟨s_icmp_ne C0 dX11_canBecome_31 rfl, List.forall_mem_cons.mpr ⟨s_iload_n C0 dX11_canBecome_34 rfl, List.forall_mem_cons.mpr ⟨s_iconst C0 dX11_canBecome_35 rfl, List.forall_mem_cons.mpr ⟨s_aload_n C0 dX11_canBecome_36 rfl, List.forall_mem_cons.mpr ⟨s_get (ci := 11) (k := 7) C0 dX11_canBecome_37 inX11 rfl (by decide) tw6_18, List.forall_mem_cons.mpr ⟨s_bipush C0 dX11_canBecome_40 (by decide +kernel), List.forall_mem_cons.mpr ⟨s_iload_n C0 dX11_canBecome_42 rfl, List.forall_mem_cons.mpr ⟨s_iadd C0 dX11_canBecome_43, List.forall_mem_cons.mpr ⟨s_iald C0 dX11_canBecome_44, List.forall_mem_cons.mpr ⟨s_callS C0 (kX11_in l) dX11_canBecome_45 qX11_in tw6_112 tw6_113 tw1_12 tw6_114 rfl (by decide) (by decide), List.forall_mem_cons.mpr ⟨s_goto C0 dX11_canBecome_48 rfl, List.forall_mem_cons.mpr ⟨s_iload_n C0 dX11_canBecome_51 rfl, List.forall_mem_cons.mpr ⟨s_iconst C0 dX11_canBecome_52 rfl, List.forall_mem_cons.mpr ⟨s_bipush C0 dX11_canBecome_53 (by decide +kernel), List.forall_mem_cons.mpr ⟨s_callS C0 (kX11_in l) dX11_canBecome_55 qX11_in tw6_112 tw6_113 tw1_12 tw6_114 rfl (by decide) (by decide), List.forall_mem_cons.mpr ⟨s_zret C0 hr dX11_canBecome_58, fun _ h => absurd h List.not_mem_nil⟩⟩⟩⟩⟩⟩⟩⟩⟩⟩⟩⟩⟩⟩⟩⟩⟩⟩⟩⟩⟩⟩⟩⟩⟩⟩⟩⟩⟩⟩⟩⟩⟩
def fX11_canBecome : Mf := mf 4 (fun K => tl K lX11_canBecome)
theorem kX11_canBecome (l : Launch) : Okm l yX11_canBecome cX11_canBecome 4 (some .boolean) 1 fX11_canBecome := Okm_tl (own := RX11) (by decide +kernel) rfl (fun C0 hr => hX11_canBecome_0 l C0 hr)
theorem dX11_become_0 : decode cX11_become 0 = .ok (.aload_n 0, 1) := by decide +kernel
theorem dX11_become_1 : decode cX11_become 1 = .ok (.iload_n 1, 1) := by decide +kernel
theorem dX11_become_2 : decode cX11_become 2 = .ok (.invokevirtual 211, 3) := by decide +kernel
theorem dX11_become_5 : decode cX11_become 5 = .ok (.ifCond .eq 16, 3) := by decide +kernel
theorem dX11_become_8 : decode cX11_become 8 = .ok (.iload_n 2, 1) := by decide +kernel
theorem dX11_become_9 : decode cX11_become 9 = .ok (.iconst 0, 1) := by decide +kernel
theorem dX11_become_10 : decode cX11_become 10 = .ok (.iconst 3, 1) := by decide +kernel
theorem dX11_become_11 : decode cX11_become 11 = .ok (.invokestatic 76, 3) := by decide +kernel
theorem dX11_become_14 : decode cX11_become 14 = .ok (.ifCond .eq 7, 3) := by decide +kernel
theorem dX11_become_17 : decode cX11_become 17 = .ok (.iconst 1, 1) := by decide +kernel
theorem dX11_become_18 : decode cX11_become 18 = .ok (.goto 4, 3) := by decide +kernel
theorem dX11_become_21 : decode cX11_become 21 = .ok (.iconst 0, 1) := by decide +kernel
theorem dX11_become_22 : decode cX11_become 22 = .ok (.istore 4, 2) := by decide +kernel
theorem dX11_become_24 : decode cX11_become 24 = .ok (.aload_n 0, 1) := by decide +kernel
theorem dX11_become_25 : decode cX11_become 25 = .ok (.iload 4, 2) := by decide +kernel
theorem dX11_become_27 : decode cX11_become 27 = .ok (.iload 4, 2) := by decide +kernel
theorem dX11_become_29 : decode cX11_become 29 = .ok (.ifCond .eq 17, 3) := by decide +kernel
theorem dX11_become_32 : decode cX11_become 32 = .ok (.aload_n 0, 1) := by decide +kernel
theorem dX11_become_33 : decode cX11_become 33 = .ok (.iload_n 1, 1) := by decide +kernel
theorem dX11_become_34 : decode cX11_become 34 = .ok (.iload_n 2, 1) := by decide +kernel
theorem dX11_become_35 : decode cX11_become 35 = .ok (.iload_n 3, 1) := by decide +kernel
theorem dX11_become_36 : decode cX11_become 36 = .ok (.invokevirtual 317, 3) := by decide +kernel
theorem dX11_become_39 : decode cX11_become 39 = .ok (.ifCond .eq 7, 3) := by decide +kernel
theorem dX11_become_42 : decode cX11_become 42 = .ok (.iconst 1, 1) := by decide +kernel
theorem dX11_become_43 : decode cX11_become 43 = .ok (.goto 4, 3) := by decide +kernel
theorem dX11_become_46 : decode cX11_become 46 = .ok (.iconst 0, 1) := by decide +kernel
theorem dX11_become_47 : decode cX11_become 47 = .ok (.invokestatic 155, 3) := by decide +kernel
theorem dX11_become_50 : decode cX11_become 50 = .ok (.invokevirtual 159, 3) := by decide +kernel
theorem dX11_become_53 : decode cX11_become 53 = .ok (.ifCond .eq 5, 3) := by decide +kernel
theorem dX11_become_56 : decode cX11_become 56 = .ok (.iconst (-1), 1) := by decide +kernel
theorem dX11_become_57 : decode cX11_become 57 = .ok (.ireturn, 1) := by decide +kernel
theorem dX11_become_58 : decode cX11_become 58 = .ok (.aload_n 0, 1) := by decide +kernel
theorem dX11_become_59 : decode cX11_become 59 = .ok (.invokevirtual 295, 3) := by decide +kernel
theorem dX11_become_62 : decode cX11_become 62 = .ok (.bipush 14, 2) := by decide +kernel
theorem dX11_become_64 : decode cX11_become 64 = .ok (.bipush 8, 2) := by decide +kernel
theorem dX11_become_66 : decode cX11_become 66 = .ok (.iload_n 2, 1) := by decide +kernel
theorem dX11_become_67 : decode cX11_become 67 = .ok (.imul, 1) := by decide +kernel
theorem dX11_become_68 : decode cX11_become 68 = .ok (.iadd, 1) := by decide +kernel
theorem dX11_become_69 : decode cX11_become 69 = .ok (.iload_n 1, 1) := by decide +kernel
theorem dX11_become_70 : decode cX11_become 70 = .ok (.iadd, 1) := by decide +kernel
theorem dX11_become_71 : decode cX11_become 71 = .ok (.istore 5, 2) := by decide +kernel
theorem dX11_become_73 : decode cX11_become 73 = .ok (.aload_n 0, 1) := by decide +kernel
theorem dX11_become_74 : decode cX11_become 74 = .ok (.getfield 17, 3) := by decide +kernel
theorem dX11_become_77 : decode cX11_become 77 = .ok (.iload 5, 2) := by decide +kernel
theorem dX11_become_79 : decode cX11_become 79 = .ok (.iaload, 1) := by decide +kernel
theorem dX11_become_80 : decode cX11_become 80 = .ok (.istore 6, 2) := by decide +kernel
theorem dX11_become_82 : decode cX11_become 82 = .ok (.aload_n 0, 1) := by decide +kernel
theorem dX11_become_83 : decode cX11_become 83 = .ok (.getfield 17, 3) := by decide +kernel
theorem dX11_become_86 : decode cX11_become 86 = .ok (.iload 5, 2) := by decide +kernel
theorem dX11_become_88 : decode cX11_become 88 = .ok (.iload_n 3, 1) := by decide +kernel
theorem dX11_become_89 : decode cX11_become 89 = .ok (.iastore, 1) := by decide +kernel
theorem dX11_become_90 : decode cX11_become 90 = .ok (.aload_n 0, 1) := by decide +kernel
theorem dX11_become_91 : decode cX11_become 91 = .ok (.getfield 17, 3) := by decide +kernel
theorem dX11_become_94 : decode cX11_become 94 = .ok (.bipush 30, 2) := by decide +kernel
theorem dX11_become_96 : decode cX11_become 96 = .ok (.iload_n 1, 1) := by decide +kernel
theorem dX11_become_97 : decode cX11_become 97 = .ok (.iadd, 1) := by decide +kernel
theorem dX11_become_98 : decode cX11_become 98 = .ok (.aload_n 0, 1) := by decide +kernel
theorem dX11_become_99 : decode cX11_become 99 = .ok (.getfield 17, 3) := by decide +kernel
theorem dX11_become_102 : decode cX11_become 102 = .ok (.bipush 30, 2) := by decide +kernel
theorem dX11_become_104 : decode cX11_become 104 = .ok (.iload_n 1, 1) := by decide +kernel
theorem dX11_become_105 : decode cX11_become 105 = .ok (.iadd, 1) := by decide +kernel
theorem dX11_become_106 : decode cX11_become 106 = .ok (.iaload, 1) := by decide +kernel
theorem dX11_become_107 : decode cX11_become 107 = .ok (.aload_n 0, 1) := by decide +kernel
theorem dX11_become_108 : decode cX11_become 108 = .ok (.getfield 17, 3) := by decide +kernel
theorem dX11_become_111 : decode cX11_become 111 = .ok (.bipush 22, 2) := by decide +kernel
theorem dX11_become_113 : decode cX11_become 113 = .ok (.iload_n 1, 1) := by decide +kernel
theorem dX11_become_114 : decode cX11_become 114 = .ok (.iadd, 1) := by decide +kernel
theorem dX11_become_115 : decode cX11_become 115 = .ok (.iaload, 1) := by decide +kernel
theorem dX11_become_116 : decode cX11_become 116 = .ok (.invokestatic 236, 3) := by decide +kernel
theorem dX11_become_119 : decode cX11_become 119 = .ok (.iastore, 1) := by decide +kernel
theorem dX11_become_120 : decode cX11_become 120 = .ok (.iload 6, 2) := by decide +kernel
theorem dX11_become_122 : decode cX11_become 122 = .ok (.ireturn, 1) := by decide +kernel
def lX11_become_0 : List (Nat × (Op ⊕ Nat)) := [(0, .inl (o_aload 0 1)), (1, .inl (o_iload 1 2)), (2, .inl (o_callV fX11_isArm 1 11 5)), (5, .inl (o_if_eq 21 8)), (8, .inl (o_iload 2 9)), (9, .inl (o_pushI (nI 0) 10)), (10, .inl (o_pushI (nI 3) 11)), (11, .inl (o_callS fX11_in 3 14)), (14, .inl (o_if_eq 21 17)), (17, .inl (o_pushI (nI 1) 18)), (18, .inl (o_goto 22)), (21, .inl (o_pushI (nI 0) 22)), (22, .inl (o_istore 4 24)), (24, .inl (o_aload 0 25)), (25, .inl (o_iload 4 27)), (27, .inl (o_iload 4 29)), (29, .inl (o_if_eq 46 32)), (32, .inl (o_aload 0 33)), (33, .inl (o_iload 1 34)), (34, .inl (o_iload 2 35)), (35, .inl (o_iload 3 36)), (36, .inl (o_callV fX11_canBecome 3 11 39)), (39, .inl (o_if_eq 46 42)), (42, .inl (o_pushI (nI 1) 43)), (43, .inl (o_goto 47)), (46, .inl (o_pushI (nI 0) 47)), (47, .inl (o_callS fX11_unless_ 2 50)), (50, .inl (o_callV fX11_isRefused 1 11 53)), (53, .inl (o_if_eq 58 56)), (56, .inl (o_pushI ((-1)) 57)), (57, .inr 0), (58, .inl (o_aload 0 59)), (59, .inl (o_callV fX11_remembers 0 11 62)), (62, .inl (o_pushI (nI 14) 64)), (64, .inl (o_pushI (nI 8) 66)), (66, .inl (o_iload 2 67)), (67, .inl (o_imul 68)), (68, .inl (o_iadd 69)), (69, .inl (o_iload 1 70)), (70, .inl (o_iadd 71))]
def lX11_become_1 : List (Nat × (Op ⊕ Nat)) := [(71, .inl (o_istore 5 73)), (73, .inl (o_aload 0 74)), (74, .inl (o_get 11 7 77)), (77, .inl (o_iload 5 79)), (79, .inl (o_iald 80)), (80, .inl (o_istore 6 82)), (82, .inl (o_aload 0 83)), (83, .inl (o_get 11 7 86)), (86, .inl (o_iload 5 88)), (88, .inl (o_iload 3 89)), (89, .inl (o_iast 90)), (90, .inl (o_aload 0 91)), (91, .inl (o_get 11 7 94)), (94, .inl (o_pushI (nI 30) 96)), (96, .inl (o_iload 1 97)), (97, .inl (o_iadd 98)), (98, .inl (o_aload 0 99)), (99, .inl (o_get 11 7 102)), (102, .inl (o_pushI (nI 30) 104)), (104, .inl (o_iload 1 105)), (105, .inl (o_iadd 106)), (106, .inl (o_iald 107)), (107, .inl (o_aload 0 108)), (108, .inl (o_get 11 7 111)), (111, .inl (o_pushI (nI 22) 113)), (113, .inl (o_iload 1 114)), (114, .inl (o_iadd 115)), (115, .inl (o_iald 116)), (116, .inl (o_callS fX11_lesser 2 119)), (119, .inl (o_iast 120)), (120, .inl (o_iload 6 122)), (122, .inr 0)]
def lX11_become : List (Nat × (Op ⊕ Nat)) := lX11_become_0 ++ (lX11_become_1)
theorem qX11_become : yX11_become.cls = RX11 ∧ yX11_become.cls ≠ "java/lang/invoke/MethodHandle" ∧ yX11_become.cls ≠ "java/lang/invoke/VarHandle" ∧ (parseMethodDescriptor yX11_become.desc).map (fun d => d.parameters.length) = some 3 := by decide +kernel
set_option maxRecDepth 10000 in
theorem hX11_become_0 (l : Launch) {p : Program} {e : Env} {s : State} {m : MethodId} {args : Array Value} {below : List Frame} {meth : Method} {c : Code} {D : va_G} {ad adV : Nat → Nat} {cA : Nat → ClassId} {K : Kt} (C0 : Cx p s m args meth c D ad adV cA cX11_become 7 RX11) (hr : meth.sig.returnType = (some .int)) : ∀ q ∈ lX11_become_0, Sd p l e (rmd 2) s m args below meth c (MQ below (QQ D ad cA K) args s 0 0 (AA ad)) D ad cA 7 q.1 (opOf K q.2) := List.forall_mem_cons.mpr ⟨s_aload_n C0 dX11_become_0 rfl, List.forall_mem_cons.mpr ⟨s_iload_n C0 dX11_become_1 rfl, List.forall_mem_cons.mpr ⟨s_callV (ci := 11) C0 (kX11_isArm l) dX11_become_2 rfl qX11_isArm tw6_214 tw6_216 twp_57 tw1_12 tw6_217 rfl (by decide) (by decide), List.forall_mem_cons.mpr ⟨s_if_eq C0 dX11_become_5 rfl, List.forall_mem_cons.mpr ⟨s_iload_n C0 dX11_become_8 rfl, List.forall_mem_cons.mpr ⟨s_iconst C0 dX11_become_9 rfl, List.forall_mem_cons.mpr ⟨s_iconst C0 dX11_become_10 rfl, List.forall_mem_cons.mpr ⟨s_callS C0 (kX11_in l) dX11_become_11 qX11_in tw6_112 tw6_113 tw1_12 tw6_114 rfl (by decide) (by decide), List.forall_mem_cons.mpr ⟨s_if_eq C0 dX11_become_14 rfl, List.forall_mem_cons.mpr ⟨s_iconst C0 dX11_become_17 rfl, List.forall_mem_cons.mpr ⟨s_goto C0 dX11_become_18 rfl, List.forall_mem_cons.mpr ⟨s_iconst C0 dX11_become_21 rfl, List.forall_mem_cons.mpr ⟨s_istore C0 dX11_become_22 (by decide), List.forall_mem_cons.mpr ⟨s_aload_n C0 dX11_become_24 rfl, List.forall_mem_cons.mpr ⟨s_iload C0 dX11_become_25, List.forall_mem_cons.mpr ⟨s_iload C0 dX11_become_27, List.forall_mem_cons.mpr ⟨s_if_eq C0 dX11_become_29 rfl, List.forall_mem_cons.mpr ⟨s_aload_n C0 dX11_become_32 rfl, List.forall_mem_cons.mpr ⟨s_iload_n C0 dX11_become_33 rfl, List.forall_mem_cons.mpr ⟨s_iload_n C0 dX11_become_34 rfl, List.forall_mem_cons.mpr ⟨s_iload_n C0 dX11_become_35 rfl, List.forall_mem_cons.mpr ⟨s_callV (ci := 11) C0 (kX11_canBecome l) dX11_become_36 rfl qX11_canBecome tw8_21 tw8_23 twp_91 tw1_12 tw8_24 rfl (by decide) (by decide), List.forall_mem_cons.mpr ⟨s_if_eq C0 dX11_become_39 rfl, List.forall_mem_cons.mpr ⟨s_iconst C0 dX11_become_42 rfl, List.forall_mem_cons.mpr ⟨s_goto C0 dX11_become_43 rfl, List.forall_mem_cons.mpr ⟨s_iconst C0 dX11_become_46 rfl, List.forall_mem_cons.mpr ⟨s_callS C0 (kX11_unless_ l) dX11_become_47 qX11_unless_ tw6_115 tw6_116 tw1_12 tw6_117 rfl (by decide) (by decide), List.forall_mem_cons.mpr ⟨s_callV (ci := 11) C0 (kX11_isRefused l) dX11_become_50 rfl qX11_isRefused tw6_118 tw6_120 twp_41 tw1_12 tw6_121 rfl (by decide) (by decide), List.forall_mem_cons.mpr ⟨s_if_eq C0 dX11_become_53 rfl, List.forall_mem_cons.mpr ⟨s_iconst C0 dX11_become_56 rfl, List.forall_mem_cons.mpr ⟨s_iret C0 hr dX11_become_57, List.forall_mem_cons.mpr ⟨s_aload_n C0 dX11_become_58 rfl, List.forall_mem_cons.mpr ⟨s_callV (ci := 11) C0 (kX11_remembers l) dX11_become_59 rfl qX11_remembers tw7_209 tw7_211 twp_86 tw1_12 tw7_212 rfl (by decide) (by decide), List.forall_mem_cons.mpr ⟨s_bipush C0 dX11_become_62 (by decide +kernel), List.forall_mem_cons.mpr ⟨s_bipush C0 dX11_become_64 (by decide +kernel), List.forall_mem_cons.mpr ⟨s_iload_n C0 dX11_become_66 rfl, List.forall_mem_cons.mpr ⟨s_imul C0 dX11_become_67, List.forall_mem_cons.mpr ⟨s_iadd C0 dX11_become_68, List.forall_mem_cons.mpr ⟨s_iload_n C0 dX11_become_69 rfl, List.forall_mem_cons.mpr ⟨s_iadd C0 dX11_become_70, fun _ h => absurd h List.not_mem_nil⟩⟩⟩⟩⟩⟩⟩⟩⟩⟩⟩⟩⟩⟩⟩⟩⟩⟩⟩⟩⟩⟩⟩⟩⟩⟩⟩⟩⟩⟩⟩⟩⟩⟩⟩⟩⟩⟩⟩⟩
set_option maxRecDepth 10000 in
theorem hX11_become_1 (l : Launch) {p : Program} {e : Env} {s : State} {m : MethodId} {args : Array Value} {below : List Frame} {meth : Method} {c : Code} {D : va_G} {ad adV : Nat → Nat} {cA : Nat → ClassId} {K : Kt} (C0 : Cx p s m args meth c D ad adV cA cX11_become 7 RX11) (hr : meth.sig.returnType = (some .int)) : ∀ q ∈ lX11_become_1, Sd p l e (rmd 2) s m args below meth c (MQ below (QQ D ad cA K) args s 0 0 (AA ad)) D ad cA 7 q.1 (opOf K q.2) := List.forall_mem_cons.mpr ⟨s_istore C0 dX11_become_71 (by decide), List.forall_mem_cons.mpr ⟨s_aload_n C0 dX11_become_73 rfl, List.forall_mem_cons.mpr ⟨s_get (ci := 11) (k := 7) C0 dX11_become_74 inX11 rfl (by decide) tw6_18, List.forall_mem_cons.mpr ⟨s_iload C0 dX11_become_77, List.forall_mem_cons.mpr ⟨s_iald C0 dX11_become_79, List.forall_mem_cons.mpr ⟨s_istore C0 dX11_become_80 (by decide), List.forall_mem_cons.mpr ⟨s_aload_n C0 dX11_become_82 rfl, List.forall_mem_cons.mpr ⟨s_get (ci := 11) (k := 7) C0 dX11_become_83 inX11 rfl (by decide) tw6_18, List.forall_mem_cons.mpr ⟨s_iload C0 dX11_become_86, List.forall_mem_cons.mpr ⟨s_iload_n C0 dX11_become_88 rfl, List.forall_mem_cons.mpr ⟨s_iast C0 dX11_become_89, List.forall_mem_cons.mpr ⟨s_aload_n C0 dX11_become_90 rfl, List.forall_mem_cons.mpr ⟨s_get (ci := 11) (k := 7) C0 dX11_become_91 inX11 rfl (by decide) tw6_18, List.forall_mem_cons.mpr ⟨s_bipush C0 dX11_become_94 (by decide +kernel), List.forall_mem_cons.mpr ⟨s_iload_n C0 dX11_become_96 rfl, List.forall_mem_cons.mpr ⟨s_iadd C0 dX11_become_97, List.forall_mem_cons.mpr ⟨s_aload_n C0 dX11_become_98 rfl, List.forall_mem_cons.mpr ⟨s_get (ci := 11) (k := 7) C0 dX11_become_99 inX11 rfl (by decide) tw6_18, List.forall_mem_cons.mpr ⟨s_bipush C0 dX11_become_102 (by decide +kernel), List.forall_mem_cons.mpr ⟨s_iload_n C0 dX11_become_104 rfl, List.forall_mem_cons.mpr ⟨s_iadd C0 dX11_become_105, List.forall_mem_cons.mpr ⟨s_iald C0 dX11_become_106, List.forall_mem_cons.mpr ⟨s_aload_n C0 dX11_become_107 rfl, List.forall_mem_cons.mpr ⟨s_get (ci := 11) (k := 7) C0 dX11_become_108 inX11 rfl (by decide) tw6_18, List.forall_mem_cons.mpr ⟨s_bipush C0 dX11_become_111 (by decide +kernel), List.forall_mem_cons.mpr ⟨s_iload_n C0 dX11_become_113 rfl, List.forall_mem_cons.mpr ⟨s_iadd C0 dX11_become_114, List.forall_mem_cons.mpr ⟨s_iald C0 dX11_become_115, List.forall_mem_cons.mpr ⟨s_callS C0 (kX11_lesser l) dX11_become_116 qX11_lesser tw7_82 tw7_83 tw1_12 tw7_84 rfl (by decide) (by decide), List.forall_mem_cons.mpr ⟨s_iast C0 dX11_become_119, List.forall_mem_cons.mpr ⟨s_iload C0 dX11_become_120, List.forall_mem_cons.mpr ⟨s_iret C0 hr dX11_become_122, fun _ h => absurd h List.not_mem_nil⟩⟩⟩⟩⟩⟩⟩⟩⟩⟩⟩⟩⟩⟩⟩⟩⟩⟩⟩⟩⟩⟩⟩⟩⟩⟩⟩⟩⟩⟩⟩⟩
def fX11_become : Mf := mf 7 (fun K => tl K lX11_become)
theorem kX11_become (l : Launch) : Okm l yX11_become cX11_become 7 (some .int) 2 fX11_become := Okm_tl (own := RX11) (by decide +kernel) rfl (fun C0 hr => List.forall_mem_append.mpr ⟨hX11_become_0 l C0 hr, hX11_become_1 l C0 hr⟩)
theorem dX11_rule_0 : decode cX11_rule 0 = .ok (.iload_n 1, 1) := by decide +kernel
theorem dX11_rule_1 : decode cX11_rule 1 = .ok (.ifCond .ne 14, 3) := by decide +kernel
theorem dX11_rule_4 : decode cX11_rule 4 = .ok (.iload_n 2, 1) := by decide +kernel
theorem dX11_rule_5 : decode cX11_rule 5 = .ok (.iconst 0, 1) := by decide +kernel
theorem dX11_rule_6 : decode cX11_rule 6 = .ok (.sipush 500, 3) := by decide +kernel
theorem dX11_rule_9 : decode cX11_rule 9 = .ok (.invokestatic 76, 3) := by decide +kernel
theorem dX11_rule_12 : decode cX11_rule 12 = .ok (.goto 25, 3) := by decide +kernel
theorem dX11_rule_15 : decode cX11_rule 15 = .ok (.iload_n 1, 1) := by decide +kernel
theorem dX11_rule_16 : decode cX11_rule 16 = .ok (.iconst 1, 1) := by decide +kernel
theorem dX11_rule_17 : decode cX11_rule 17 = .ok (.if_icmp .ne 13, 3) := by decide +kernel
theorem dX11_rule_20 : decode cX11_rule 20 = .ok (.iload_n 2, 1) := by decide +kernel
theorem dX11_rule_21 : decode cX11_rule 21 = .ok (.iconst 0, 1) := by decide +kernel
theorem dX11_rule_22 : decode cX11_rule 22 = .ok (.bipush 9, 2) := by decide +kernel
theorem dX11_rule_24 : decode cX11_rule 24 = .ok (.invokestatic 76, 3) := by decide +kernel
theorem dX11_rule_27 : decode cX11_rule 27 = .ok (.goto 10, 3) := by decide +kernel
theorem dX11_rule_30 : decode cX11_rule 30 = .ok (.iload_n 2, 1) := by decide +kernel
theorem dX11_rule_31 : decode cX11_rule 31 = .ok (.iconst 1, 1) := by decide +kernel
theorem dX11_rule_32 : decode cX11_rule 32 = .ok (.bipush 60, 2) := by decide +kernel
theorem dX11_rule_34 : decode cX11_rule 34 = .ok (.invokestatic 76, 3) := by decide +kernel
theorem dX11_rule_37 : decode cX11_rule 37 = .ok (.istore_n 3, 1) := by decide +kernel
theorem dX11_rule_38 : decode cX11_rule 38 = .ok (.aload_n 0, 1) := by decide +kernel
theorem dX11_rule_39 : decode cX11_rule 39 = .ok (.aload_n 0, 1) := by decide +kernel
theorem dX11_rule_40 : decode cX11_rule 40 = .ok (.getfield 171, 3) := by decide +kernel
theorem dX11_rule_43 : decode cX11_rule 43 = .ok (.ifCond .eq 16, 3) := by decide +kernel
theorem dX11_rule_46 : decode cX11_rule 46 = .ok (.iload_n 1, 1) := by decide +kernel
theorem dX11_rule_47 : decode cX11_rule 47 = .ok (.iconst 0, 1) := by decide +kernel
theorem dX11_rule_48 : decode cX11_rule 48 = .ok (.iconst 2, 1) := by decide +kernel
theorem dX11_rule_49 : decode cX11_rule 49 = .ok (.invokestatic 76, 3) := by decide +kernel
theorem dX11_rule_52 : decode cX11_rule 52 = .ok (.ifCond .eq 7, 3) := by decide +kernel
theorem dX11_rule_55 : decode cX11_rule 55 = .ok (.iconst 1, 1) := by decide +kernel
theorem dX11_rule_56 : decode cX11_rule 56 = .ok (.goto 4, 3) := by decide +kernel
theorem dX11_rule_59 : decode cX11_rule 59 = .ok (.iconst 0, 1) := by decide +kernel
theorem dX11_rule_60 : decode cX11_rule 60 = .ok (.iload_n 3, 1) := by decide +kernel
theorem dX11_rule_61 : decode cX11_rule 61 = .ok (.invokestatic 155, 3) := by decide +kernel
theorem dX11_rule_64 : decode cX11_rule 64 = .ok (.invokevirtual 159, 3) := by decide +kernel
theorem dX11_rule_67 : decode cX11_rule 67 = .ok (.ifCond .eq 5, 3) := by decide +kernel
theorem dX11_rule_70 : decode cX11_rule 70 = .ok (.iconst (-1), 1) := by decide +kernel
theorem dX11_rule_71 : decode cX11_rule 71 = .ok (.ireturn, 1) := by decide +kernel
theorem dX11_rule_72 : decode cX11_rule 72 = .ok (.aload_n 0, 1) := by decide +kernel
theorem dX11_rule_73 : decode cX11_rule 73 = .ok (.invokevirtual 295, 3) := by decide +kernel
theorem dX11_rule_76 : decode cX11_rule 76 = .ok (.aload_n 0, 1) := by decide +kernel
theorem dX11_rule_77 : decode cX11_rule 77 = .ok (.getfield 17, 3) := by decide +kernel
theorem dX11_rule_80 : decode cX11_rule 80 = .ok (.iconst 3, 1) := by decide +kernel
theorem dX11_rule_81 : decode cX11_rule 81 = .ok (.iload_n 1, 1) := by decide +kernel
theorem dX11_rule_82 : decode cX11_rule 82 = .ok (.iadd, 1) := by decide +kernel
theorem dX11_rule_83 : decode cX11_rule 83 = .ok (.iaload, 1) := by decide +kernel
theorem dX11_rule_84 : decode cX11_rule 84 = .ok (.istore 4, 2) := by decide +kernel
theorem dX11_rule_86 : decode cX11_rule 86 = .ok (.aload_n 0, 1) := by decide +kernel
theorem dX11_rule_87 : decode cX11_rule 87 = .ok (.getfield 17, 3) := by decide +kernel
theorem dX11_rule_90 : decode cX11_rule 90 = .ok (.iconst 3, 1) := by decide +kernel
theorem dX11_rule_91 : decode cX11_rule 91 = .ok (.iload_n 1, 1) := by decide +kernel
theorem dX11_rule_92 : decode cX11_rule 92 = .ok (.iadd, 1) := by decide +kernel
theorem dX11_rule_93 : decode cX11_rule 93 = .ok (.iload_n 2, 1) := by decide +kernel
theorem dX11_rule_94 : decode cX11_rule 94 = .ok (.iastore, 1) := by decide +kernel
theorem dX11_rule_95 : decode cX11_rule 95 = .ok (.iload 4, 2) := by decide +kernel
theorem dX11_rule_97 : decode cX11_rule 97 = .ok (.ireturn, 1) := by decide +kernel
def lX11_rule_0 : List (Nat × (Op ⊕ Nat)) := [(0, .inl (o_iload 1 1)), (1, .inl (o_if_ne 15 4)), (4, .inl (o_iload 2 5)), (5, .inl (o_pushI (nI 0) 6)), (6, .inl (o_pushI (nI 500) 9)), (9, .inl (o_callS fX11_in 3 12)), (12, .inl (o_goto 37)), (15, .inl (o_iload 1 16)), (16, .inl (o_pushI (nI 1) 17)), (17, .inl (o_icmp_ne 30 20)), (20, .inl (o_iload 2 21)), (21, .inl (o_pushI (nI 0) 22)), (22, .inl (o_pushI (nI 9) 24)), (24, .inl (o_callS fX11_in 3 27)), (27, .inl (o_goto 37)), (30, .inl (o_iload 2 31)), (31, .inl (o_pushI (nI 1) 32)), (32, .inl (o_pushI (nI 60) 34)), (34, .inl (o_callS fX11_in 3 37)), (37, .inl (o_istore 3 38)), (38, .inl (o_aload 0 39)), (39, .inl (o_aload 0 40)), (40, .inl (o_get 11 6 43)), (43, .inl (o_if_eq 59 46)), (46, .inl (o_iload 1 47)), (47, .inl (o_pushI (nI 0) 48)), (48, .inl (o_pushI (nI 2) 49)), (49, .inl (o_callS fX11_in 3 52)), (52, .inl (o_if_eq 59 55)), (55, .inl (o_pushI (nI 1) 56)), (56, .inl (o_goto 60)), (59, .inl (o_pushI (nI 0) 60)), (60, .inl (o_iload 3 61)), (61, .inl (o_callS fX11_unless_ 2 64)), (64, .inl (o_callV fX11_isRefused 1 11 67)), (67, .inl (o_if_eq 72 70)), (70, .inl (o_pushI ((-1)) 71)), (71, .inr 0), (72, .inl (o_aload 0 73)), (73, .inl (o_callV fX11_remembers 0 11 76))]
def lX11_rule_1 : List (Nat × (Op ⊕ Nat)) := [(76, .inl (o_aload 0 77)), (77, .inl (o_get 11 7 80)), (80, .inl (o_pushI (nI 3) 81)), (81, .inl (o_iload 1 82)), (82, .inl (o_iadd 83)), (83, .inl (o_iald 84)), (84, .inl (o_istore 4 86)), (86, .inl (o_aload 0 87)), (87, .inl (o_get 11 7 90)), (90, .inl (o_pushI (nI 3) 91)), (91, .inl (o_iload 1 92)), (92, .inl (o_iadd 93)), (93, .inl (o_iload 2 94)), (94, .inl (o_iast 95)), (95, .inl (o_iload 4 97)), (97, .inr 0)]
def lX11_rule : List (Nat × (Op ⊕ Nat)) := lX11_rule_0 ++ (lX11_rule_1)
theorem qX11_rule : yX11_rule.cls = RX11 ∧ yX11_rule.cls ≠ "java/lang/invoke/MethodHandle" ∧ yX11_rule.cls ≠ "java/lang/invoke/VarHandle" ∧ (parseMethodDescriptor yX11_rule.desc).map (fun d => d.parameters.length) = some 2 := by decide +kernel
set_option maxRecDepth 10000 in
theorem hX11_rule_0 (l : Launch) {p : Program} {e : Env} {s : State} {m : MethodId} {args : Array Value} {below : List Frame} {meth : Method} {c : Code} {D : va_G} {ad adV : Nat → Nat} {cA : Nat → ClassId} {K : Kt} (C0 : Cx p s m args meth c D ad adV cA cX11_rule 5 RX11) (hr : meth.sig.returnType = (some .int)) : ∀ q ∈ lX11_rule_0, Sd p l e (rmd 2) s m args below meth c (MQ below (QQ D ad cA K) args s 0 0 (AA ad)) D ad cA 5 q.1 (opOf K q.2) := List.forall_mem_cons.mpr ⟨s_iload_n C0 dX11_rule_0 rfl, List.forall_mem_cons.mpr ⟨s_if_ne C0 dX11_rule_1 rfl, List.forall_mem_cons.mpr ⟨s_iload_n C0 dX11_rule_4 rfl, List.forall_mem_cons.mpr ⟨s_iconst C0 dX11_rule_5 rfl, List.forall_mem_cons.mpr ⟨s_sipush C0 dX11_rule_6 (by decide +kernel), List.forall_mem_cons.mpr ⟨s_callS C0 (kX11_in l) dX11_rule_9 qX11_in tw6_112 tw6_113 tw1_12 tw6_114 rfl (by decide) (by decide), List.forall_mem_cons.mpr ⟨s_goto C0 dX11_rule_12 rfl, List.forall_mem_cons.mpr ⟨s_iload_n C0 dX11_rule_15 rfl, List.forall_mem_cons.mpr ⟨s_iconst C0 dX11_rule_16 rfl, List.forall_mem_cons.mpr ⟨s_icmp_ne C0 dX11_rule_17 rfl, List.forall_mem_cons.mpr ⟨s_iload_n C0 dX11_rule_20 rfl, List.forall_mem_cons.mpr ⟨s_iconst C0 dX11_rule_21 rfl, List.forall_mem_cons.mpr ⟨s_bipush C0 dX11_rule_22 (by decide +kernel), List.forall_mem_cons.mpr ⟨s_callS C0 (kX11_in l) dX11_rule_24 qX11_in tw6_112 tw6_113 tw1_12 tw6_114 rfl (by decide) (by decide), List.forall_mem_cons.mpr ⟨s_goto C0 dX11_rule_27 rfl, List.forall_mem_cons.mpr ⟨s_iload_n C0 dX11_rule_30 rfl, List.forall_mem_cons.mpr ⟨s_iconst C0 dX11_rule_31 rfl, List.forall_mem_cons.mpr ⟨s_bipush C0 dX11_rule_32 (by decide +kernel), List.forall_mem_cons.mpr ⟨s_callS C0 (kX11_in l) dX11_rule_34 qX11_in tw6_112 tw6_113 tw1_12 tw6_114 rfl (by decide) (by decide), List.forall_mem_cons.mpr ⟨s_istore_n C0 dX11_rule_37 rfl (by decide), List.forall_mem_cons.mpr ⟨s_aload_n C0 dX11_rule_38 rfl, List.forall_mem_cons.mpr ⟨s_aload_n C0 dX11_rule_39 rfl, List.forall_mem_cons.mpr ⟨s_get (ci := 11) (k := 6) C0 dX11_rule_40 inX11 rfl (by decide) tw6_17, List.forall_mem_cons.mpr ⟨s_if_eq C0 dX11_rule_43 rfl, List.forall_mem_cons.mpr ⟨s_iload_n C0 dX11_rule_46 rfl, List.forall_mem_cons.mpr ⟨s_iconst C0 dX11_rule_47 rfl, List.forall_mem_cons.mpr ⟨s_iconst C0 dX11_rule_48 rfl, List.forall_mem_cons.mpr ⟨s_callS C0 (kX11_in l) dX11_rule_49 qX11_in tw6_112 tw6_113 tw1_12 tw6_114 rfl (by decide) (by decide), List.forall_mem_cons.mpr ⟨s_if_eq C0 dX11_rule_52 rfl, List.forall_mem_cons.mpr ⟨s_iconst C0 dX11_rule_55 rfl, List.forall_mem_cons.mpr ⟨s_goto C0 dX11_rule_56 rfl, List.forall_mem_cons.mpr ⟨s_iconst C0 dX11_rule_59 rfl, List.forall_mem_cons.mpr ⟨s_iload_n C0 dX11_rule_60 rfl, List.forall_mem_cons.mpr ⟨s_callS C0 (kX11_unless_ l) dX11_rule_61 qX11_unless_ tw6_115 tw6_116 tw1_12 tw6_117 rfl (by decide) (by decide), List.forall_mem_cons.mpr ⟨s_callV (ci := 11) C0 (kX11_isRefused l) dX11_rule_64 rfl qX11_isRefused tw6_118 tw6_120 twp_41 tw1_12 tw6_121 rfl (by decide) (by decide), List.forall_mem_cons.mpr ⟨s_if_eq C0 dX11_rule_67 rfl, List.forall_mem_cons.mpr ⟨s_iconst C0 dX11_rule_70 rfl, List.forall_mem_cons.mpr ⟨s_iret C0 hr dX11_rule_71, List.forall_mem_cons.mpr ⟨s_aload_n C0 dX11_rule_72 rfl, List.forall_mem_cons.mpr ⟨s_callV (ci := 11) C0 (kX11_remembers l) dX11_rule_73 rfl qX11_remembers tw7_209 tw7_211 twp_86 tw1_12 tw7_212 rfl (by decide) (by decide), fun _ h => absurd h List.not_mem_nil⟩⟩⟩⟩⟩⟩⟩⟩⟩⟩⟩⟩⟩⟩⟩⟩⟩⟩⟩⟩⟩⟩⟩⟩⟩⟩⟩⟩⟩⟩⟩⟩⟩⟩⟩⟩⟩⟩⟩⟩
set_option maxRecDepth 10000 in
theorem hX11_rule_1 (l : Launch) {p : Program} {e : Env} {s : State} {m : MethodId} {args : Array Value} {below : List Frame} {meth : Method} {c : Code} {D : va_G} {ad adV : Nat → Nat} {cA : Nat → ClassId} {K : Kt} (C0 : Cx p s m args meth c D ad adV cA cX11_rule 5 RX11) (hr : meth.sig.returnType = (some .int)) : ∀ q ∈ lX11_rule_1, Sd p l e (rmd 2) s m args below meth c (MQ below (QQ D ad cA K) args s 0 0 (AA ad)) D ad cA 5 q.1 (opOf K q.2) := List.forall_mem_cons.mpr ⟨s_aload_n C0 dX11_rule_76 rfl, List.forall_mem_cons.mpr ⟨s_get (ci := 11) (k := 7) C0 dX11_rule_77 inX11 rfl (by decide) tw6_18, List.forall_mem_cons.mpr ⟨s_iconst C0 dX11_rule_80 rfl, List.forall_mem_cons.mpr ⟨s_iload_n C0 dX11_rule_81 rfl, List.forall_mem_cons.mpr ⟨s_iadd C0 dX11_rule_82, List.forall_mem_cons.mpr ⟨s_iald C0 dX11_rule_83, List.forall_mem_cons.mpr ⟨s_istore C0 dX11_rule_84 (by decide), List.forall_mem_cons.mpr ⟨s_aload_n C0 dX11_rule_86 rfl, List.forall_mem_cons.mpr ⟨s_get (ci := 11) (k := 7) C0 dX11_rule_87 inX11 rfl (by decide) tw6_18, List.forall_mem_cons.mpr ⟨s_iconst C0 dX11_rule_90 rfl, List.forall_mem_cons.mpr ⟨s_iload_n C0 dX11_rule_91 rfl, List.forall_mem_cons.mpr ⟨s_iadd C0 dX11_rule_92, List.forall_mem_cons.mpr ⟨s_iload_n C0 dX11_rule_93 rfl, List.forall_mem_cons.mpr ⟨s_iast C0 dX11_rule_94, List.forall_mem_cons.mpr ⟨s_iload C0 dX11_rule_95, List.forall_mem_cons.mpr ⟨s_iret C0 hr dX11_rule_97, fun _ h => absurd h List.not_mem_nil⟩⟩⟩⟩⟩⟩⟩⟩⟩⟩⟩⟩⟩⟩⟩⟩
def fX11_rule : Mf := mf 5 (fun K => tl K lX11_rule)
theorem kX11_rule (l : Launch) : Okm l yX11_rule cX11_rule 5 (some .int) 2 fX11_rule := Okm_tl (own := RX11) (by decide +kernel) rfl (fun C0 hr => List.forall_mem_append.mpr ⟨hX11_rule_0 l C0 hr, hX11_rule_1 l C0 hr⟩)
theorem dX11_rests_0 : decode cX11_rests 0 = .ok (.aload_n 0, 1) := by decide +kernel
theorem dX11_rests_1 : decode cX11_rests 1 = .ok (.iload_n 1, 1) := by decide +kernel
theorem dX11_rests_2 : decode cX11_rests 2 = .ok (.iconst 0, 1) := by decide +kernel
theorem dX11_rests_3 : decode cX11_rests 3 = .ok (.aload_n 0, 1) := by decide +kernel
theorem dX11_rests_4 : decode cX11_rests 4 = .ok (.getfield 17, 3) := by decide +kernel
theorem dX11_rests_7 : decode cX11_rests 7 = .ok (.iconst 2, 1) := by decide +kernel
theorem dX11_rests_8 : decode cX11_rests 8 = .ok (.iaload, 1) := by decide +kernel
theorem dX11_rests_9 : decode cX11_rests 9 = .ok (.iconst 1, 1) := by decide +kernel
theorem dX11_rests_10 : decode cX11_rests 10 = .ok (.isub, 1) := by decide +kernel
theorem dX11_rests_11 : decode cX11_rests 11 = .ok (.invokestatic 76, 3) := by decide +kernel
theorem dX11_rests_14 : decode cX11_rests 14 = .ok (.iload_n 2, 1) := by decide +kernel
theorem dX11_rests_15 : decode cX11_rests 15 = .ok (.iconst 0, 1) := by decide +kernel
theorem dX11_rests_16 : decode cX11_rests 16 = .ok (.bipush 9, 2) := by decide +kernel
theorem dX11_rests_18 : decode cX11_rests 18 = .ok (.invokestatic 76, 3) := by decide +kernel
theorem dX11_rests_21 : decode cX11_rests 21 = .ok (.invokestatic 155, 3) := by decide +kernel
theorem dX11_rests_24 : decode cX11_rests 24 = .ok (.invokevirtual 159, 3) := by decide +kernel
theorem dX11_rests_27 : decode cX11_rests 27 = .ok (.ifCond .eq 5, 3) := by decide +kernel
theorem dX11_rests_30 : decode cX11_rests 30 = .ok (.iconst (-1), 1) := by decide +kernel
theorem dX11_rests_31 : decode cX11_rests 31 = .ok (.ireturn, 1) := by decide +kernel
theorem dX11_rests_32 : decode cX11_rests 32 = .ok (.aload_n 0, 1) := by decide +kernel
theorem dX11_rests_33 : decode cX11_rests 33 = .ok (.invokevirtual 295, 3) := by decide +kernel
theorem dX11_rests_36 : decode cX11_rests 36 = .ok (.aload_n 0, 1) := by decide +kernel
theorem dX11_rests_37 : decode cX11_rests 37 = .ok (.getfield 17, 3) := by decide +kernel
theorem dX11_rests_40 : decode cX11_rests 40 = .ok (.sipush 251, 3) := by decide +kernel
theorem dX11_rests_43 : decode cX11_rests 43 = .ok (.iload_n 1, 1) := by decide +kernel
theorem dX11_rests_44 : decode cX11_rests 44 = .ok (.iadd, 1) := by decide +kernel
theorem dX11_rests_45 : decode cX11_rests 45 = .ok (.iaload, 1) := by decide +kernel
theorem dX11_rests_46 : decode cX11_rests 46 = .ok (.istore_n 3, 1) := by decide +kernel
theorem dX11_rests_47 : decode cX11_rests 47 = .ok (.aload_n 0, 1) := by decide +kernel
theorem dX11_rests_48 : decode cX11_rests 48 = .ok (.getfield 17, 3) := by decide +kernel
theorem dX11_rests_51 : decode cX11_rests 51 = .ok (.sipush 251, 3) := by decide +kernel
theorem dX11_rests_54 : decode cX11_rests 54 = .ok (.iload_n 1, 1) := by decide +kernel
theorem dX11_rests_55 : decode cX11_rests 55 = .ok (.iadd, 1) := by decide +kernel
theorem dX11_rests_56 : decode cX11_rests 56 = .ok (.iload_n 2, 1) := by decide +kernel
theorem dX11_rests_57 : decode cX11_rests 57 = .ok (.iastore, 1) := by decide +kernel
theorem dX11_rests_58 : decode cX11_rests 58 = .ok (.iload_n 3, 1) := by decide +kernel
theorem dX11_rests_59 : decode cX11_rests 59 = .ok (.ireturn, 1) := by decide +kernel
def lX11_rests : List (Nat × (Op ⊕ Nat)) := [(0, .inl (o_aload 0 1)), (1, .inl (o_iload 1 2)), (2, .inl (o_pushI (nI 0) 3)), (3, .inl (o_aload 0 4)), (4, .inl (o_get 11 7 7)), (7, .inl (o_pushI (nI 2) 8)), (8, .inl (o_iald 9)), (9, .inl (o_pushI (nI 1) 10)), (10, .inl (o_isub 11)), (11, .inl (o_callS fX11_in 3 14)), (14, .inl (o_iload 2 15)), (15, .inl (o_pushI (nI 0) 16)), (16, .inl (o_pushI (nI 9) 18)), (18, .inl (o_callS fX11_in 3 21)), (21, .inl (o_callS fX11_unless_ 2 24)), (24, .inl (o_callV fX11_isRefused 1 11 27)), (27, .inl (o_if_eq 32 30)), (30, .inl (o_pushI ((-1)) 31)), (31, .inr 0), (32, .inl (o_aload 0 33)), (33, .inl (o_callV fX11_remembers 0 11 36)), (36, .inl (o_aload 0 37)), (37, .inl (o_get 11 7 40)), (40, .inl (o_pushI (nI 251) 43)), (43, .inl (o_iload 1 44)), (44, .inl (o_iadd 45)), (45, .inl (o_iald 46)), (46, .inl (o_istore 3 47)), (47, .inl (o_aload 0 48)), (48, .inl (o_get 11 7 51)), (51, .inl (o_pushI (nI 251) 54)), (54, .inl (o_iload 1 55)), (55, .inl (o_iadd 56)), (56, .inl (o_iload 2 57)), (57, .inl (o_iast 58)), (58, .inl (o_iload 3 59)), (59, .inr 0)]
theorem qX11_rests : yX11_rests.cls = RX11 ∧ yX11_rests.cls ≠ "java/lang/invoke/MethodHandle" ∧ yX11_rests.cls ≠ "java/lang/invoke/VarHandle" ∧ (parseMethodDescriptor yX11_rests.desc).map (fun d => d.parameters.length) = some 2 := by decide +kernel
set_option maxRecDepth 10000 in
theorem hX11_rests_0 (l : Launch) {p : Program} {e : Env} {s : State} {m : MethodId} {args : Array Value} {below : List Frame} {meth : Method} {c : Code} {D : va_G} {ad adV : Nat → Nat} {cA : Nat → ClassId} {K : Kt} (C0 : Cx p s m args meth c D ad adV cA cX11_rests 4 RX11) (hr : meth.sig.returnType = (some .int)) : ∀ q ∈ lX11_rests, Sd p l e (rmd 2) s m args below meth c (MQ below (QQ D ad cA K) args s 0 0 (AA ad)) D ad cA 4 q.1 (opOf K q.2) := List.forall_mem_cons.mpr ⟨s_aload_n C0 dX11_rests_0 rfl, List.forall_mem_cons.mpr ⟨s_iload_n C0 dX11_rests_1 rfl, List.forall_mem_cons.mpr ⟨s_iconst C0 dX11_rests_2 rfl, List.forall_mem_cons.mpr ⟨s_aload_n C0 dX11_rests_3 rfl, List.forall_mem_cons.mpr ⟨s_get (ci := 11) (k := 7) C0 dX11_rests_4 inX11 rfl (by decide) tw6_18, List.forall_mem_cons.mpr ⟨s_iconst C0 dX11_rests_7 rfl, List.forall_mem_cons.mpr ⟨s_iald C0 dX11_rests_8, List.forall_mem_cons.mpr ⟨s_iconst C0 dX11_rests_9 rfl, List.forall_mem_cons.mpr ⟨s_isub C0 dX11_rests_10, List.forall_mem_cons.mpr ⟨s_callS C0 (kX11_in l) dX11_rests_11 qX11_in tw6_112 tw6_113 tw1_12 tw6_114 rfl (by decide) (by decide), List.forall_mem_cons.mpr ⟨s_iload_n C0 dX11_rests_14 rfl, List.forall_mem_cons.mpr ⟨s_iconst C0 dX11_rests_15 rfl, List.forall_mem_cons.mpr ⟨s_bipush C0 dX11_rests_16 (by decide +kernel), List.forall_mem_cons.mpr ⟨s_callS C0 (kX11_in l) dX11_rests_18 qX11_in tw6_112 tw6_113 tw1_12 tw6_114 rfl (by decide) (by decide), List.forall_mem_cons.mpr ⟨s_callS C0 (kX11_unless_ l) dX11_rests_21 qX11_unless_ tw6_115 tw6_116 tw1_12 tw6_117 rfl (by decide) (by decide), List.forall_mem_cons.mpr ⟨s_callV (ci := 11) C0 (kX11_isRefused l) dX11_rests_24 rfl qX11_isRefused tw6_118 tw6_120 twp_41 tw1_12 tw6_121 rfl (by decide) (by decide), List.forall_mem_cons.mpr ⟨s_if_eq C0 dX11_rests_27 rfl, List.forall_mem_cons.mpr ⟨s_iconst C0 dX11_rests_30 rfl, List.forall_mem_cons.mpr ⟨s_iret C0 hr dX11_rests_31, List.forall_mem_cons.mpr ⟨s_aload_n C0 dX11_rests_32 rfl, List.forall_mem_cons.mpr ⟨s_callV (ci := 11) C0 (kX11_remembers l) dX11_rests_33 rfl qX11_remembers tw7_209 tw7_211 twp_86 tw1_12 tw7_212 rfl (by decide) (by decide), List.forall_mem_cons.mpr ⟨s_aload_n C0 dX11_rests_36 rfl, List.forall_mem_cons.mpr ⟨s_get (ci := 11) (k := 7) C0 dX11_rests_37 inX11 rfl (by decide) tw6_18, List.forall_mem_cons.mpr ⟨s_sipush C0 dX11_rests_40 (by decide +kernel), List.forall_mem_cons.mpr ⟨s_iload_n C0 dX11_rests_43 rfl, List.forall_mem_cons.mpr ⟨s_iadd C0 dX11_rests_44, List.forall_mem_cons.mpr ⟨s_iald C0 dX11_rests_45, List.forall_mem_cons.mpr ⟨s_istore_n C0 dX11_rests_46 rfl (by decide), List.forall_mem_cons.mpr ⟨s_aload_n C0 dX11_rests_47 rfl, List.forall_mem_cons.mpr ⟨s_get (ci := 11) (k := 7) C0 dX11_rests_48 inX11 rfl (by decide) tw6_18, List.forall_mem_cons.mpr ⟨s_sipush C0 dX11_rests_51 (by decide +kernel), List.forall_mem_cons.mpr ⟨s_iload_n C0 dX11_rests_54 rfl, List.forall_mem_cons.mpr ⟨s_iadd C0 dX11_rests_55, List.forall_mem_cons.mpr ⟨s_iload_n C0 dX11_rests_56 rfl, List.forall_mem_cons.mpr ⟨s_iast C0 dX11_rests_57, List.forall_mem_cons.mpr ⟨s_iload_n C0 dX11_rests_58 rfl, List.forall_mem_cons.mpr ⟨s_iret C0 hr dX11_rests_59, fun _ h => absurd h List.not_mem_nil⟩⟩⟩⟩⟩⟩⟩⟩⟩⟩⟩⟩⟩⟩⟩⟩⟩⟩⟩⟩⟩⟩⟩⟩⟩⟩⟩⟩⟩⟩⟩⟩⟩⟩⟩⟩⟩
def fX11_rests : Mf := mf 4 (fun K => tl K lX11_rests)
theorem kX11_rests (l : Launch) : Okm l yX11_rests cX11_rests 4 (some .int) 2 fX11_rests := Okm_tl (own := RX11) (by decide +kernel) rfl (fun C0 hr => hX11_rests_0 l C0 hr)
theorem dX11_undo_0 : decode cX11_undo 0 = .ok (.aload_n 0, 1) := by decide +kernel
theorem dX11_undo_1 : decode cX11_undo 1 = .ok (.aload_n 0, 1) := by decide +kernel
theorem dX11_undo_2 : decode cX11_undo 2 = .ok (.getfield 171, 3) := by decide +kernel
theorem dX11_undo_5 : decode cX11_undo 5 = .ok (.ifCond .ne 7, 3) := by decide +kernel
theorem dX11_undo_8 : decode cX11_undo 8 = .ok (.iconst 1, 1) := by decide +kernel
theorem dX11_undo_9 : decode cX11_undo 9 = .ok (.goto 15, 3) := by decide +kernel
theorem dX11_undo_12 : decode cX11_undo 12 = .ok (.aload_n 0, 1) := by decide +kernel
theorem dX11_undo_13 : decode cX11_undo 13 = .ok (.getfield 175, 3) := by decide +kernel
theorem dX11_undo_16 : decode cX11_undo 16 = .ok (.ifCond .ne 7, 3) := by decide +kernel
theorem dX11_undo_19 : decode cX11_undo 19 = .ok (.iconst 5, 1) := by decide +kernel
theorem dX11_undo_20 : decode cX11_undo 20 = .ok (.goto 4, 3) := by decide +kernel
theorem dX11_undo_23 : decode cX11_undo 23 = .ok (.iconst 0, 1) := by decide +kernel
theorem dX11_undo_24 : decode cX11_undo 24 = .ok (.invokevirtual 159, 3) := by decide +kernel
theorem dX11_undo_27 : decode cX11_undo 27 = .ok (.ifCond .eq 5, 3) := by decide +kernel
theorem dX11_undo_30 : decode cX11_undo 30 = .ok (.iconst (-1), 1) := by decide +kernel
theorem dX11_undo_31 : decode cX11_undo 31 = .ok (.ireturn, 1) := by decide +kernel
theorem dX11_undo_32 : decode cX11_undo 32 = .ok (.aload_n 0, 1) := by decide +kernel
theorem dX11_undo_33 : decode cX11_undo 33 = .ok (.dup, 1) := by decide +kernel
theorem dX11_undo_34 : decode cX11_undo 34 = .ok (.getfield 175, 3) := by decide +kernel
theorem dX11_undo_37 : decode cX11_undo 37 = .ok (.iconst 1, 1) := by decide +kernel
theorem dX11_undo_38 : decode cX11_undo 38 = .ok (.isub, 1) := by decide +kernel
theorem dX11_undo_39 : decode cX11_undo 39 = .ok (.putfield 175, 3) := by decide +kernel
theorem dX11_undo_42 : decode cX11_undo 42 = .ok (.aload_n 0, 1) := by decide +kernel
theorem dX11_undo_43 : decode cX11_undo 43 = .ok (.getfield 17, 3) := by decide +kernel
theorem dX11_undo_46 : decode cX11_undo 46 = .ok (.iconst 0, 1) := by decide +kernel
theorem dX11_undo_47 : decode cX11_undo 47 = .ok (.aload_n 0, 1) := by decide +kernel
theorem dX11_undo_48 : decode cX11_undo 48 = .ok (.getfield 44, 3) := by decide +kernel
theorem dX11_undo_51 : decode cX11_undo 51 = .ok (.sipush 256, 3) := by decide +kernel
theorem dX11_undo_54 : decode cX11_undo 54 = .ok (.aload_n 0, 1) := by decide +kernel
theorem dX11_undo_55 : decode cX11_undo 55 = .ok (.getfield 175, 3) := by decide +kernel
theorem dX11_undo_58 : decode cX11_undo 58 = .ok (.imul, 1) := by decide +kernel
theorem dX11_undo_59 : decode cX11_undo 59 = .ok (.sipush 256, 3) := by decide +kernel
theorem dX11_undo_62 : decode cX11_undo 62 = .ok (.invokestatic 178, 3) := by decide +kernel
theorem dX11_undo_65 : decode cX11_undo 65 = .ok (.aload_n 0, 1) := by decide +kernel
theorem dX11_undo_66 : decode cX11_undo 66 = .ok (.getfield 175, 3) := by decide +kernel
theorem dX11_undo_69 : decode cX11_undo 69 = .ok (.ireturn, 1) := by decide +kernel
def lX11_undo : List (Nat × (Op ⊕ Nat)) := [(0, .inl (o_aload 0 1)), (1, .inl (o_aload 0 2)), (2, .inl (o_get 11 6 5)), (5, .inl (o_if_ne 12 8)), (8, .inl (o_pushI (nI 1) 9)), (9, .inl (o_goto 24)), (12, .inl (o_aload 0 13)), (13, .inl (o_get 11 24 16)), (16, .inl (o_if_ne 23 19)), (19, .inl (o_pushI (nI 5) 20)), (20, .inl (o_goto 24)), (23, .inl (o_pushI (nI 0) 24)), (24, .inl (o_callV fX11_isRefused 1 11 27)), (27, .inl (o_if_eq 32 30)), (30, .inl (o_pushI ((-1)) 31)), (31, .inr 0), (32, .inl (o_aload 0 33)), (33, .inl (o_dup 34)), (34, .inl (o_get 11 24 37)), (37, .inl (o_pushI (nI 1) 38)), (38, .inl (o_isub 39)), (39, .inl (o_putI 11 24 42)), (42, .inl (o_aload 0 43)), (43, .inl (o_get 11 7 46)), (46, .inl (o_pushI (nI 0) 47)), (47, .inl (o_aload 0 48)), (48, .inl (o_get 11 25 51)), (51, .inl (o_pushI (nI 256) 54)), (54, .inl (o_aload 0 55)), (55, .inl (o_get 11 24 58)), (58, .inl (o_imul 59)), (59, .inl (o_pushI (nI 256) 62)), (62, .inl (o_callS fX11_lays 5 65)), (65, .inl (o_aload 0 66)), (66, .inl (o_get 11 24 69)), (69, .inr 0)]
theorem qX11_undo : yX11_undo.cls = RX11 ∧ yX11_undo.cls ≠ "java/lang/invoke/MethodHandle" ∧ yX11_undo.cls ≠ "java/lang/invoke/VarHandle" ∧ (parseMethodDescriptor yX11_undo.desc).map (fun d => d.parameters.length) = some 0 := by decide +kernel
set_option maxRecDepth 10000 in
theorem hX11_undo_0 (l : Launch) {p : Program} {e : Env} {s : State} {m : MethodId} {args : Array Value} {below : List Frame} {meth : Method} {c : Code} {D : va_G} {ad adV : Nat → Nat} {cA : Nat → ClassId} {K : Kt} (C0 : Cx p s m args meth c D ad adV cA cX11_undo 1 RX11) (hr : meth.sig.returnType = (some .int)) : ∀ q ∈ lX11_undo, Sd p l e (rmd 1) s m args below meth c (MQ below (QQ D ad cA K) args s 0 0 (AA ad)) D ad cA 1 q.1 (opOf K q.2) := List.forall_mem_cons.mpr ⟨s_aload_n C0 dX11_undo_0 rfl, List.forall_mem_cons.mpr ⟨s_aload_n C0 dX11_undo_1 rfl, List.forall_mem_cons.mpr ⟨s_get (ci := 11) (k := 6) C0 dX11_undo_2 inX11 rfl (by decide) tw6_17, List.forall_mem_cons.mpr ⟨s_if_ne C0 dX11_undo_5 rfl, List.forall_mem_cons.mpr ⟨s_iconst C0 dX11_undo_8 rfl, List.forall_mem_cons.mpr ⟨s_goto C0 dX11_undo_9 rfl, List.forall_mem_cons.mpr ⟨s_aload_n C0 dX11_undo_12 rfl, List.forall_mem_cons.mpr ⟨s_get (ci := 11) (k := 24) C0 dX11_undo_13 inX11 rfl (by decide) tw6_35, List.forall_mem_cons.mpr ⟨s_if_ne C0 dX11_undo_16 rfl, List.forall_mem_cons.mpr ⟨s_iconst C0 dX11_undo_19 rfl, List.forall_mem_cons.mpr ⟨s_goto C0 dX11_undo_20 rfl, List.forall_mem_cons.mpr ⟨s_iconst C0 dX11_undo_23 rfl, List.forall_mem_cons.mpr ⟨s_callV (ci := 11) C0 (kX11_isRefused l) dX11_undo_24 rfl qX11_isRefused tw6_118 tw6_120 twp_41 tw1_12 tw6_121 rfl (by decide) (by decide), List.forall_mem_cons.mpr ⟨s_if_eq C0 dX11_undo_27 rfl, List.forall_mem_cons.mpr ⟨s_iconst C0 dX11_undo_30 rfl, List.forall_mem_cons.mpr ⟨s_iret C0 hr dX11_undo_31, List.forall_mem_cons.mpr ⟨s_aload_n C0 dX11_undo_32 rfl, List.forall_mem_cons.mpr ⟨s_dup C0 dX11_undo_33, List.forall_mem_cons.mpr ⟨s_get (ci := 11) (k := 24) C0 dX11_undo_34 inX11 rfl (by decide) tw6_35, List.forall_mem_cons.mpr ⟨s_iconst C0 dX11_undo_37 rfl, List.forall_mem_cons.mpr ⟨s_isub C0 dX11_undo_38, List.forall_mem_cons.mpr ⟨s_putI (ci := 11) (k := 24) C0 dX11_undo_39 inX11 tyX11_ok nmX11 rfl (by decide) rfl rfl tw6_35, List.forall_mem_cons.mpr ⟨s_aload_n C0 dX11_undo_42 rfl, List.forall_mem_cons.mpr ⟨s_get (ci := 11) (k := 7) C0 dX11_undo_43 inX11 rfl (by decide) tw6_18, List.forall_mem_cons.mpr ⟨s_iconst C0 dX11_undo_46 rfl, List.forall_mem_cons.mpr ⟨s_aload_n C0 dX11_undo_47 rfl, List.forall_mem_cons.mpr ⟨s_get (ci := 11) (k := 25) C0 dX11_undo_48 inX11 rfl (by decide) tw6_36, List.forall_mem_cons.mpr ⟨s_sipush C0 dX11_undo_51 (by decide +kernel), List.forall_mem_cons.mpr ⟨s_aload_n C0 dX11_undo_54 rfl, List.forall_mem_cons.mpr ⟨s_get (ci := 11) (k := 24) C0 dX11_undo_55 inX11 rfl (by decide) tw6_35, List.forall_mem_cons.mpr ⟨s_imul C0 dX11_undo_58, List.forall_mem_cons.mpr ⟨s_sipush C0 dX11_undo_59 (by decide +kernel), List.forall_mem_cons.mpr ⟨s_callS C0 (kX11_lays l) dX11_undo_62 qX11_lays tw6_188 tw6_189 tw1_12 tw6_190 rfl (by decide) (by decide), List.forall_mem_cons.mpr ⟨s_aload_n C0 dX11_undo_65 rfl, List.forall_mem_cons.mpr ⟨s_get (ci := 11) (k := 24) C0 dX11_undo_66 inX11 rfl (by decide) tw6_35, List.forall_mem_cons.mpr ⟨s_iret C0 hr dX11_undo_69, fun _ h => absurd h List.not_mem_nil⟩⟩⟩⟩⟩⟩⟩⟩⟩⟩⟩⟩⟩⟩⟩⟩⟩⟩⟩⟩⟩⟩⟩⟩⟩⟩⟩⟩⟩⟩⟩⟩⟩⟩⟩⟩
def fX11_undo : Mf := mf 1 (fun K => tl K lX11_undo)
theorem kX11_undo (l : Launch) : Okm l yX11_undo cX11_undo 1 (some .int) 1 fX11_undo := Okm_tl (own := RX11) (by decide +kernel) rfl (fun C0 hr => hX11_undo_0 l C0 hr)
theorem dX11_named_0 : decode cX11_named 0 = .ok (.aload_n 0, 1) := by decide +kernel
theorem dX11_named_1 : decode cX11_named 1 = .ok (.iconst 0, 1) := by decide +kernel
theorem dX11_named_2 : decode cX11_named 2 = .ok (.putfield 47, 3) := by decide +kernel
theorem dX11_named_5 : decode cX11_named 5 = .ok (.iconst 0, 1) := by decide +kernel
theorem dX11_named_6 : decode cX11_named 6 = .ok (.istore_n 2, 1) := by decide +kernel
theorem dX11_named_7 : decode cX11_named 7 = .ok (.iload_n 1, 1) := by decide +kernel
theorem dX11_named_8 : decode cX11_named 8 = .ok (.iconst 0, 1) := by decide +kernel
theorem dX11_named_9 : decode cX11_named 9 = .ok (.aload_n 0, 1) := by decide +kernel
theorem dX11_named_10 : decode cX11_named 10 = .ok (.getfield 53, 3) := by decide +kernel
theorem dX11_named_13 : decode cX11_named 13 = .ok (.invokestatic 76, 3) := by decide +kernel
theorem dX11_named_16 : decode cX11_named 16 = .ok (.ifCond .eq 7, 3) := by decide +kernel
theorem dX11_named_19 : decode cX11_named 19 = .ok (.iload_n 1, 1) := by decide +kernel
theorem dX11_named_20 : decode cX11_named 20 = .ok (.goto 4, 3) := by decide +kernel
theorem dX11_named_23 : decode cX11_named 23 = .ok (.iconst 0, 1) := by decide +kernel
theorem dX11_named_24 : decode cX11_named 24 = .ok (.istore_n 3, 1) := by decide +kernel
theorem dX11_named_25 : decode cX11_named 25 = .ok (.iload_n 2, 1) := by decide +kernel
theorem dX11_named_26 : decode cX11_named 26 = .ok (.iload_n 3, 1) := by decide +kernel
theorem dX11_named_27 : decode cX11_named 27 = .ok (.if_icmp .ge 20, 3) := by decide +kernel
theorem dX11_named_30 : decode cX11_named 30 = .ok (.aload_n 0, 1) := by decide +kernel
theorem dX11_named_31 : decode cX11_named 31 = .ok (.getfield 13, 3) := by decide +kernel
theorem dX11_named_34 : decode cX11_named 34 = .ok (.iload_n 2, 1) := by decide +kernel
theorem dX11_named_35 : decode cX11_named 35 = .ok (.iaload, 1) := by decide +kernel
theorem dX11_named_36 : decode cX11_named 36 = .ok (.bipush 32, 2) := by decide +kernel
theorem dX11_named_38 : decode cX11_named 38 = .ok (.if_icmp .ne 9, 3) := by decide +kernel
theorem dX11_named_41 : decode cX11_named 41 = .ok (.iinc 2 1, 3) := by decide +kernel
theorem dX11_named_44 : decode cX11_named 44 = .ok (.goto (-19), 3) := by decide +kernel
theorem dX11_named_47 : decode cX11_named 47 = .ok (.iload_n 3, 1) := by decide +kernel
theorem dX11_named_48 : decode cX11_named 48 = .ok (.iload_n 2, 1) := by decide +kernel
theorem dX11_named_49 : decode cX11_named 49 = .ok (.if_icmp .le 22, 3) := by decide +kernel
theorem dX11_named_52 : decode cX11_named 52 = .ok (.aload_n 0, 1) := by decide +kernel
theorem dX11_named_53 : decode cX11_named 53 = .ok (.getfield 13, 3) := by decide +kernel
theorem dX11_named_56 : decode cX11_named 56 = .ok (.iload_n 3, 1) := by decide +kernel
theorem dX11_named_57 : decode cX11_named 57 = .ok (.iconst 1, 1) := by decide +kernel
theorem dX11_named_58 : decode cX11_named 58 = .ok (.isub, 1) := by decide +kernel
theorem dX11_named_59 : decode cX11_named 59 = .ok (.iaload, 1) := by decide +kernel
theorem dX11_named_60 : decode cX11_named 60 = .ok (.bipush 32, 2) := by decide +kernel
theorem dX11_named_62 : decode cX11_named 62 = .ok (.if_icmp .ne 9, 3) := by decide +kernel
theorem dX11_named_65 : decode cX11_named 65 = .ok (.iinc 3 (-1), 3) := by decide +kernel
theorem dX11_named_68 : decode cX11_named 68 = .ok (.goto (-21), 3) := by decide +kernel
theorem dX11_named_71 : decode cX11_named 71 = .ok (.iconst 0, 1) := by decide +kernel
theorem dX11_named_72 : decode cX11_named 72 = .ok (.istore 4, 2) := by decide +kernel
theorem dX11_named_74 : decode cX11_named 74 = .ok (.iload_n 3, 1) := by decide +kernel
theorem dX11_named_75 : decode cX11_named 75 = .ok (.iload_n 2, 1) := by decide +kernel
theorem dX11_named_76 : decode cX11_named 76 = .ok (.if_icmp .le 41, 3) := by decide +kernel
theorem dX11_named_79 : decode cX11_named 79 = .ok (.iload 4, 2) := by decide +kernel
theorem dX11_named_81 : decode cX11_named 81 = .ok (.aload_n 0, 1) := by decide +kernel
theorem dX11_named_82 : decode cX11_named 82 = .ok (.getfield 17, 3) := by decide +kernel
theorem dX11_named_85 : decode cX11_named 85 = .ok (.iconst 0, 1) := by decide +kernel
theorem dX11_named_86 : decode cX11_named 86 = .ok (.iaload, 1) := by decide +kernel
theorem dX11_named_87 : decode cX11_named 87 = .ok (.if_icmp .ge 30, 3) := by decide +kernel
theorem dX11_named_90 : decode cX11_named 90 = .ok (.aload_n 0, 1) := by decide +kernel
theorem dX11_named_91 : decode cX11_named 91 = .ok (.aload_n 0, 1) := by decide +kernel
theorem dX11_named_92 : decode cX11_named 92 = .ok (.getfield 23, 3) := by decide +kernel
theorem dX11_named_95 : decode cX11_named 95 = .ok (.bipush 7, 2) := by decide +kernel
theorem dX11_named_97 : decode cX11_named 97 = .ok (.iload 4, 2) := by decide +kernel
theorem dX11_named_99 : decode cX11_named 99 = .ok (.imul, 1) := by decide +kernel
theorem dX11_named_100 : decode cX11_named 100 = .ok (.iload_n 2, 1) := by decide +kernel
theorem dX11_named_101 : decode cX11_named 101 = .ok (.iload_n 3, 1) := by decide +kernel
theorem dX11_named_102 : decode cX11_named 102 = .ok (.invokevirtual 130, 3) := by decide +kernel
theorem dX11_named_105 : decode cX11_named 105 = .ok (.ifCond .eq 6, 3) := by decide +kernel
theorem dX11_named_108 : decode cX11_named 108 = .ok (.iload 4, 2) := by decide +kernel
theorem dX11_named_110 : decode cX11_named 110 = .ok (.ireturn, 1) := by decide +kernel
theorem dX11_named_111 : decode cX11_named 111 = .ok (.iinc 4 1, 3) := by decide +kernel
theorem dX11_named_114 : decode cX11_named 114 = .ok (.goto (-40), 3) := by decide +kernel
theorem dX11_named_117 : decode cX11_named 117 = .ok (.aload_n 0, 1) := by decide +kernel
theorem dX11_named_118 : decode cX11_named 118 = .ok (.iconst 1, 1) := by decide +kernel
theorem dX11_named_119 : decode cX11_named 119 = .ok (.putfield 47, 3) := by decide +kernel
theorem dX11_named_122 : decode cX11_named 122 = .ok (.iconst 0, 1) := by decide +kernel
theorem dX11_named_123 : decode cX11_named 123 = .ok (.ireturn, 1) := by decide +kernel
def lX11_named_0 : List (Nat × (Op ⊕ Nat)) := [(0, .inl (o_aload 0 1)), (1, .inl (o_pushI (nI 0) 2)), (2, .inl (o_putI 11 0 5)), (5, .inl (o_pushI (nI 0) 6)), (6, .inl (o_istore 2 7)), (7, .inl (o_iload 1 8)), (8, .inl (o_pushI (nI 0) 9)), (9, .inl (o_aload 0 10)), (10, .inl (o_get 11 5 13)), (13, .inl (o_callS fX11_in 3 16)), (16, .inl (o_if_eq 23 19)), (19, .inl (o_iload 1 20)), (20, .inl (o_goto 24)), (23, .inl (o_pushI (nI 0) 24)), (24, .inl (o_istore 3 25)), (25, .inl (o_iload 2 26)), (26, .inl (o_iload 3 27)), (27, .inl (o_icmp_ge 47 30)), (30, .inl (o_aload 0 31)), (31, .inl (o_get 11 4 34)), (34, .inl (o_iload 2 35)), (35, .inl (o_iald 36)), (36, .inl (o_pushI (nI 32) 38)), (38, .inl (o_icmp_ne 47 41)), (41, .inl (o_iinc 2 (nI 1) 44)), (44, .inl (o_goto 25)), (47, .inl (o_iload 3 48)), (48, .inl (o_iload 2 49)), (49, .inl (o_icmp_le 71 52)), (52, .inl (o_aload 0 53)), (53, .inl (o_get 11 4 56)), (56, .inl (o_iload 3 57)), (57, .inl (o_pushI (nI 1) 58)), (58, .inl (o_isub 59)), (59, .inl (o_iald 60)), (60, .inl (o_pushI (nI 32) 62)), (62, .inl (o_icmp_ne 71 65)), (65, .inl (o_iinc 3 ((-1)) 68)), (68, .inl (o_goto 47)), (71, .inl (o_pushI (nI 0) 72))]
def lX11_named_1 : List (Nat × (Op ⊕ Nat)) := [(72, .inl (o_istore 4 74)), (74, .inl (o_iload 3 75)), (75, .inl (o_iload 2 76)), (76, .inl (o_icmp_le 117 79)), (79, .inl (o_iload 4 81)), (81, .inl (o_aload 0 82)), (82, .inl (o_get 11 7 85)), (85, .inl (o_pushI (nI 0) 86)), (86, .inl (o_iald 87)), (87, .inl (o_icmp_ge 117 90)), (90, .inl (o_aload 0 91)), (91, .inl (o_aload 0 92)), (92, .inl (o_get 11 9 95)), (95, .inl (o_pushI (nI 7) 97)), (97, .inl (o_iload 4 99)), (99, .inl (o_imul 100)), (100, .inl (o_iload 2 101)), (101, .inl (o_iload 3 102)), (102, .inl (o_callV fX11_isAt 4 11 105)), (105, .inl (o_if_eq 111 108)), (108, .inl (o_iload 4 110)), (110, .inr 0), (111, .inl (o_iinc 4 (nI 1) 114)), (114, .inl (o_goto 74)), (117, .inl (o_aload 0 118)), (118, .inl (o_pushI (nI 1) 119)), (119, .inl (o_putI 11 0 122)), (122, .inl (o_pushI (nI 0) 123)), (123, .inr 0)]
def lX11_named : List (Nat × (Op ⊕ Nat)) := lX11_named_0 ++ (lX11_named_1)
theorem qX11_named : yX11_named.cls = RX11 ∧ yX11_named.cls ≠ "java/lang/invoke/MethodHandle" ∧ yX11_named.cls ≠ "java/lang/invoke/VarHandle" ∧ (parseMethodDescriptor yX11_named.desc).map (fun d => d.parameters.length) = some 1 := by decide +kernel
set_option maxRecDepth 10000 in
theorem hX11_named_0 (l : Launch) {p : Program} {e : Env} {s : State} {m : MethodId} {args : Array Value} {below : List Frame} {meth : Method} {c : Code} {D : va_G} {ad adV : Nat → Nat} {cA : Nat → ClassId} {K : Kt} (C0 : Cx p s m args meth c D ad adV cA cX11_named 5 RX11) (hr : meth.sig.returnType = (some .int)) : ∀ q ∈ lX11_named_0, Sd p l e (rmd 1) s m args below meth c (MQ below (QQ D ad cA K) args s 0 0 (AA ad)) D ad cA 5 q.1 (opOf K q.2) := List.forall_mem_cons.mpr ⟨s_aload_n C0 dX11_named_0 rfl, List.forall_mem_cons.mpr ⟨s_iconst C0 dX11_named_1 rfl, List.forall_mem_cons.mpr ⟨s_putI (ci := 11) (k := 0) C0 dX11_named_2 inX11 tyX11_ok nmX11 rfl (by decide) rfl rfl tw6_11, List.forall_mem_cons.mpr ⟨s_iconst C0 dX11_named_5 rfl, List.forall_mem_cons.mpr ⟨s_istore_n C0 dX11_named_6 rfl (by decide), List.forall_mem_cons.mpr ⟨s_iload_n C0 dX11_named_7 rfl, List.forall_mem_cons.mpr ⟨s_iconst C0 dX11_named_8 rfl, List.forall_mem_cons.mpr ⟨s_aload_n C0 dX11_named_9 rfl, List.forall_mem_cons.mpr ⟨s_get (ci := 11) (k := 5) C0 dX11_named_10 inX11 rfl (by decide) tw6_16, List.forall_mem_cons.mpr ⟨s_callS C0 (kX11_in l) dX11_named_13 qX11_in tw6_112 tw6_113 tw1_12 tw6_114 rfl (by decide) (by decide), List.forall_mem_cons.mpr ⟨s_if_eq C0 dX11_named_16 rfl, List.forall_mem_cons.mpr ⟨s_iload_n C0 dX11_named_19 rfl, List.forall_mem_cons.mpr ⟨s_goto C0 dX11_named_20 rfl, List.forall_mem_cons.mpr ⟨s_iconst C0 dX11_named_23 rfl, List.forall_mem_cons.mpr ⟨s_istore_n C0 dX11_named_24 rfl (by decide), List.forall_mem_cons.mpr ⟨s_iload_n C0 dX11_named_25 rfl, List.forall_mem_cons.mpr ⟨s_iload_n C0 dX11_named_26 rfl, List.forall_mem_cons.mpr ⟨s_icmp_ge C0 dX11_named_27 rfl, List.forall_mem_cons.mpr ⟨s_aload_n C0 dX11_named_30 rfl, List.forall_mem_cons.mpr ⟨s_get (ci := 11) (k := 4) C0 dX11_named_31 inX11 rfl (by decide) tw6_15, List.forall_mem_cons.mpr ⟨s_iload_n C0 dX11_named_34 rfl, List.forall_mem_cons.mpr ⟨s_iald C0 dX11_named_35, List.forall_mem_cons.mpr ⟨s_bipush C0 dX11_named_36 (by decide +kernel), List.forall_mem_cons.mpr ⟨s_icmp_ne C0 dX11_named_38 rfl, List.forall_mem_cons.mpr ⟨s_iinc C0 dX11_named_41 rfl (by decide), List.forall_mem_cons.mpr ⟨s_goto C0 dX11_named_44 rfl, List.forall_mem_cons.mpr ⟨s_iload_n C0 dX11_named_47 rfl, List.forall_mem_cons.mpr ⟨s_iload_n C0 dX11_named_48 rfl, List.forall_mem_cons.mpr ⟨s_icmp_le C0 dX11_named_49 rfl, List.forall_mem_cons.mpr ⟨s_aload_n C0 dX11_named_52 rfl, List.forall_mem_cons.mpr ⟨s_get (ci := 11) (k := 4) C0 dX11_named_53 inX11 rfl (by decide) tw6_15, List.forall_mem_cons.mpr ⟨s_iload_n C0 dX11_named_56 rfl, List.forall_mem_cons.mpr ⟨s_iconst C0 dX11_named_57 rfl, List.forall_mem_cons.mpr ⟨s_isub C0 dX11_named_58, List.forall_mem_cons.mpr ⟨s_iald C0 dX11_named_59, List.forall_mem_cons.mpr ⟨s_bipush C0 dX11_named_60 (by decide +kernel), List.forall_mem_cons.mpr ⟨s_icmp_ne C0 dX11_named_62 rfl, List.forall_mem_cons.mpr ⟨s_iinc C0 dX11_named_65 rfl (by decide), List.forall_mem_cons.mpr ⟨s_goto C0 dX11_named_68 rfl, List.forall_mem_cons.mpr ⟨s_iconst C0 dX11_named_71 rfl, fun _ h => absurd h List.not_mem_nil⟩⟩⟩⟩⟩⟩⟩⟩⟩⟩⟩⟩⟩⟩⟩⟩⟩⟩⟩⟩⟩⟩⟩⟩⟩⟩⟩⟩⟩⟩⟩⟩⟩⟩⟩⟩⟩⟩⟩⟩
set_option maxRecDepth 10000 in
theorem hX11_named_1 (l : Launch) {p : Program} {e : Env} {s : State} {m : MethodId} {args : Array Value} {below : List Frame} {meth : Method} {c : Code} {D : va_G} {ad adV : Nat → Nat} {cA : Nat → ClassId} {K : Kt} (C0 : Cx p s m args meth c D ad adV cA cX11_named 5 RX11) (hr : meth.sig.returnType = (some .int)) : ∀ q ∈ lX11_named_1, Sd p l e (rmd 1) s m args below meth c (MQ below (QQ D ad cA K) args s 0 0 (AA ad)) D ad cA 5 q.1 (opOf K q.2) := List.forall_mem_cons.mpr ⟨s_istore C0 dX11_named_72 (by decide), List.forall_mem_cons.mpr ⟨s_iload_n C0 dX11_named_74 rfl, List.forall_mem_cons.mpr ⟨s_iload_n C0 dX11_named_75 rfl, List.forall_mem_cons.mpr ⟨s_icmp_le C0 dX11_named_76 rfl, List.forall_mem_cons.mpr ⟨s_iload C0 dX11_named_79, List.forall_mem_cons.mpr ⟨s_aload_n C0 dX11_named_81 rfl, List.forall_mem_cons.mpr ⟨s_get (ci := 11) (k := 7) C0 dX11_named_82 inX11 rfl (by decide) tw6_18, List.forall_mem_cons.mpr ⟨s_iconst C0 dX11_named_85 rfl, List.forall_mem_cons.mpr ⟨s_iald C0 dX11_named_86, List.forall_mem_cons.mpr ⟨s_icmp_ge C0 dX11_named_87 rfl, List.forall_mem_cons.mpr ⟨s_aload_n C0 dX11_named_90 rfl, List.forall_mem_cons.mpr ⟨s_aload_n C0 dX11_named_91 rfl, List.forall_mem_cons.mpr ⟨s_get (ci := 11) (k := 9) C0 dX11_named_92 inX11 rfl (by decide) tw6_20, List.forall_mem_cons.mpr ⟨s_bipush C0 dX11_named_95 (by decide +kernel), List.forall_mem_cons.mpr ⟨s_iload C0 dX11_named_97, List.forall_mem_cons.mpr ⟨s_imul C0 dX11_named_99, List.forall_mem_cons.mpr ⟨s_iload_n C0 dX11_named_100 rfl, List.forall_mem_cons.mpr ⟨s_iload_n C0 dX11_named_101 rfl, List.forall_mem_cons.mpr ⟨s_callV (ci := 11) C0 (kX11_isAt l) dX11_named_102 rfl qX11_isAt tw6_164 tw6_166 twp_50 tw1_12 tw6_167 rfl (by decide) (by decide), List.forall_mem_cons.mpr ⟨s_if_eq C0 dX11_named_105 rfl, List.forall_mem_cons.mpr ⟨s_iload C0 dX11_named_108, List.forall_mem_cons.mpr ⟨s_iret C0 hr dX11_named_110, List.forall_mem_cons.mpr ⟨s_iinc C0 dX11_named_111 rfl (by decide), List.forall_mem_cons.mpr ⟨s_goto C0 dX11_named_114 rfl, List.forall_mem_cons.mpr ⟨s_aload_n C0 dX11_named_117 rfl, List.forall_mem_cons.mpr ⟨s_iconst C0 dX11_named_118 rfl, List.forall_mem_cons.mpr ⟨s_putI (ci := 11) (k := 0) C0 dX11_named_119 inX11 tyX11_ok nmX11 rfl (by decide) rfl rfl tw6_11, List.forall_mem_cons.mpr ⟨s_iconst C0 dX11_named_122 rfl, List.forall_mem_cons.mpr ⟨s_iret C0 hr dX11_named_123, fun _ h => absurd h List.not_mem_nil⟩⟩⟩⟩⟩⟩⟩⟩⟩⟩⟩⟩⟩⟩⟩⟩⟩⟩⟩⟩⟩⟩⟩⟩⟩⟩⟩⟩⟩
def fX11_named : Mf := mf 5 (fun K => tl K lX11_named)
theorem kX11_named (l : Launch) : Okm l yX11_named cX11_named 5 (some .int) 1 fX11_named := Okm_tl (own := RX11) (by decide +kernel) rfl (fun C0 hr => List.forall_mem_append.mpr ⟨hX11_named_0 l C0 hr, hX11_named_1 l C0 hr⟩)
