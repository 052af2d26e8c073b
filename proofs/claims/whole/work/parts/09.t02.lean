theorem dX8_nextToken_0 : decode cX8_nextToken 0 = .ok (.aload_n 0, 1) := by decide +kernel
theorem dX8_nextToken_1 : decode cX8_nextToken 1 = .ok (.getfield 22, 3) := by decide +kernel
theorem dX8_nextToken_4 : decode cX8_nextToken 4 = .ok (.aload_n 0, 1) := by decide +kernel
theorem dX8_nextToken_5 : decode cX8_nextToken 5 = .ok (.getfield 19, 3) := by decide +kernel
theorem dX8_nextToken_8 : decode cX8_nextToken 8 = .ok (.if_icmp .ge 30, 3) := by decide +kernel
theorem dX8_nextToken_11 : decode cX8_nextToken 11 = .ok (.aload_n 0, 1) := by decide +kernel
theorem dX8_nextToken_12 : decode cX8_nextToken 12 = .ok (.getfield 9, 3) := by decide +kernel
theorem dX8_nextToken_15 : decode cX8_nextToken 15 = .ok (.aload_n 0, 1) := by decide +kernel
theorem dX8_nextToken_16 : decode cX8_nextToken 16 = .ok (.getfield 22, 3) := by decide +kernel
theorem dX8_nextToken_19 : decode cX8_nextToken 19 = .ok (.baload, 1) := by decide +kernel
theorem dX8_nextToken_20 : decode cX8_nextToken 20 = .ok (.bipush 32, 2) := by decide +kernel
theorem dX8_nextToken_22 : decode cX8_nextToken 22 = .ok (.if_icmp .ne 16, 3) := by decide +kernel
theorem dX8_nextToken_25 : decode cX8_nextToken 25 = .ok (.aload_n 0, 1) := by decide +kernel
theorem dX8_nextToken_26 : decode cX8_nextToken 26 = .ok (.dup, 1) := by decide +kernel
theorem dX8_nextToken_27 : decode cX8_nextToken 27 = .ok (.getfield 22, 3) := by decide +kernel
theorem dX8_nextToken_30 : decode cX8_nextToken 30 = .ok (.iconst 1, 1) := by decide +kernel
theorem dX8_nextToken_31 : decode cX8_nextToken 31 = .ok (.iadd, 1) := by decide +kernel
theorem dX8_nextToken_32 : decode cX8_nextToken 32 = .ok (.putfield 22, 3) := by decide +kernel
theorem dX8_nextToken_35 : decode cX8_nextToken 35 = .ok (.goto (-35), 3) := by decide +kernel
theorem dX8_nextToken_38 : decode cX8_nextToken 38 = .ok (.aload_n 0, 1) := by decide +kernel
theorem dX8_nextToken_39 : decode cX8_nextToken 39 = .ok (.aload_n 0, 1) := by decide +kernel
theorem dX8_nextToken_40 : decode cX8_nextToken 40 = .ok (.getfield 22, 3) := by decide +kernel
theorem dX8_nextToken_43 : decode cX8_nextToken 43 = .ok (.putfield 28, 3) := by decide +kernel
theorem dX8_nextToken_46 : decode cX8_nextToken 46 = .ok (.aload_n 0, 1) := by decide +kernel
theorem dX8_nextToken_47 : decode cX8_nextToken 47 = .ok (.getfield 22, 3) := by decide +kernel
theorem dX8_nextToken_50 : decode cX8_nextToken 50 = .ok (.aload_n 0, 1) := by decide +kernel
theorem dX8_nextToken_51 : decode cX8_nextToken 51 = .ok (.getfield 19, 3) := by decide +kernel
theorem dX8_nextToken_54 : decode cX8_nextToken 54 = .ok (.if_icmp .lt 11, 3) := by decide +kernel
theorem dX8_nextToken_57 : decode cX8_nextToken 57 = .ok (.aload_n 0, 1) := by decide +kernel
theorem dX8_nextToken_58 : decode cX8_nextToken 58 = .ok (.iconst 0, 1) := by decide +kernel
theorem dX8_nextToken_59 : decode cX8_nextToken 59 = .ok (.putfield 25, 3) := by decide +kernel
theorem dX8_nextToken_62 : decode cX8_nextToken 62 = .ok (.goto 80, 3) := by decide +kernel
theorem dX8_nextToken_65 : decode cX8_nextToken 65 = .ok (.aload_n 0, 1) := by decide +kernel
theorem dX8_nextToken_66 : decode cX8_nextToken 66 = .ok (.getfield 9, 3) := by decide +kernel
theorem dX8_nextToken_69 : decode cX8_nextToken 69 = .ok (.aload_n 0, 1) := by decide +kernel
theorem dX8_nextToken_70 : decode cX8_nextToken 70 = .ok (.getfield 22, 3) := by decide +kernel
theorem dX8_nextToken_73 : decode cX8_nextToken 73 = .ok (.baload, 1) := by decide +kernel
theorem dX8_nextToken_74 : decode cX8_nextToken 74 = .ok (.invokestatic 47, 3) := by decide +kernel
theorem dX8_nextToken_77 : decode cX8_nextToken 77 = .ok (.ifCond .eq 10, 3) := by decide +kernel
theorem dX8_nextToken_80 : decode cX8_nextToken 80 = .ok (.aload_n 0, 1) := by decide +kernel
theorem dX8_nextToken_81 : decode cX8_nextToken 81 = .ok (.invokevirtual 51, 3) := by decide +kernel
theorem dX8_nextToken_84 : decode cX8_nextToken 84 = .ok (.goto 58, 3) := by decide +kernel
theorem dX8_nextToken_87 : decode cX8_nextToken 87 = .ok (.aload_n 0, 1) := by decide +kernel
theorem dX8_nextToken_88 : decode cX8_nextToken 88 = .ok (.getfield 9, 3) := by decide +kernel
theorem dX8_nextToken_91 : decode cX8_nextToken 91 = .ok (.aload_n 0, 1) := by decide +kernel
theorem dX8_nextToken_92 : decode cX8_nextToken 92 = .ok (.getfield 22, 3) := by decide +kernel
theorem dX8_nextToken_95 : decode cX8_nextToken 95 = .ok (.baload, 1) := by decide +kernel
theorem dX8_nextToken_96 : decode cX8_nextToken 96 = .ok (.invokestatic 54, 3) := by decide +kernel
theorem dX8_nextToken_99 : decode cX8_nextToken 99 = .ok (.ifCond .eq 10, 3) := by decide +kernel
theorem dX8_nextToken_102 : decode cX8_nextToken 102 = .ok (.aload_n 0, 1) := by decide +kernel
theorem dX8_nextToken_103 : decode cX8_nextToken 103 = .ok (.invokevirtual 57, 3) := by decide +kernel
theorem dX8_nextToken_106 : decode cX8_nextToken 106 = .ok (.goto 36, 3) := by decide +kernel
theorem dX8_nextToken_109 : decode cX8_nextToken 109 = .ok (.aload_n 0, 1) := by decide +kernel
theorem dX8_nextToken_110 : decode cX8_nextToken 110 = .ok (.aload_n 0, 1) := by decide +kernel
theorem dX8_nextToken_111 : decode cX8_nextToken 111 = .ok (.getfield 9, 3) := by decide +kernel
theorem dX8_nextToken_114 : decode cX8_nextToken 114 = .ok (.aload_n 0, 1) := by decide +kernel
theorem dX8_nextToken_115 : decode cX8_nextToken 115 = .ok (.getfield 22, 3) := by decide +kernel
theorem dX8_nextToken_118 : decode cX8_nextToken 118 = .ok (.baload, 1) := by decide +kernel
theorem dX8_nextToken_119 : decode cX8_nextToken 119 = .ok (.bipush 59, 2) := by decide +kernel
theorem dX8_nextToken_121 : decode cX8_nextToken 121 = .ok (.if_icmp .ne 7, 3) := by decide +kernel
theorem dX8_nextToken_124 : decode cX8_nextToken 124 = .ok (.iconst 3, 1) := by decide +kernel
theorem dX8_nextToken_125 : decode cX8_nextToken 125 = .ok (.goto 4, 3) := by decide +kernel
theorem dX8_nextToken_128 : decode cX8_nextToken 128 = .ok (.iconst 4, 1) := by decide +kernel
theorem dX8_nextToken_129 : decode cX8_nextToken 129 = .ok (.putfield 25, 3) := by decide +kernel
theorem dX8_nextToken_132 : decode cX8_nextToken 132 = .ok (.aload_n 0, 1) := by decide +kernel
theorem dX8_nextToken_133 : decode cX8_nextToken 133 = .ok (.dup, 1) := by decide +kernel
theorem dX8_nextToken_134 : decode cX8_nextToken 134 = .ok (.getfield 22, 3) := by decide +kernel
theorem dX8_nextToken_137 : decode cX8_nextToken 137 = .ok (.iconst 1, 1) := by decide +kernel
theorem dX8_nextToken_138 : decode cX8_nextToken 138 = .ok (.iadd, 1) := by decide +kernel
theorem dX8_nextToken_139 : decode cX8_nextToken 139 = .ok (.putfield 22, 3) := by decide +kernel
theorem dX8_nextToken_142 : decode cX8_nextToken 142 = .ok (.return_, 1) := by decide +kernel
def lX8_nextToken_0 : List (Nat × (Op ⊕ Nat)) := [(0, .inl (o_aload 0 1)), (1, .inl (o_get 8 3 4)), (4, .inl (o_aload 0 5)), (5, .inl (o_get 8 2 8)), (8, .inl (o_icmp_ge 38 11)), (11, .inl (o_aload 0 12)), (12, .inl (o_get 8 0 15)), (15, .inl (o_aload 0 16)), (16, .inl (o_get 8 3 19)), (19, .inl (o_bald 20)), (20, .inl (o_pushI (nI 32) 22)), (22, .inl (o_icmp_ne 38 25)), (25, .inl (o_aload 0 26)), (26, .inl (o_dup 27)), (27, .inl (o_get 8 3 30)), (30, .inl (o_pushI (nI 1) 31)), (31, .inl (o_iadd 32)), (32, .inl (o_putI 8 3 35)), (35, .inl (o_goto 0)), (38, .inl (o_aload 0 39)), (39, .inl (o_aload 0 40)), (40, .inl (o_get 8 3 43)), (43, .inl (o_putI 8 5 46)), (46, .inl (o_aload 0 47)), (47, .inl (o_get 8 3 50)), (50, .inl (o_aload 0 51)), (51, .inl (o_get 8 2 54)), (54, .inl (o_icmp_lt 65 57)), (57, .inl (o_aload 0 58)), (58, .inl (o_pushI (nI 0) 59)), (59, .inl (o_putI 8 4 62)), (62, .inl (o_goto 142)), (65, .inl (o_aload 0 66)), (66, .inl (o_get 8 0 69)), (69, .inl (o_aload 0 70)), (70, .inl (o_get 8 3 73)), (73, .inl (o_bald 74)), (74, .inl (o_callS fX8_isLetter 1 77)), (77, .inl (o_if_eq 87 80)), (80, .inl (o_aload 0 81))]
def lX8_nextToken_1 : List (Nat × (Op ⊕ Nat)) := [(81, .inl (o_callV fX8_scanWord 0 8 84)), (84, .inl (o_goto 142)), (87, .inl (o_aload 0 88)), (88, .inl (o_get 8 0 91)), (91, .inl (o_aload 0 92)), (92, .inl (o_get 8 3 95)), (95, .inl (o_bald 96)), (96, .inl (o_callS fX8_isDigit 1 99)), (99, .inl (o_if_eq 109 102)), (102, .inl (o_aload 0 103)), (103, .inl (o_callV fX8_scanWhole 0 8 106)), (106, .inl (o_goto 142)), (109, .inl (o_aload 0 110)), (110, .inl (o_aload 0 111)), (111, .inl (o_get 8 0 114)), (114, .inl (o_aload 0 115)), (115, .inl (o_get 8 3 118)), (118, .inl (o_bald 119)), (119, .inl (o_pushI (nI 59) 121)), (121, .inl (o_icmp_ne 128 124)), (124, .inl (o_pushI (nI 3) 125)), (125, .inl (o_goto 129)), (128, .inl (o_pushI (nI 4) 129)), (129, .inl (o_putI 8 4 132)), (132, .inl (o_aload 0 133)), (133, .inl (o_dup 134)), (134, .inl (o_get 8 3 137)), (137, .inl (o_pushI (nI 1) 138)), (138, .inl (o_iadd 139)), (139, .inl (o_putI 8 3 142)), (142, .inr 3)]
def lX8_nextToken : List (Nat × (Op ⊕ Nat)) := lX8_nextToken_0 ++ (lX8_nextToken_1)
theorem qX8_nextToken : yX8_nextToken.cls = RX8 ∧ yX8_nextToken.cls ≠ "java/lang/invoke/MethodHandle" ∧ yX8_nextToken.cls ≠ "java/lang/invoke/VarHandle" ∧ (parseMethodDescriptor yX8_nextToken.desc).map (fun d => d.parameters.length) = some 0 := by decide +kernel
set_option maxRecDepth 10000 in
theorem hX8_nextToken_0 (l : Launch) {p : Program} {e : Env} {s : State} {m : MethodId} {args : Array Value} {below : List Frame} {meth : Method} {c : Code} {D : va_G} {ad adV : Nat → Nat} {cA : Nat → ClassId} {K : Kt} (C0 : Cx p s m args meth c D ad adV cA cX8_nextToken 1 RX8) (hr : meth.sig.returnType = none) : ∀ q ∈ lX8_nextToken_0, Sd p l e (rmd 2) s m args below meth c (MQ below (QQ D ad cA K) args s 0 0 (AA ad)) D ad cA 1 q.1 (opOf K q.2) := List.forall_mem_cons.mpr ⟨s_aload_n C0 dX8_nextToken_0 rfl, List.forall_mem_cons.mpr ⟨s_get (ci := 8) (k := 3) C0 dX8_nextToken_1 inX8 rfl (by decide) tw1_41, List.forall_mem_cons.mpr ⟨s_aload_n C0 dX8_nextToken_4 rfl, List.forall_mem_cons.mpr ⟨s_get (ci := 8) (k := 2) C0 dX8_nextToken_5 inX8 rfl (by decide) tw1_40, List.forall_mem_cons.mpr ⟨s_icmp_ge C0 dX8_nextToken_8 rfl, List.forall_mem_cons.mpr ⟨s_aload_n C0 dX8_nextToken_11 rfl, List.forall_mem_cons.mpr ⟨s_get (ci := 8) (k := 0) C0 dX8_nextToken_12 inX8 rfl (by decide) tw1_37, List.forall_mem_cons.mpr ⟨s_aload_n C0 dX8_nextToken_15 rfl, List.forall_mem_cons.mpr ⟨s_get (ci := 8) (k := 3) C0 dX8_nextToken_16 inX8 rfl (by decide) tw1_41, List.forall_mem_cons.mpr ⟨s_bald C0 dX8_nextToken_19, List.forall_mem_cons.mpr ⟨s_bipush C0 dX8_nextToken_20 (by decide +kernel), List.forall_mem_cons.mpr ⟨s_icmp_ne C0 dX8_nextToken_22 rfl, List.forall_mem_cons.mpr ⟨s_aload_n C0 dX8_nextToken_25 rfl, List.forall_mem_cons.mpr ⟨s_dup C0 dX8_nextToken_26, List.forall_mem_cons.mpr ⟨s_get (ci := 8) (k := 3) C0 dX8_nextToken_27 inX8 rfl (by decide) tw1_41, List.forall_mem_cons.mpr ⟨s_iconst C0 dX8_nextToken_30 rfl, List.forall_mem_cons.mpr ⟨s_iadd C0 dX8_nextToken_31, List.forall_mem_cons.mpr ⟨s_putI (ci := 8) (k := 3) C0 dX8_nextToken_32 inX8 tyX8_ok nmX8 rfl (by decide) rfl rfl tw1_41, List.forall_mem_cons.mpr ⟨s_goto C0 dX8_nextToken_35 rfl, List.forall_mem_cons.mpr ⟨s_aload_n C0 dX8_nextToken_38 rfl, List.forall_mem_cons.mpr ⟨s_aload_n C0 dX8_nextToken_39 rfl, List.forall_mem_cons.mpr ⟨s_get (ci := 8) (k := 3) C0 dX8_nextToken_40 inX8 rfl (by decide) tw1_41, List.forall_mem_cons.mpr ⟨s_putI (ci := 8) (k := 5) C0 dX8_nextToken_43 inX8 tyX8_ok nmX8 rfl (by decide) rfl rfl tw1_44, List.forall_mem_cons.mpr ⟨s_aload_n C0 dX8_nextToken_46 rfl, List.forall_mem_cons.mpr ⟨s_get (ci := 8) (k := 3) C0 dX8_nextToken_47 inX8 rfl (by decide) tw1_41, List.forall_mem_cons.mpr ⟨s_aload_n C0 dX8_nextToken_50 rfl, List.forall_mem_cons.mpr ⟨s_get (ci := 8) (k := 2) C0 dX8_nextToken_51 inX8 rfl (by decide) tw1_40, List.forall_mem_cons.mpr ⟨s_icmp_lt C0 dX8_nextToken_54 rfl, List.forall_mem_cons.mpr ⟨s_aload_n C0 dX8_nextToken_57 rfl, List.forall_mem_cons.mpr ⟨s_iconst C0 dX8_nextToken_58 rfl, List.forall_mem_cons.mpr ⟨s_putI (ci := 8) (k := 4) C0 dX8_nextToken_59 inX8 tyX8_ok nmX8 rfl (by decide) rfl rfl tw1_42, List.forall_mem_cons.mpr ⟨s_goto C0 dX8_nextToken_62 rfl, List.forall_mem_cons.mpr ⟨s_aload_n C0 dX8_nextToken_65 rfl, List.forall_mem_cons.mpr ⟨s_get (ci := 8) (k := 0) C0 dX8_nextToken_66 inX8 rfl (by decide) tw1_37, List.forall_mem_cons.mpr ⟨s_aload_n C0 dX8_nextToken_69 rfl, List.forall_mem_cons.mpr ⟨s_get (ci := 8) (k := 3) C0 dX8_nextToken_70 inX8 rfl (by decide) tw1_41, List.forall_mem_cons.mpr ⟨s_bald C0 dX8_nextToken_73, List.forall_mem_cons.mpr ⟨s_callS C0 (kX8_isLetter l) dX8_nextToken_74 qX8_isLetter tw2_208 tw2_209 tw1_2 tw2_210 rfl (by decide) (by decide), List.forall_mem_cons.mpr ⟨s_if_eq C0 dX8_nextToken_77 rfl, List.forall_mem_cons.mpr ⟨s_aload_n C0 dX8_nextToken_80 rfl, fun _ h => absurd h List.not_mem_nil⟩⟩⟩⟩⟩⟩⟩⟩⟩⟩⟩⟩⟩⟩⟩⟩⟩⟩⟩⟩⟩⟩⟩⟩⟩⟩⟩⟩⟩⟩⟩⟩⟩⟩⟩⟩⟩⟩⟩⟩
set_option maxRecDepth 10000 in
theorem hX8_nextToken_1 (l : Launch) {p : Program} {e : Env} {s : State} {m : MethodId} {args : Array Value} {below : List Frame} {meth : Method} {c : Code} {D : va_G} {ad adV : Nat → Nat} {cA : Nat → ClassId} {K : Kt} (C0 : Cx p s m args meth c D ad adV cA cX8_nextToken 1 RX8) (hr : meth.sig.returnType = none) : ∀ q ∈ lX8_nextToken_1, Sd p l e (rmd 2) s m args below meth c (MQ below (QQ D ad cA K) args s 0 0 (AA ad)) D ad cA 1 q.1 (opOf K q.2) := List.forall_mem_cons.mpr ⟨s_callV (ci := 8) C0 (kX8_scanWord l) dX8_nextToken_81 rfl qX8_scanWord tw2_211 tw2_213 twp_2 tw1_2 tw2_214 rfl (by decide) (by decide), List.forall_mem_cons.mpr ⟨s_goto C0 dX8_nextToken_84 rfl, List.forall_mem_cons.mpr ⟨s_aload_n C0 dX8_nextToken_87 rfl, List.forall_mem_cons.mpr ⟨s_get (ci := 8) (k := 0) C0 dX8_nextToken_88 inX8 rfl (by decide) tw1_37, List.forall_mem_cons.mpr ⟨s_aload_n C0 dX8_nextToken_91 rfl, List.forall_mem_cons.mpr ⟨s_get (ci := 8) (k := 3) C0 dX8_nextToken_92 inX8 rfl (by decide) tw1_41, List.forall_mem_cons.mpr ⟨s_bald C0 dX8_nextToken_95, List.forall_mem_cons.mpr ⟨s_callS C0 (kX8_isDigit l) dX8_nextToken_96 qX8_isDigit tw2_215 tw2_216 tw1_2 tw2_217 rfl (by decide) (by decide), List.forall_mem_cons.mpr ⟨s_if_eq C0 dX8_nextToken_99 rfl, List.forall_mem_cons.mpr ⟨s_aload_n C0 dX8_nextToken_102 rfl, List.forall_mem_cons.mpr ⟨s_callV (ci := 8) C0 (kX8_scanWhole l) dX8_nextToken_103 rfl qX8_scanWhole tw2_218 tw2_220 twp_3 tw1_2 tw2_221 rfl (by decide) (by decide), List.forall_mem_cons.mpr ⟨s_goto C0 dX8_nextToken_106 rfl, List.forall_mem_cons.mpr ⟨s_aload_n C0 dX8_nextToken_109 rfl, List.forall_mem_cons.mpr ⟨s_aload_n C0 dX8_nextToken_110 rfl, List.forall_mem_cons.mpr ⟨s_get (ci := 8) (k := 0) C0 dX8_nextToken_111 inX8 rfl (by decide) tw1_37, List.forall_mem_cons.mpr ⟨s_aload_n C0 dX8_nextToken_114 rfl, List.forall_mem_cons.mpr ⟨s_get (ci := 8) (k := 3) C0 dX8_nextToken_115 inX8 rfl (by decide) tw1_41, List.forall_mem_cons.mpr ⟨s_bald C0 dX8_nextToken_118, List.forall_mem_cons.mpr ⟨s_bipush C0 dX8_nextToken_119 (by decide +kernel), List.forall_mem_cons.mpr ⟨s_icmp_ne C0 dX8_nextToken_121 rfl, List.forall_mem_cons.mpr ⟨s_iconst C0 dX8_nextToken_124 rfl, List.forall_mem_cons.mpr ⟨s_goto C0 dX8_nextToken_125 rfl, List.forall_mem_cons.mpr ⟨s_iconst C0 dX8_nextToken_128 rfl, List.forall_mem_cons.mpr ⟨s_putI (ci := 8) (k := 4) C0 dX8_nextToken_129 inX8 tyX8_ok nmX8 rfl (by decide) rfl rfl tw1_42, List.forall_mem_cons.mpr ⟨s_aload_n C0 dX8_nextToken_132 rfl, List.forall_mem_cons.mpr ⟨s_dup C0 dX8_nextToken_133, List.forall_mem_cons.mpr ⟨s_get (ci := 8) (k := 3) C0 dX8_nextToken_134 inX8 rfl (by decide) tw1_41, List.forall_mem_cons.mpr ⟨s_iconst C0 dX8_nextToken_137 rfl, List.forall_mem_cons.mpr ⟨s_iadd C0 dX8_nextToken_138, List.forall_mem_cons.mpr ⟨s_putI (ci := 8) (k := 3) C0 dX8_nextToken_139 inX8 tyX8_ok nmX8 rfl (by decide) rfl rfl tw1_41, List.forall_mem_cons.mpr ⟨s_vret C0 hr dX8_nextToken_142, fun _ h => absurd h List.not_mem_nil⟩⟩⟩⟩⟩⟩⟩⟩⟩⟩⟩⟩⟩⟩⟩⟩⟩⟩⟩⟩⟩⟩⟩⟩⟩⟩⟩⟩⟩⟩⟩
def fX8_nextToken : Mf := mf 1 (fun K => tl K lX8_nextToken)
theorem kX8_nextToken (l : Launch) : Okm l yX8_nextToken cX8_nextToken 1 none 2 fX8_nextToken := Okm_tl (own := RX8) (by decide +kernel) rfl (fun C0 hr => List.forall_mem_append.mpr ⟨hX8_nextToken_0 l C0 hr, hX8_nextToken_1 l C0 hr⟩)
theorem dX8_isWord_0 : decode cX8_isWord 0 = .ok (.aload_n 0, 1) := by decide +kernel
theorem dX8_isWord_1 : decode cX8_isWord 1 = .ok (.getfield 25, 3) := by decide +kernel
theorem dX8_isWord_4 : decode cX8_isWord 4 = .ok (.iconst 1, 1) := by decide +kernel
theorem dX8_isWord_5 : decode cX8_isWord 5 = .ok (.if_icmp .ne 19, 3) := by decide +kernel
theorem dX8_isWord_8 : decode cX8_isWord 8 = .ok (.aload_n 0, 1) := by decide +kernel
theorem dX8_isWord_9 : decode cX8_isWord 9 = .ok (.getfield 22, 3) := by decide +kernel
theorem dX8_isWord_12 : decode cX8_isWord 12 = .ok (.aload_n 0, 1) := by decide +kernel
theorem dX8_isWord_13 : decode cX8_isWord 13 = .ok (.getfield 28, 3) := by decide +kernel
theorem dX8_isWord_16 : decode cX8_isWord 16 = .ok (.isub, 1) := by decide +kernel
theorem dX8_isWord_17 : decode cX8_isWord 17 = .ok (.aload_n 1, 1) := by decide +kernel
theorem dX8_isWord_18 : decode cX8_isWord 18 = .ok (.invokevirtual 60, 3) := by decide +kernel
theorem dX8_isWord_21 : decode cX8_isWord 21 = .ok (.if_icmp .eq 5, 3) := by decide +kernel
theorem dX8_isWord_24 : decode cX8_isWord 24 = .ok (.iconst 0, 1) := by decide +kernel
theorem dX8_isWord_25 : decode cX8_isWord 25 = .ok (.ireturn, 1) := by decide +kernel
theorem dX8_isWord_26 : decode cX8_isWord 26 = .ok (.iconst 0, 1) := by decide +kernel
theorem dX8_isWord_27 : decode cX8_isWord 27 = .ok (.istore_n 2, 1) := by decide +kernel
theorem dX8_isWord_28 : decode cX8_isWord 28 = .ok (.aload_n 0, 1) := by decide +kernel
theorem dX8_isWord_29 : decode cX8_isWord 29 = .ok (.getfield 28, 3) := by decide +kernel
theorem dX8_isWord_32 : decode cX8_isWord 32 = .ok (.iload_n 2, 1) := by decide +kernel
theorem dX8_isWord_33 : decode cX8_isWord 33 = .ok (.iadd, 1) := by decide +kernel
theorem dX8_isWord_34 : decode cX8_isWord 34 = .ok (.aload_n 0, 1) := by decide +kernel
theorem dX8_isWord_35 : decode cX8_isWord 35 = .ok (.getfield 22, 3) := by decide +kernel
theorem dX8_isWord_38 : decode cX8_isWord 38 = .ok (.if_icmp .ge 30, 3) := by decide +kernel
theorem dX8_isWord_41 : decode cX8_isWord 41 = .ok (.aload_n 0, 1) := by decide +kernel
theorem dX8_isWord_42 : decode cX8_isWord 42 = .ok (.getfield 9, 3) := by decide +kernel
theorem dX8_isWord_45 : decode cX8_isWord 45 = .ok (.aload_n 0, 1) := by decide +kernel
theorem dX8_isWord_46 : decode cX8_isWord 46 = .ok (.getfield 28, 3) := by decide +kernel
theorem dX8_isWord_49 : decode cX8_isWord 49 = .ok (.iload_n 2, 1) := by decide +kernel
theorem dX8_isWord_50 : decode cX8_isWord 50 = .ok (.iadd, 1) := by decide +kernel
theorem dX8_isWord_51 : decode cX8_isWord 51 = .ok (.baload, 1) := by decide +kernel
theorem dX8_isWord_52 : decode cX8_isWord 52 = .ok (.aload_n 1, 1) := by decide +kernel
theorem dX8_isWord_53 : decode cX8_isWord 53 = .ok (.iload_n 2, 1) := by decide +kernel
theorem dX8_isWord_54 : decode cX8_isWord 54 = .ok (.invokevirtual 65, 3) := by decide +kernel
theorem dX8_isWord_57 : decode cX8_isWord 57 = .ok (.if_icmp .eq 5, 3) := by decide +kernel
theorem dX8_isWord_60 : decode cX8_isWord 60 = .ok (.iconst 0, 1) := by decide +kernel
theorem dX8_isWord_61 : decode cX8_isWord 61 = .ok (.ireturn, 1) := by decide +kernel
theorem dX8_isWord_62 : decode cX8_isWord 62 = .ok (.iinc 2 1, 3) := by decide +kernel
theorem dX8_isWord_65 : decode cX8_isWord 65 = .ok (.goto (-37), 3) := by decide +kernel
theorem dX8_isWord_68 : decode cX8_isWord 68 = .ok (.iconst 1, 1) := by decide +kernel
theorem dX8_isWord_69 : decode cX8_isWord 69 = .ok (.ireturn, 1) := by decide +kernel
def lX8_isWord : List (Nat × (Op ⊕ Nat)) := [(0, .inl (o_aload 0 1)), (1, .inl (o_get 8 4 4)), (4, .inl (o_pushI (nI 1) 5)), (5, .inl (o_icmp_ne 24 8)), (8, .inl (o_aload 0 9)), (9, .inl (o_get 8 3 12)), (12, .inl (o_aload 0 13)), (13, .inl (o_get 8 5 16)), (16, .inl (o_isub 17)), (17, .inl (o_aload 1 18)), (18, .inl (o_callT fJ0_length_8abf5 0 21)), (21, .inl (o_icmp_eq 26 24)), (24, .inl (o_pushI (nI 0) 25)), (25, .inr 1), (26, .inl (o_pushI (nI 0) 27)), (27, .inl (o_istore 2 28)), (28, .inl (o_aload 0 29)), (29, .inl (o_get 8 5 32)), (32, .inl (o_iload 2 33)), (33, .inl (o_iadd 34)), (34, .inl (o_aload 0 35)), (35, .inl (o_get 8 3 38)), (38, .inl (o_icmp_ge 68 41)), (41, .inl (o_aload 0 42)), (42, .inl (o_get 8 0 45)), (45, .inl (o_aload 0 46)), (46, .inl (o_get 8 5 49)), (49, .inl (o_iload 2 50)), (50, .inl (o_iadd 51)), (51, .inl (o_bald 52)), (52, .inl (o_aload 1 53)), (53, .inl (o_iload 2 54)), (54, .inl (o_callT fJ0_charAt_5068e 1 57)), (57, .inl (o_icmp_eq 62 60)), (60, .inl (o_pushI (nI 0) 61)), (61, .inr 1), (62, .inl (o_iinc 2 (nI 1) 65)), (65, .inl (o_goto 28)), (68, .inl (o_pushI (nI 1) 69)), (69, .inr 1)]
theorem qX8_isWord : yX8_isWord.cls = RX8 ∧ yX8_isWord.cls ≠ "java/lang/invoke/MethodHandle" ∧ yX8_isWord.cls ≠ "java/lang/invoke/VarHandle" ∧ (parseMethodDescriptor yX8_isWord.desc).map (fun d => d.parameters.length) = some 1 := by decide +kernel
set_option maxRecDepth 10000 in
theorem hX8_isWord_0 (l : Launch) {p : Program} {e : Env} {s : State} {m : MethodId} {args : Array Value} {below : List Frame} {meth : Method} {c : Code} {D : va_G} {ad adV : Nat → Nat} {cA : Nat → ClassId} {K : Kt} (C0 : Cx p s m args meth c D ad adV cA cX8_isWord 3 RX8) (hr : meth.sig.returnType = (some .boolean)) : ∀ q ∈ lX8_isWord, Sd p l e (rmd 5) s m args below meth c (MQ below (QQ D ad cA K) args s 0 0 (AA ad)) D ad cA 3 q.1 (opOf K q.2) := List.forall_mem_cons.mpr ⟨s_aload_n C0 dX8_isWord_0 rfl, List.forall_mem_cons.mpr ⟨s_get (ci := 8) (k := 4) C0 dX8_isWord_1 inX8 rfl (by decide) tw1_42, List.forall_mem_cons.mpr ⟨s_iconst C0 dX8_isWord_4 rfl, List.forall_mem_cons.mpr ⟨s_icmp_ne C0 dX8_isWord_5 rfl, List.forall_mem_cons.mpr ⟨s_aload_n C0 dX8_isWord_8 rfl, List.forall_mem_cons.mpr ⟨s_get (ci := 8) (k := 3) C0 dX8_isWord_9 inX8 rfl (by decide) tw1_41, List.forall_mem_cons.mpr ⟨s_aload_n C0 dX8_isWord_12 rfl, List.forall_mem_cons.mpr ⟨s_get (ci := 8) (k := 5) C0 dX8_isWord_13 inX8 rfl (by decide) tw1_44, List.forall_mem_cons.mpr ⟨s_isub C0 dX8_isWord_16, List.forall_mem_cons.mpr ⟨s_aload_n C0 dX8_isWord_17 rfl, List.forall_mem_cons.mpr ⟨s_callT C0 (kJ0_length_8abf5 l) dX8_isWord_18 qJ0_length_8abf5 tw2_227 tw2_228 tw2_229 tw1_15 tw2_230 rfl (by decide) (by decide), List.forall_mem_cons.mpr ⟨s_icmp_eq C0 dX8_isWord_21 rfl, List.forall_mem_cons.mpr ⟨s_iconst C0 dX8_isWord_24 rfl, List.forall_mem_cons.mpr ⟨s_zret C0 hr dX8_isWord_25, List.forall_mem_cons.mpr ⟨s_iconst C0 dX8_isWord_26 rfl, List.forall_mem_cons.mpr ⟨s_istore_n C0 dX8_isWord_27 rfl (by decide), List.forall_mem_cons.mpr ⟨s_aload_n C0 dX8_isWord_28 rfl, List.forall_mem_cons.mpr ⟨s_get (ci := 8) (k := 5) C0 dX8_isWord_29 inX8 rfl (by decide) tw1_44, List.forall_mem_cons.mpr ⟨s_iload_n C0 dX8_isWord_32 rfl, List.forall_mem_cons.mpr ⟨s_iadd C0 dX8_isWord_33, List.forall_mem_cons.mpr ⟨s_aload_n C0 dX8_isWord_34 rfl, List.forall_mem_cons.mpr ⟨s_get (ci := 8) (k := 3) C0 dX8_isWord_35 inX8 rfl (by decide) tw1_41, List.forall_mem_cons.mpr ⟨s_icmp_ge C0 dX8_isWord_38 rfl, List.forall_mem_cons.mpr ⟨s_aload_n C0 dX8_isWord_41 rfl, List.forall_mem_cons.mpr ⟨s_get (ci := 8) (k := 0) C0 dX8_isWord_42 inX8 rfl (by decide) tw1_37, List.forall_mem_cons.mpr ⟨s_aload_n C0 dX8_isWord_45 rfl, List.forall_mem_cons.mpr ⟨s_get (ci := 8) (k := 5) C0 dX8_isWord_46 inX8 rfl (by decide) tw1_44, List.forall_mem_cons.mpr ⟨s_iload_n C0 dX8_isWord_49 rfl, List.forall_mem_cons.mpr ⟨s_iadd C0 dX8_isWord_50, List.forall_mem_cons.mpr ⟨s_bald C0 dX8_isWord_51, List.forall_mem_cons.mpr ⟨s_aload_n C0 dX8_isWord_52 rfl, List.forall_mem_cons.mpr ⟨s_iload_n C0 dX8_isWord_53 rfl, List.forall_mem_cons.mpr ⟨s_callT C0 (kJ0_charAt_5068e l) dX8_isWord_54 qJ0_charAt_5068e tw2_237 tw2_238 tw2_239 tw1_15 tw3_0 rfl (by decide) (by decide), List.forall_mem_cons.mpr ⟨s_icmp_eq C0 dX8_isWord_57 rfl, List.forall_mem_cons.mpr ⟨s_iconst C0 dX8_isWord_60 rfl, List.forall_mem_cons.mpr ⟨s_zret C0 hr dX8_isWord_61, List.forall_mem_cons.mpr ⟨s_iinc C0 dX8_isWord_62 rfl (by decide), List.forall_mem_cons.mpr ⟨s_goto C0 dX8_isWord_65 rfl, List.forall_mem_cons.mpr ⟨s_iconst C0 dX8_isWord_68 rfl, List.forall_mem_cons.mpr ⟨s_zret C0 hr dX8_isWord_69, fun _ h => absurd h List.not_mem_nil⟩⟩⟩⟩⟩⟩⟩⟩⟩⟩⟩⟩⟩⟩⟩⟩⟩⟩⟩⟩⟩⟩⟩⟩⟩⟩⟩⟩⟩⟩⟩⟩⟩⟩⟩⟩⟩⟩⟩⟩
def fX8_isWord : Mf := mf 3 (fun K => tl K lX8_isWord)
theorem kX8_isWord (l : Launch) : Okm l yX8_isWord cX8_isWord 3 (some .boolean) 5 fX8_isWord := Okm_tl (own := RX8) (by decide +kernel) rfl (fun C0 hr => hX8_isWord_0 l C0 hr)
theorem dX6_fail_0 : decode cX6_fail 0 = .ok (.aload_n 0, 1) := by decide +kernel
theorem dX6_fail_1 : decode cX6_fail 1 = .ok (.iload_n 1, 1) := by decide +kernel
theorem dX6_fail_2 : decode cX6_fail 2 = .ok (.putfield 22, 3) := by decide +kernel
theorem dX6_fail_5 : decode cX6_fail 5 = .ok (.aload_n 0, 1) := by decide +kernel
theorem dX6_fail_6 : decode cX6_fail 6 = .ok (.aload_n 0, 1) := by decide +kernel
theorem dX6_fail_7 : decode cX6_fail 7 = .ok (.getfield 29, 3) := by decide +kernel
theorem dX6_fail_10 : decode cX6_fail 10 = .ok (.getfield 62, 3) := by decide +kernel
theorem dX6_fail_13 : decode cX6_fail 13 = .ok (.putfield 26, 3) := by decide +kernel
theorem dX6_fail_16 : decode cX6_fail 16 = .ok (.iconst 0, 1) := by decide +kernel
theorem dX6_fail_17 : decode cX6_fail 17 = .ok (.ireturn, 1) := by decide +kernel
def lX6_fail : List (Nat × (Op ⊕ Nat)) := [(0, .inl (o_aload 0 1)), (1, .inl (o_iload 1 2)), (2, .inl (o_putI 6 3 5)), (5, .inl (o_aload 0 6)), (6, .inl (o_aload 0 7)), (7, .inl (o_get 6 0 10)), (10, .inl (o_get 8 5 13)), (13, .inl (o_putI 6 4 16)), (16, .inl (o_pushI (nI 0) 17)), (17, .inr 1)]
theorem qX6_fail : yX6_fail.cls = RX6 ∧ yX6_fail.cls ≠ "java/lang/invoke/MethodHandle" ∧ yX6_fail.cls ≠ "java/lang/invoke/VarHandle" ∧ (parseMethodDescriptor yX6_fail.desc).map (fun d => d.parameters.length) = some 1 := by decide +kernel
set_option maxRecDepth 10000 in
theorem hX6_fail_0 (l : Launch) {p : Program} {e : Env} {s : State} {m : MethodId} {args : Array Value} {below : List Frame} {meth : Method} {c : Code} {D : va_G} {ad adV : Nat → Nat} {cA : Nat → ClassId} {K : Kt} (C0 : Cx p s m args meth c D ad adV cA cX6_fail 2 RX6) (hr : meth.sig.returnType = (some .boolean)) : ∀ q ∈ lX6_fail, Sd p l e (rmd 0) s m args below meth c (MQ below (QQ D ad cA K) args s 0 0 (AA ad)) D ad cA 2 q.1 (opOf K q.2) := List.forall_mem_cons.mpr ⟨s_aload_n C0 dX6_fail_0 rfl, List.forall_mem_cons.mpr ⟨s_iload_n C0 dX6_fail_1 rfl, List.forall_mem_cons.mpr ⟨s_putI (ci := 6) (k := 3) C0 dX6_fail_2 inX6 tyX6_ok nmX6 rfl (by decide) rfl rfl tw1_143, List.forall_mem_cons.mpr ⟨s_aload_n C0 dX6_fail_5 rfl, List.forall_mem_cons.mpr ⟨s_aload_n C0 dX6_fail_6 rfl, List.forall_mem_cons.mpr ⟨s_get (ci := 6) (k := 0) C0 dX6_fail_7 inX6 rfl (by decide) tw1_139, List.forall_mem_cons.mpr ⟨s_get (ci := 8) (k := 5) C0 dX6_fail_10 inX8 rfl (by decide) tw1_45, List.forall_mem_cons.mpr ⟨s_putI (ci := 6) (k := 4) C0 dX6_fail_13 inX6 tyX6_ok nmX6 rfl (by decide) rfl rfl tw1_145, List.forall_mem_cons.mpr ⟨s_iconst C0 dX6_fail_16 rfl, List.forall_mem_cons.mpr ⟨s_zret C0 hr dX6_fail_17, fun _ h => absurd h List.not_mem_nil⟩⟩⟩⟩⟩⟩⟩⟩⟩⟩
def fX6_fail : Mf := mf 2 (fun K => tl K lX6_fail)
theorem kX6_fail (l : Launch) : Okm l yX6_fail cX6_fail 2 (some .boolean) 0 fX6_fail := Okm_tl (own := RX6) (by decide +kernel) rfl (fun C0 hr => hX6_fail_0 l C0 hr)
theorem dX6_isReserved_0 : decode cX6_isReserved 0 = .ok (.aload_n 0, 1) := by decide +kernel
theorem dX6_isReserved_1 : decode cX6_isReserved 1 = .ok (.getfield 29, 3) := by decide +kernel
theorem dX6_isReserved_4 : decode cX6_isReserved 4 = .ok (.ldc 65, 2) := by decide +kernel
theorem dX6_isReserved_6 : decode cX6_isReserved 6 = .ok (.invokevirtual 67, 3) := by decide +kernel
theorem dX6_isReserved_9 : decode cX6_isReserved 9 = .ok (.ifCond .ne 87, 3) := by decide +kernel
theorem dX6_isReserved_12 : decode cX6_isReserved 12 = .ok (.aload_n 0, 1) := by decide +kernel
theorem dX6_isReserved_13 : decode cX6_isReserved 13 = .ok (.getfield 29, 3) := by decide +kernel
theorem dX6_isReserved_16 : decode cX6_isReserved 16 = .ok (.ldc 131, 2) := by decide +kernel
theorem dX6_isReserved_18 : decode cX6_isReserved 18 = .ok (.invokevirtual 67, 3) := by decide +kernel
theorem dX6_isReserved_21 : decode cX6_isReserved 21 = .ok (.ifCond .ne 75, 3) := by decide +kernel
theorem dX6_isReserved_24 : decode cX6_isReserved 24 = .ok (.aload_n 0, 1) := by decide +kernel
theorem dX6_isReserved_25 : decode cX6_isReserved 25 = .ok (.getfield 29, 3) := by decide +kernel
theorem dX6_isReserved_28 : decode cX6_isReserved 28 = .ok (.ldc 133, 2) := by decide +kernel
theorem dX6_isReserved_30 : decode cX6_isReserved 30 = .ok (.invokevirtual 67, 3) := by decide +kernel
theorem dX6_isReserved_33 : decode cX6_isReserved 33 = .ok (.ifCond .ne 63, 3) := by decide +kernel
theorem dX6_isReserved_36 : decode cX6_isReserved 36 = .ok (.aload_n 0, 1) := by decide +kernel
theorem dX6_isReserved_37 : decode cX6_isReserved 37 = .ok (.getfield 29, 3) := by decide +kernel
theorem dX6_isReserved_40 : decode cX6_isReserved 40 = .ok (.ldc 74, 2) := by decide +kernel
theorem dX6_isReserved_42 : decode cX6_isReserved 42 = .ok (.invokevirtual 67, 3) := by decide +kernel
theorem dX6_isReserved_45 : decode cX6_isReserved 45 = .ok (.ifCond .ne 51, 3) := by decide +kernel
theorem dX6_isReserved_48 : decode cX6_isReserved 48 = .ok (.aload_n 0, 1) := by decide +kernel
theorem dX6_isReserved_49 : decode cX6_isReserved 49 = .ok (.getfield 29, 3) := by decide +kernel
theorem dX6_isReserved_52 : decode cX6_isReserved 52 = .ok (.ldc 79, 2) := by decide +kernel
theorem dX6_isReserved_54 : decode cX6_isReserved 54 = .ok (.invokevirtual 67, 3) := by decide +kernel
theorem dX6_isReserved_57 : decode cX6_isReserved 57 = .ok (.ifCond .ne 39, 3) := by decide +kernel
theorem dX6_isReserved_60 : decode cX6_isReserved 60 = .ok (.aload_n 0, 1) := by decide +kernel
theorem dX6_isReserved_61 : decode cX6_isReserved 61 = .ok (.getfield 29, 3) := by decide +kernel
theorem dX6_isReserved_64 : decode cX6_isReserved 64 = .ok (.ldc 84, 2) := by decide +kernel
theorem dX6_isReserved_66 : decode cX6_isReserved 66 = .ok (.invokevirtual 67, 3) := by decide +kernel
theorem dX6_isReserved_69 : decode cX6_isReserved 69 = .ok (.ifCond .ne 27, 3) := by decide +kernel
theorem dX6_isReserved_72 : decode cX6_isReserved 72 = .ok (.aload_n 0, 1) := by decide +kernel
theorem dX6_isReserved_73 : decode cX6_isReserved 73 = .ok (.getfield 29, 3) := by decide +kernel
theorem dX6_isReserved_76 : decode cX6_isReserved 76 = .ok (.ldc 89, 2) := by decide +kernel
theorem dX6_isReserved_78 : decode cX6_isReserved 78 = .ok (.invokevirtual 67, 3) := by decide +kernel
theorem dX6_isReserved_81 : decode cX6_isReserved 81 = .ok (.ifCond .ne 15, 3) := by decide +kernel
theorem dX6_isReserved_84 : decode cX6_isReserved 84 = .ok (.aload_n 0, 1) := by decide +kernel
theorem dX6_isReserved_85 : decode cX6_isReserved 85 = .ok (.getfield 29, 3) := by decide +kernel
theorem dX6_isReserved_88 : decode cX6_isReserved 88 = .ok (.ldc 91, 2) := by decide +kernel
theorem dX6_isReserved_90 : decode cX6_isReserved 90 = .ok (.invokevirtual 67, 3) := by decide +kernel
theorem dX6_isReserved_93 : decode cX6_isReserved 93 = .ok (.ifCond .eq 7, 3) := by decide +kernel
theorem dX6_isReserved_96 : decode cX6_isReserved 96 = .ok (.iconst 1, 1) := by decide +kernel
theorem dX6_isReserved_97 : decode cX6_isReserved 97 = .ok (.goto 4, 3) := by decide +kernel
theorem dX6_isReserved_100 : decode cX6_isReserved 100 = .ok (.iconst 0, 1) := by decide +kernel
theorem dX6_isReserved_101 : decode cX6_isReserved 101 = .ok (.ireturn, 1) := by decide +kernel
def lX6_isReserved_0 : List (Nat × (Op ⊕ Nat)) := [(0, .inl (o_aload 0 1)), (1, .inl (o_get 6 0 4)), (4, .inl (o_pushR 200 6)), (6, .inl (o_callV fX8_isWord 1 8 9)), (9, .inl (o_if_ne 96 12)), (12, .inl (o_aload 0 13)), (13, .inl (o_get 6 0 16)), (16, .inl (o_pushR 201 18)), (18, .inl (o_callV fX8_isWord 1 8 21)), (21, .inl (o_if_ne 96 24)), (24, .inl (o_aload 0 25)), (25, .inl (o_get 6 0 28)), (28, .inl (o_pushR 202 30)), (30, .inl (o_callV fX8_isWord 1 8 33)), (33, .inl (o_if_ne 96 36)), (36, .inl (o_aload 0 37)), (37, .inl (o_get 6 0 40)), (40, .inl (o_pushR 203 42)), (42, .inl (o_callV fX8_isWord 1 8 45)), (45, .inl (o_if_ne 96 48)), (48, .inl (o_aload 0 49)), (49, .inl (o_get 6 0 52)), (52, .inl (o_pushR 204 54)), (54, .inl (o_callV fX8_isWord 1 8 57)), (57, .inl (o_if_ne 96 60)), (60, .inl (o_aload 0 61)), (61, .inl (o_get 6 0 64)), (64, .inl (o_pushR 205 66)), (66, .inl (o_callV fX8_isWord 1 8 69)), (69, .inl (o_if_ne 96 72)), (72, .inl (o_aload 0 73)), (73, .inl (o_get 6 0 76)), (76, .inl (o_pushR 206 78)), (78, .inl (o_callV fX8_isWord 1 8 81)), (81, .inl (o_if_ne 96 84)), (84, .inl (o_aload 0 85)), (85, .inl (o_get 6 0 88)), (88, .inl (o_pushR 207 90)), (90, .inl (o_callV fX8_isWord 1 8 93)), (93, .inl (o_if_eq 100 96))]
def lX6_isReserved_1 : List (Nat × (Op ⊕ Nat)) := [(96, .inl (o_pushI (nI 1) 97)), (97, .inl (o_goto 101)), (100, .inl (o_pushI (nI 0) 101)), (101, .inr 1)]
def lX6_isReserved : List (Nat × (Op ⊕ Nat)) := lX6_isReserved_0 ++ (lX6_isReserved_1)
theorem qX6_isReserved : yX6_isReserved.cls = RX6 ∧ yX6_isReserved.cls ≠ "java/lang/invoke/MethodHandle" ∧ yX6_isReserved.cls ≠ "java/lang/invoke/VarHandle" ∧ (parseMethodDescriptor yX6_isReserved.desc).map (fun d => d.parameters.length) = some 0 := by decide +kernel
set_option maxRecDepth 10000 in
theorem hX6_isReserved_0 (l : Launch) {p : Program} {e : Env} {s : State} {m : MethodId} {args : Array Value} {below : List Frame} {meth : Method} {c : Code} {D : va_G} {ad adV : Nat → Nat} {cA : Nat → ClassId} {K : Kt} (C0 : Cx p s m args meth c D ad adV cA cX6_isReserved 1 RX6) (hr : meth.sig.returnType = (some .boolean)) : ∀ q ∈ lX6_isReserved_0, Sd p l e (rmd 6) s m args below meth c (MQ below (QQ D ad cA K) args s 0 0 (AA ad)) D ad cA 1 q.1 (opOf K q.2) := List.forall_mem_cons.mpr ⟨s_aload_n C0 dX6_isReserved_0 rfl, List.forall_mem_cons.mpr ⟨s_get (ci := 6) (k := 0) C0 dX6_isReserved_1 inX6 rfl (by decide) tw1_139, List.forall_mem_cons.mpr ⟨s_ldcS (tx := "arm") (k := 0) C0 dX6_isReserved_4 (List.mem_of_getElem? (i := 0) rfl), List.forall_mem_cons.mpr ⟨s_callV (ci := 8) C0 (kX8_isWord l) dX6_isReserved_6 rfl qX8_isWord tw2_223 tw2_224 tw2_225 tw1_2 tw2_226 rfl (by decide) (by decide), List.forall_mem_cons.mpr ⟨s_if_ne C0 dX6_isReserved_9 rfl, List.forall_mem_cons.mpr ⟨s_aload_n C0 dX6_isReserved_12 rfl, List.forall_mem_cons.mpr ⟨s_get (ci := 6) (k := 0) C0 dX6_isReserved_13 inX6 rfl (by decide) tw1_139, List.forall_mem_cons.mpr ⟨s_ldcS (tx := "left") (k := 1) C0 dX6_isReserved_16 (List.mem_of_getElem? (i := 1) rfl), List.forall_mem_cons.mpr ⟨s_callV (ci := 8) C0 (kX8_isWord l) dX6_isReserved_18 rfl qX8_isWord tw2_223 tw2_224 tw2_225 tw1_2 tw2_226 rfl (by decide) (by decide), List.forall_mem_cons.mpr ⟨s_if_ne C0 dX6_isReserved_21 rfl, List.forall_mem_cons.mpr ⟨s_aload_n C0 dX6_isReserved_24 rfl, List.forall_mem_cons.mpr ⟨s_get (ci := 6) (k := 0) C0 dX6_isReserved_25 inX6 rfl (by decide) tw1_139, List.forall_mem_cons.mpr ⟨s_ldcS (tx := "right") (k := 2) C0 dX6_isReserved_28 (List.mem_of_getElem? (i := 2) rfl), List.forall_mem_cons.mpr ⟨s_callV (ci := 8) C0 (kX8_isWord l) dX6_isReserved_30 rfl qX8_isWord tw2_223 tw2_224 tw2_225 tw1_2 tw2_226 rfl (by decide) (by decide), List.forall_mem_cons.mpr ⟨s_if_ne C0 dX6_isReserved_33 rfl, List.forall_mem_cons.mpr ⟨s_aload_n C0 dX6_isReserved_36 rfl, List.forall_mem_cons.mpr ⟨s_get (ci := 6) (k := 0) C0 dX6_isReserved_37 inX6 rfl (by decide) tw1_139, List.forall_mem_cons.mpr ⟨s_ldcS (tx := "game") (k := 3) C0 dX6_isReserved_40 (List.mem_of_getElem? (i := 3) rfl), List.forall_mem_cons.mpr ⟨s_callV (ci := 8) C0 (kX8_isWord l) dX6_isReserved_42 rfl qX8_isWord tw2_223 tw2_224 tw2_225 tw1_2 tw2_226 rfl (by decide) (by decide), List.forall_mem_cons.mpr ⟨s_if_ne C0 dX6_isReserved_45 rfl, List.forall_mem_cons.mpr ⟨s_aload_n C0 dX6_isReserved_48 rfl, List.forall_mem_cons.mpr ⟨s_get (ci := 6) (k := 0) C0 dX6_isReserved_49 inX6 rfl (by decide) tw1_139, List.forall_mem_cons.mpr ⟨s_ldcS (tx := "rest") (k := 4) C0 dX6_isReserved_52 (List.mem_of_getElem? (i := 4) rfl), List.forall_mem_cons.mpr ⟨s_callV (ci := 8) C0 (kX8_isWord l) dX6_isReserved_54 rfl qX8_isWord tw2_223 tw2_224 tw2_225 tw1_2 tw2_226 rfl (by decide) (by decide), List.forall_mem_cons.mpr ⟨s_if_ne C0 dX6_isReserved_57 rfl, List.forall_mem_cons.mpr ⟨s_aload_n C0 dX6_isReserved_60 rfl, List.forall_mem_cons.mpr ⟨s_get (ci := 6) (k := 0) C0 dX6_isReserved_61 inX6 rfl (by decide) tw1_139, List.forall_mem_cons.mpr ⟨s_ldcS (tx := "week") (k := 5) C0 dX6_isReserved_64 (List.mem_of_getElem? (i := 5) rfl), List.forall_mem_cons.mpr ⟨s_callV (ci := 8) C0 (kX8_isWord l) dX6_isReserved_66 rfl qX8_isWord tw2_223 tw2_224 tw2_225 tw1_2 tw2_226 rfl (by decide) (by decide), List.forall_mem_cons.mpr ⟨s_if_ne C0 dX6_isReserved_69 rfl, List.forall_mem_cons.mpr ⟨s_aload_n C0 dX6_isReserved_72 rfl, List.forall_mem_cons.mpr ⟨s_get (ci := 6) (k := 0) C0 dX6_isReserved_73 inX6 rfl (by decide) tw1_139, List.forall_mem_cons.mpr ⟨s_ldcS (tx := "edge") (k := 6) C0 dX6_isReserved_76 (List.mem_of_getElem? (i := 6) rfl), List.forall_mem_cons.mpr ⟨s_callV (ci := 8) C0 (kX8_isWord l) dX6_isReserved_78 rfl qX8_isWord tw2_223 tw2_224 tw2_225 tw1_2 tw2_226 rfl (by decide) (by decide), List.forall_mem_cons.mpr ⟨s_if_ne C0 dX6_isReserved_81 rfl, List.forall_mem_cons.mpr ⟨s_aload_n C0 dX6_isReserved_84 rfl, List.forall_mem_cons.mpr ⟨s_get (ci := 6) (k := 0) C0 dX6_isReserved_85 inX6 rfl (by decide) tw1_139, List.forall_mem_cons.mpr ⟨s_ldcS (tx := "out") (k := 7) C0 dX6_isReserved_88 (List.mem_of_getElem? (i := 7) rfl), List.forall_mem_cons.mpr ⟨s_callV (ci := 8) C0 (kX8_isWord l) dX6_isReserved_90 rfl qX8_isWord tw2_223 tw2_224 tw2_225 tw1_2 tw2_226 rfl (by decide) (by decide), List.forall_mem_cons.mpr ⟨s_if_eq C0 dX6_isReserved_93 rfl, fun _ h => absurd h List.not_mem_nil⟩⟩⟩⟩⟩⟩⟩⟩⟩⟩⟩⟩⟩⟩⟩⟩⟩⟩⟩⟩⟩⟩⟩⟩⟩⟩⟩⟩⟩⟩⟩⟩⟩⟩⟩⟩⟩⟩⟩⟩
set_option maxRecDepth 10000 in
theorem hX6_isReserved_1 (l : Launch) {p : Program} {e : Env} {s : State} {m : MethodId} {args : Array Value} {below : List Frame} {meth : Method} {c : Code} {D : va_G} {ad adV : Nat → Nat} {cA : Nat → ClassId} {K : Kt} (C0 : Cx p s m args meth c D ad adV cA cX6_isReserved 1 RX6) (hr : meth.sig.returnType = (some .boolean)) : ∀ q ∈ lX6_isReserved_1, Sd p l e (rmd 6) s m args below meth c (MQ below (QQ D ad cA K) args s 0 0 (AA ad)) D ad cA 1 q.1 (opOf K q.2) := List.forall_mem_cons.mpr ⟨s_iconst C0 dX6_isReserved_96 rfl, List.forall_mem_cons.mpr ⟨s_goto C0 dX6_isReserved_97 rfl, List.forall_mem_cons.mpr ⟨s_iconst C0 dX6_isReserved_100 rfl, List.forall_mem_cons.mpr ⟨s_zret C0 hr dX6_isReserved_101, fun _ h => absurd h List.not_mem_nil⟩⟩⟩⟩
def fX6_isReserved : Mf := mf 1 (fun K => tl K lX6_isReserved)
theorem kX6_isReserved (l : Launch) : Okm l yX6_isReserved cX6_isReserved 1 (some .boolean) 6 fX6_isReserved := Okm_tl (own := RX6) (by decide +kernel) rfl (fun C0 hr => List.forall_mem_append.mpr ⟨hX6_isReserved_0 l C0 hr, hX6_isReserved_1 l C0 hr⟩)
theorem dX9_armNamed_0 : decode cX9_armNamed 0 = .ok (.iconst 0, 1) := by decide +kernel
theorem dX9_armNamed_1 : decode cX9_armNamed 1 = .ok (.istore_n 3, 1) := by decide +kernel
theorem dX9_armNamed_2 : decode cX9_armNamed 2 = .ok (.iload_n 3, 1) := by decide +kernel
theorem dX9_armNamed_3 : decode cX9_armNamed 3 = .ok (.aload_n 0, 1) := by decide +kernel
theorem dX9_armNamed_4 : decode cX9_armNamed 4 = .ok (.getfield 9, 3) := by decide +kernel
theorem dX9_armNamed_7 : decode cX9_armNamed 7 = .ok (.if_icmp .ge 22, 3) := by decide +kernel
theorem dX9_armNamed_10 : decode cX9_armNamed 10 = .ok (.aload_n 0, 1) := by decide +kernel
theorem dX9_armNamed_11 : decode cX9_armNamed 11 = .ok (.getfield 15, 3) := by decide +kernel
theorem dX9_armNamed_14 : decode cX9_armNamed 14 = .ok (.iload_n 3, 1) := by decide +kernel
theorem dX9_armNamed_15 : decode cX9_armNamed 15 = .ok (.laload, 1) := by decide +kernel
theorem dX9_armNamed_16 : decode cX9_armNamed 16 = .ok (.lload_n 1, 1) := by decide +kernel
theorem dX9_armNamed_17 : decode cX9_armNamed 17 = .ok (.lcmp, 1) := by decide +kernel
theorem dX9_armNamed_18 : decode cX9_armNamed 18 = .ok (.ifCond .ne 5, 3) := by decide +kernel
theorem dX9_armNamed_21 : decode cX9_armNamed 21 = .ok (.iload_n 3, 1) := by decide +kernel
theorem dX9_armNamed_22 : decode cX9_armNamed 22 = .ok (.ireturn, 1) := by decide +kernel
theorem dX9_armNamed_23 : decode cX9_armNamed 23 = .ok (.iinc 3 1, 3) := by decide +kernel
theorem dX9_armNamed_26 : decode cX9_armNamed 26 = .ok (.goto (-24), 3) := by decide +kernel
theorem dX9_armNamed_29 : decode cX9_armNamed 29 = .ok (.iconst (-1), 1) := by decide +kernel
theorem dX9_armNamed_30 : decode cX9_armNamed 30 = .ok (.ireturn, 1) := by decide +kernel
def lX9_armNamed : List (Nat × (Op ⊕ Nat)) := [(0, .inl (o_pushI (nI 0) 1)), (1, .inl (o_istore 3 2)), (2, .inl (o_iload 3 3)), (3, .inl (o_aload 0 4)), (4, .inl (o_get 9 0 7)), (7, .inl (o_icmp_ge 29 10)), (10, .inl (o_aload 0 11)), (11, .inl (o_get 9 1 14)), (14, .inl (o_iload 3 15)), (15, .inl (o_lald 16)), (16, .inl (o_lload 1 17)), (17, .inl (o_lcmp 18)), (18, .inl (o_if_ne 23 21)), (21, .inl (o_iload 3 22)), (22, .inr 0), (23, .inl (o_iinc 3 (nI 1) 26)), (26, .inl (o_goto 2)), (29, .inl (o_pushI ((-1)) 30)), (30, .inr 0)]
theorem qX9_armNamed : yX9_armNamed.cls = RX9 ∧ yX9_armNamed.cls ≠ "java/lang/invoke/MethodHandle" ∧ yX9_armNamed.cls ≠ "java/lang/invoke/VarHandle" ∧ (parseMethodDescriptor yX9_armNamed.desc).map (fun d => d.parameters.length) = some 1 := by decide +kernel
set_option maxRecDepth 10000 in
theorem hX9_armNamed_0 (l : Launch) {p : Program} {e : Env} {s : State} {m : MethodId} {args : Array Value} {below : List Frame} {meth : Method} {c : Code} {D : va_G} {ad adV : Nat → Nat} {cA : Nat → ClassId} {K : Kt} (C0 : Cx p s m args meth c D ad adV cA cX9_armNamed 4 RX9) (hr : meth.sig.returnType = (some .int)) : ∀ q ∈ lX9_armNamed, Sd p l e (rmd 0) s m args below meth c (MQ below (QQ D ad cA K) args s 0 0 (AA ad)) D ad cA 4 q.1 (opOf K q.2) := List.forall_mem_cons.mpr ⟨s_iconst C0 dX9_armNamed_0 rfl, List.forall_mem_cons.mpr ⟨s_istore_n C0 dX9_armNamed_1 rfl (by decide), List.forall_mem_cons.mpr ⟨s_iload_n C0 dX9_armNamed_2 rfl, List.forall_mem_cons.mpr ⟨s_aload_n C0 dX9_armNamed_3 rfl, List.forall_mem_cons.mpr ⟨s_get (ci := 9) (k := 0) C0 dX9_armNamed_4 inX9 rfl (by decide) tw1_80, List.forall_mem_cons.mpr ⟨s_icmp_ge C0 dX9_armNamed_7 rfl, List.forall_mem_cons.mpr ⟨s_aload_n C0 dX9_armNamed_10 rfl, List.forall_mem_cons.mpr ⟨s_get (ci := 9) (k := 1) C0 dX9_armNamed_11 inX9 rfl (by decide) tw1_85, List.forall_mem_cons.mpr ⟨s_iload_n C0 dX9_armNamed_14 rfl, List.forall_mem_cons.mpr ⟨s_lald C0 dX9_armNamed_15, List.forall_mem_cons.mpr ⟨s_lload_n C0 dX9_armNamed_16 rfl, List.forall_mem_cons.mpr ⟨s_lcmp C0 dX9_armNamed_17, List.forall_mem_cons.mpr ⟨s_if_ne C0 dX9_armNamed_18 rfl, List.forall_mem_cons.mpr ⟨s_iload_n C0 dX9_armNamed_21 rfl, List.forall_mem_cons.mpr ⟨s_iret C0 hr dX9_armNamed_22, List.forall_mem_cons.mpr ⟨s_iinc C0 dX9_armNamed_23 rfl (by decide), List.forall_mem_cons.mpr ⟨s_goto C0 dX9_armNamed_26 rfl, List.forall_mem_cons.mpr ⟨s_iconst C0 dX9_armNamed_29 rfl, List.forall_mem_cons.mpr ⟨s_iret C0 hr dX9_armNamed_30, fun _ h => absurd h List.not_mem_nil⟩⟩⟩⟩⟩⟩⟩⟩⟩⟩⟩⟩⟩⟩⟩⟩⟩⟩⟩
def fX9_armNamed : Mf := mf 4 (fun K => tl K lX9_armNamed)
theorem kX9_armNamed (l : Launch) : Okm l yX9_armNamed cX9_armNamed 4 (some .int) 0 fX9_armNamed := Okm_tl (own := RX9) (by decide +kernel) rfl (fun C0 hr => hX9_armNamed_0 l C0 hr)
theorem dX6_readName_0 : decode cX6_readName 0 = .ok (.aload_n 0, 1) := by decide +kernel
theorem dX6_readName_1 : decode cX6_readName 1 = .ok (.getfield 29, 3) := by decide +kernel
theorem dX6_readName_4 : decode cX6_readName 4 = .ok (.invokevirtual 46, 3) := by decide +kernel
theorem dX6_readName_7 : decode cX6_readName 7 = .ok (.aload_n 0, 1) := by decide +kernel
theorem dX6_readName_8 : decode cX6_readName 8 = .ok (.getfield 29, 3) := by decide +kernel
theorem dX6_readName_11 : decode cX6_readName 11 = .ok (.getfield 49, 3) := by decide +kernel
theorem dX6_readName_14 : decode cX6_readName 14 = .ok (.iconst 1, 1) := by decide +kernel
theorem dX6_readName_15 : decode cX6_readName 15 = .ok (.if_icmp .ne 10, 3) := by decide +kernel
theorem dX6_readName_18 : decode cX6_readName 18 = .ok (.aload_n 0, 1) := by decide +kernel
theorem dX6_readName_19 : decode cX6_readName 19 = .ok (.invokevirtual 116, 3) := by decide +kernel
theorem dX6_readName_22 : decode cX6_readName 22 = .ok (.ifCond .eq 9, 3) := by decide +kernel
theorem dX6_readName_25 : decode cX6_readName 25 = .ok (.aload_n 0, 1) := by decide +kernel
theorem dX6_readName_26 : decode cX6_readName 26 = .ok (.iconst 1, 1) := by decide +kernel
theorem dX6_readName_27 : decode cX6_readName 27 = .ok (.invokevirtual 58, 3) := by decide +kernel
theorem dX6_readName_30 : decode cX6_readName 30 = .ok (.ireturn, 1) := by decide +kernel
theorem dX6_readName_31 : decode cX6_readName 31 = .ok (.aload_n 0, 1) := by decide +kernel
theorem dX6_readName_32 : decode cX6_readName 32 = .ok (.getfield 18, 3) := by decide +kernel
theorem dX6_readName_35 : decode cX6_readName 35 = .ok (.aload_n 0, 1) := by decide +kernel
theorem dX6_readName_36 : decode cX6_readName 36 = .ok (.getfield 29, 3) := by decide +kernel
theorem dX6_readName_39 : decode cX6_readName 39 = .ok (.getfield 119, 3) := by decide +kernel
theorem dX6_readName_42 : decode cX6_readName 42 = .ok (.invokevirtual 123, 3) := by decide +kernel
theorem dX6_readName_45 : decode cX6_readName 45 = .ok (.iconst (-1), 1) := by decide +kernel
theorem dX6_readName_46 : decode cX6_readName 46 = .ok (.if_icmp .eq 9, 3) := by decide +kernel
theorem dX6_readName_49 : decode cX6_readName 49 = .ok (.aload_n 0, 1) := by decide +kernel
theorem dX6_readName_50 : decode cX6_readName 50 = .ok (.iconst 3, 1) := by decide +kernel
theorem dX6_readName_51 : decode cX6_readName 51 = .ok (.invokevirtual 58, 3) := by decide +kernel
theorem dX6_readName_54 : decode cX6_readName 54 = .ok (.ireturn, 1) := by decide +kernel
theorem dX6_readName_55 : decode cX6_readName 55 = .ok (.aload_n 0, 1) := by decide +kernel
theorem dX6_readName_56 : decode cX6_readName 56 = .ok (.getfield 18, 3) := by decide +kernel
theorem dX6_readName_59 : decode cX6_readName 59 = .ok (.getfield 127, 3) := by decide +kernel
theorem dX6_readName_62 : decode cX6_readName 62 = .ok (.iload_n 1, 1) := by decide +kernel
theorem dX6_readName_63 : decode cX6_readName 63 = .ok (.aload_n 0, 1) := by decide +kernel
theorem dX6_readName_64 : decode cX6_readName 64 = .ok (.getfield 29, 3) := by decide +kernel
theorem dX6_readName_67 : decode cX6_readName 67 = .ok (.getfield 119, 3) := by decide +kernel
theorem dX6_readName_70 : decode cX6_readName 70 = .ok (.lastore, 1) := by decide +kernel
theorem dX6_readName_71 : decode cX6_readName 71 = .ok (.iconst 1, 1) := by decide +kernel
theorem dX6_readName_72 : decode cX6_readName 72 = .ok (.ireturn, 1) := by decide +kernel
def lX6_readName : List (Nat × (Op ⊕ Nat)) := [(0, .inl (o_aload 0 1)), (1, .inl (o_get 6 0 4)), (4, .inl (o_callV fX8_nextToken 0 8 7)), (7, .inl (o_aload 0 8)), (8, .inl (o_get 6 0 11)), (11, .inl (o_get 8 4 14)), (14, .inl (o_pushI (nI 1) 15)), (15, .inl (o_icmp_ne 25 18)), (18, .inl (o_aload 0 19)), (19, .inl (o_callV fX6_isReserved 0 6 22)), (22, .inl (o_if_eq 31 25)), (25, .inl (o_aload 0 26)), (26, .inl (o_pushI (nI 1) 27)), (27, .inl (o_callV fX6_fail 1 6 30)), (30, .inr 1), (31, .inl (o_aload 0 32)), (32, .inl (o_get 6 2 35)), (35, .inl (o_aload 0 36)), (36, .inl (o_get 6 0 39)), (39, .inl (o_get 8 7 42)), (42, .inl (o_callV fX9_armNamed 1 9 45)), (45, .inl (o_pushI ((-1)) 46)), (46, .inl (o_icmp_eq 55 49)), (49, .inl (o_aload 0 50)), (50, .inl (o_pushI (nI 3) 51)), (51, .inl (o_callV fX6_fail 1 6 54)), (54, .inr 1), (55, .inl (o_aload 0 56)), (56, .inl (o_get 6 2 59)), (59, .inl (o_get 9 1 62)), (62, .inl (o_iload 1 63)), (63, .inl (o_aload 0 64)), (64, .inl (o_get 6 0 67)), (67, .inl (o_get 8 7 70)), (70, .inl (o_last 71)), (71, .inl (o_pushI (nI 1) 72)), (72, .inr 1)]
theorem qX6_readName : yX6_readName.cls = RX6 ∧ yX6_readName.cls ≠ "java/lang/invoke/MethodHandle" ∧ yX6_readName.cls ≠ "java/lang/invoke/VarHandle" ∧ (parseMethodDescriptor yX6_readName.desc).map (fun d => d.parameters.length) = some 1 := by decide +kernel
set_option maxRecDepth 10000 in
theorem hX6_readName_0 (l : Launch) {p : Program} {e : Env} {s : State} {m : MethodId} {args : Array Value} {below : List Frame} {meth : Method} {c : Code} {D : va_G} {ad adV : Nat → Nat} {cA : Nat → ClassId} {K : Kt} (C0 : Cx p s m args meth c D ad adV cA cX6_readName 2 RX6) (hr : meth.sig.returnType = (some .boolean)) : ∀ q ∈ lX6_readName, Sd p l e (rmd 7) s m args below meth c (MQ below (QQ D ad cA K) args s 0 0 (AA ad)) D ad cA 2 q.1 (opOf K q.2) := List.forall_mem_cons.mpr ⟨s_aload_n C0 dX6_readName_0 rfl, List.forall_mem_cons.mpr ⟨s_get (ci := 6) (k := 0) C0 dX6_readName_1 inX6 rfl (by decide) tw1_139, List.forall_mem_cons.mpr ⟨s_callV (ci := 8) C0 (kX8_nextToken l) dX6_readName_4 rfl qX8_nextToken tw2_204 tw2_205 tw2_206 tw1_2 tw2_207 rfl (by decide) (by decide), List.forall_mem_cons.mpr ⟨s_aload_n C0 dX6_readName_7 rfl, List.forall_mem_cons.mpr ⟨s_get (ci := 6) (k := 0) C0 dX6_readName_8 inX6 rfl (by decide) tw1_139, List.forall_mem_cons.mpr ⟨s_get (ci := 8) (k := 4) C0 dX6_readName_11 inX8 rfl (by decide) tw1_43, List.forall_mem_cons.mpr ⟨s_iconst C0 dX6_readName_14 rfl, List.forall_mem_cons.mpr ⟨s_icmp_ne C0 dX6_readName_15 rfl, List.forall_mem_cons.mpr ⟨s_aload_n C0 dX6_readName_18 rfl, List.forall_mem_cons.mpr ⟨s_callV (ci := 6) C0 (kX6_isReserved l) dX6_readName_19 rfl qX6_isReserved tw3_47 tw3_49 twp_7 tw1_3 tw3_50 rfl (by decide) (by decide), List.forall_mem_cons.mpr ⟨s_if_eq C0 dX6_readName_22 rfl, List.forall_mem_cons.mpr ⟨s_aload_n C0 dX6_readName_25 rfl, List.forall_mem_cons.mpr ⟨s_iconst C0 dX6_readName_26 rfl, List.forall_mem_cons.mpr ⟨s_callV (ci := 6) C0 (kX6_fail l) dX6_readName_27 rfl qX6_fail tw3_39 tw3_41 twp_5 tw1_3 tw3_42 rfl (by decide) (by decide), List.forall_mem_cons.mpr ⟨s_zret C0 hr dX6_readName_30, List.forall_mem_cons.mpr ⟨s_aload_n C0 dX6_readName_31 rfl, List.forall_mem_cons.mpr ⟨s_get (ci := 6) (k := 2) C0 dX6_readName_32 inX6 rfl (by decide) tw1_141, List.forall_mem_cons.mpr ⟨s_aload_n C0 dX6_readName_35 rfl, List.forall_mem_cons.mpr ⟨s_get (ci := 6) (k := 0) C0 dX6_readName_36 inX6 rfl (by decide) tw1_139, List.forall_mem_cons.mpr ⟨s_get (ci := 8) (k := 7) C0 dX6_readName_39 inX8 rfl (by decide) tw1_49, List.forall_mem_cons.mpr ⟨s_callV (ci := 9) C0 (kX9_armNamed l) dX6_readName_42 rfl qX9_armNamed tw3_58 tw3_59 tw3_60 tw1_4 tw3_61 rfl (by decide) (by decide), List.forall_mem_cons.mpr ⟨s_iconst C0 dX6_readName_45 rfl, List.forall_mem_cons.mpr ⟨s_icmp_eq C0 dX6_readName_46 rfl, List.forall_mem_cons.mpr ⟨s_aload_n C0 dX6_readName_49 rfl, List.forall_mem_cons.mpr ⟨s_iconst C0 dX6_readName_50 rfl, List.forall_mem_cons.mpr ⟨s_callV (ci := 6) C0 (kX6_fail l) dX6_readName_51 rfl qX6_fail tw3_39 tw3_41 twp_5 tw1_3 tw3_42 rfl (by decide) (by decide), List.forall_mem_cons.mpr ⟨s_zret C0 hr dX6_readName_54, List.forall_mem_cons.mpr ⟨s_aload_n C0 dX6_readName_55 rfl, List.forall_mem_cons.mpr ⟨s_get (ci := 6) (k := 2) C0 dX6_readName_56 inX6 rfl (by decide) tw1_141, List.forall_mem_cons.mpr ⟨s_get (ci := 9) (k := 1) C0 dX6_readName_59 inX9 rfl (by decide) tw1_86, List.forall_mem_cons.mpr ⟨s_iload_n C0 dX6_readName_62 rfl, List.forall_mem_cons.mpr ⟨s_aload_n C0 dX6_readName_63 rfl, List.forall_mem_cons.mpr ⟨s_get (ci := 6) (k := 0) C0 dX6_readName_64 inX6 rfl (by decide) tw1_139, List.forall_mem_cons.mpr ⟨s_get (ci := 8) (k := 7) C0 dX6_readName_67 inX8 rfl (by decide) tw1_49, List.forall_mem_cons.mpr ⟨s_last C0 dX6_readName_70, List.forall_mem_cons.mpr ⟨s_iconst C0 dX6_readName_71 rfl, List.forall_mem_cons.mpr ⟨s_zret C0 hr dX6_readName_72, fun _ h => absurd h List.not_mem_nil⟩⟩⟩⟩⟩⟩⟩⟩⟩⟩⟩⟩⟩⟩⟩⟩⟩⟩⟩⟩⟩⟩⟩⟩⟩⟩⟩⟩⟩⟩⟩⟩⟩⟩⟩⟩⟩
def fX6_readName : Mf := mf 2 (fun K => tl K lX6_readName)
theorem kX6_readName (l : Launch) : Okm l yX6_readName cX6_readName 2 (some .boolean) 7 fX6_readName := Okm_tl (own := RX6) (by decide +kernel) rfl (fun C0 hr => hX6_readName_0 l C0 hr)
theorem dX6_readHand_0 : decode cX6_readHand 0 = .ok (.aload_n 0, 1) := by decide +kernel
theorem dX6_readHand_1 : decode cX6_readHand 1 = .ok (.getfield 29, 3) := by decide +kernel
theorem dX6_readHand_4 : decode cX6_readHand 4 = .ok (.invokevirtual 46, 3) := by decide +kernel
theorem dX6_readHand_7 : decode cX6_readHand 7 = .ok (.aload_n 0, 1) := by decide +kernel
theorem dX6_readHand_8 : decode cX6_readHand 8 = .ok (.getfield 29, 3) := by decide +kernel
theorem dX6_readHand_11 : decode cX6_readHand 11 = .ok (.ldc 133, 2) := by decide +kernel
theorem dX6_readHand_13 : decode cX6_readHand 13 = .ok (.invokevirtual 67, 3) := by decide +kernel
theorem dX6_readHand_16 : decode cX6_readHand 16 = .ok (.istore_n 2, 1) := by decide +kernel
theorem dX6_readHand_17 : decode cX6_readHand 17 = .ok (.iload_n 2, 1) := by decide +kernel
theorem dX6_readHand_18 : decode cX6_readHand 18 = .ok (.ifCond .ne 21, 3) := by decide +kernel
theorem dX6_readHand_21 : decode cX6_readHand 21 = .ok (.aload_n 0, 1) := by decide +kernel
theorem dX6_readHand_22 : decode cX6_readHand 22 = .ok (.getfield 29, 3) := by decide +kernel
theorem dX6_readHand_25 : decode cX6_readHand 25 = .ok (.ldc 131, 2) := by decide +kernel
theorem dX6_readHand_27 : decode cX6_readHand 27 = .ok (.invokevirtual 67, 3) := by decide +kernel
theorem dX6_readHand_30 : decode cX6_readHand 30 = .ok (.ifCond .ne 9, 3) := by decide +kernel
theorem dX6_readHand_33 : decode cX6_readHand 33 = .ok (.aload_n 0, 1) := by decide +kernel
theorem dX6_readHand_34 : decode cX6_readHand 34 = .ok (.iconst 1, 1) := by decide +kernel
theorem dX6_readHand_35 : decode cX6_readHand 35 = .ok (.invokevirtual 58, 3) := by decide +kernel
theorem dX6_readHand_38 : decode cX6_readHand 38 = .ok (.ireturn, 1) := by decide +kernel
theorem dX6_readHand_39 : decode cX6_readHand 39 = .ok (.aload_n 0, 1) := by decide +kernel
theorem dX6_readHand_40 : decode cX6_readHand 40 = .ok (.getfield 18, 3) := by decide +kernel
theorem dX6_readHand_43 : decode cX6_readHand 43 = .ok (.getfield 135, 3) := by decide +kernel
theorem dX6_readHand_46 : decode cX6_readHand 46 = .ok (.iload_n 1, 1) := by decide +kernel
theorem dX6_readHand_47 : decode cX6_readHand 47 = .ok (.iload_n 2, 1) := by decide +kernel
theorem dX6_readHand_48 : decode cX6_readHand 48 = .ok (.ifCond .eq 7, 3) := by decide +kernel
theorem dX6_readHand_51 : decode cX6_readHand 51 = .ok (.iconst 1, 1) := by decide +kernel
theorem dX6_readHand_52 : decode cX6_readHand 52 = .ok (.goto 4, 3) := by decide +kernel
theorem dX6_readHand_55 : decode cX6_readHand 55 = .ok (.iconst 0, 1) := by decide +kernel
theorem dX6_readHand_56 : decode cX6_readHand 56 = .ok (.iastore, 1) := by decide +kernel
theorem dX6_readHand_57 : decode cX6_readHand 57 = .ok (.iconst 1, 1) := by decide +kernel
theorem dX6_readHand_58 : decode cX6_readHand 58 = .ok (.ireturn, 1) := by decide +kernel
def lX6_readHand : List (Nat × (Op ⊕ Nat)) := [(0, .inl (o_aload 0 1)), (1, .inl (o_get 6 0 4)), (4, .inl (o_callV fX8_nextToken 0 8 7)), (7, .inl (o_aload 0 8)), (8, .inl (o_get 6 0 11)), (11, .inl (o_pushR 202 13)), (13, .inl (o_callV fX8_isWord 1 8 16)), (16, .inl (o_istore 2 17)), (17, .inl (o_iload 2 18)), (18, .inl (o_if_ne 39 21)), (21, .inl (o_aload 0 22)), (22, .inl (o_get 6 0 25)), (25, .inl (o_pushR 201 27)), (27, .inl (o_callV fX8_isWord 1 8 30)), (30, .inl (o_if_ne 39 33)), (33, .inl (o_aload 0 34)), (34, .inl (o_pushI (nI 1) 35)), (35, .inl (o_callV fX6_fail 1 6 38)), (38, .inr 1), (39, .inl (o_aload 0 40)), (40, .inl (o_get 6 2 43)), (43, .inl (o_get 9 2 46)), (46, .inl (o_iload 1 47)), (47, .inl (o_iload 2 48)), (48, .inl (o_if_eq 55 51)), (51, .inl (o_pushI (nI 1) 52)), (52, .inl (o_goto 56)), (55, .inl (o_pushI (nI 0) 56)), (56, .inl (o_iast 57)), (57, .inl (o_pushI (nI 1) 58)), (58, .inr 1)]
theorem qX6_readHand : yX6_readHand.cls = RX6 ∧ yX6_readHand.cls ≠ "java/lang/invoke/MethodHandle" ∧ yX6_readHand.cls ≠ "java/lang/invoke/VarHandle" ∧ (parseMethodDescriptor yX6_readHand.desc).map (fun d => d.parameters.length) = some 1 := by decide +kernel
set_option maxRecDepth 10000 in
theorem hX6_readHand_0 (l : Launch) {p : Program} {e : Env} {s : State} {m : MethodId} {args : Array Value} {below : List Frame} {meth : Method} {c : Code} {D : va_G} {ad adV : Nat → Nat} {cA : Nat → ClassId} {K : Kt} (C0 : Cx p s m args meth c D ad adV cA cX6_readHand 3 RX6) (hr : meth.sig.returnType = (some .boolean)) : ∀ q ∈ lX6_readHand, Sd p l e (rmd 6) s m args below meth c (MQ below (QQ D ad cA K) args s 0 0 (AA ad)) D ad cA 3 q.1 (opOf K q.2) := List.forall_mem_cons.mpr ⟨s_aload_n C0 dX6_readHand_0 rfl, List.forall_mem_cons.mpr ⟨s_get (ci := 6) (k := 0) C0 dX6_readHand_1 inX6 rfl (by decide) tw1_139, List.forall_mem_cons.mpr ⟨s_callV (ci := 8) C0 (kX8_nextToken l) dX6_readHand_4 rfl qX8_nextToken tw2_204 tw2_205 tw2_206 tw1_2 tw2_207 rfl (by decide) (by decide), List.forall_mem_cons.mpr ⟨s_aload_n C0 dX6_readHand_7 rfl, List.forall_mem_cons.mpr ⟨s_get (ci := 6) (k := 0) C0 dX6_readHand_8 inX6 rfl (by decide) tw1_139, List.forall_mem_cons.mpr ⟨s_ldcS (tx := "right") (k := 2) C0 dX6_readHand_11 (List.mem_of_getElem? (i := 2) rfl), List.forall_mem_cons.mpr ⟨s_callV (ci := 8) C0 (kX8_isWord l) dX6_readHand_13 rfl qX8_isWord tw2_223 tw2_224 tw2_225 tw1_2 tw2_226 rfl (by decide) (by decide), List.forall_mem_cons.mpr ⟨s_istore_n C0 dX6_readHand_16 rfl (by decide), List.forall_mem_cons.mpr ⟨s_iload_n C0 dX6_readHand_17 rfl, List.forall_mem_cons.mpr ⟨s_if_ne C0 dX6_readHand_18 rfl, List.forall_mem_cons.mpr ⟨s_aload_n C0 dX6_readHand_21 rfl, List.forall_mem_cons.mpr ⟨s_get (ci := 6) (k := 0) C0 dX6_readHand_22 inX6 rfl (by decide) tw1_139, List.forall_mem_cons.mpr ⟨s_ldcS (tx := "left") (k := 1) C0 dX6_readHand_25 (List.mem_of_getElem? (i := 1) rfl), List.forall_mem_cons.mpr ⟨s_callV (ci := 8) C0 (kX8_isWord l) dX6_readHand_27 rfl qX8_isWord tw2_223 tw2_224 tw2_225 tw1_2 tw2_226 rfl (by decide) (by decide), List.forall_mem_cons.mpr ⟨s_if_ne C0 dX6_readHand_30 rfl, List.forall_mem_cons.mpr ⟨s_aload_n C0 dX6_readHand_33 rfl, List.forall_mem_cons.mpr ⟨s_iconst C0 dX6_readHand_34 rfl, List.forall_mem_cons.mpr ⟨s_callV (ci := 6) C0 (kX6_fail l) dX6_readHand_35 rfl qX6_fail tw3_39 tw3_41 twp_5 tw1_3 tw3_42 rfl (by decide) (by decide), List.forall_mem_cons.mpr ⟨s_zret C0 hr dX6_readHand_38, List.forall_mem_cons.mpr ⟨s_aload_n C0 dX6_readHand_39 rfl, List.forall_mem_cons.mpr ⟨s_get (ci := 6) (k := 2) C0 dX6_readHand_40 inX6 rfl (by decide) tw1_141, List.forall_mem_cons.mpr ⟨s_get (ci := 9) (k := 2) C0 dX6_readHand_43 inX9 rfl (by decide) tw1_89, List.forall_mem_cons.mpr ⟨s_iload_n C0 dX6_readHand_46 rfl, List.forall_mem_cons.mpr ⟨s_iload_n C0 dX6_readHand_47 rfl, List.forall_mem_cons.mpr ⟨s_if_eq C0 dX6_readHand_48 rfl, List.forall_mem_cons.mpr ⟨s_iconst C0 dX6_readHand_51 rfl, List.forall_mem_cons.mpr ⟨s_goto C0 dX6_readHand_52 rfl, List.forall_mem_cons.mpr ⟨s_iconst C0 dX6_readHand_55 rfl, List.forall_mem_cons.mpr ⟨s_iast C0 dX6_readHand_56, List.forall_mem_cons.mpr ⟨s_iconst C0 dX6_readHand_57 rfl, List.forall_mem_cons.mpr ⟨s_zret C0 hr dX6_readHand_58, fun _ h => absurd h List.not_mem_nil⟩⟩⟩⟩⟩⟩⟩⟩⟩⟩⟩⟩⟩⟩⟩⟩⟩⟩⟩⟩⟩⟩⟩⟩⟩⟩⟩⟩⟩⟩⟩
def fX6_readHand : Mf := mf 3 (fun K => tl K lX6_readHand)
theorem kX6_readHand (l : Launch) : Okm l yX6_readHand cX6_readHand 3 (some .boolean) 6 fX6_readHand := Okm_tl (own := RX6) (by decide +kernel) rfl (fun C0 hr => hX6_readHand_0 l C0 hr)
theorem dX9_highestTrait_0 : decode cX9_highestTrait 0 = .ok (.iload_n 2, 1) := by decide +kernel
theorem dX9_highestTrait_1 : decode cX9_highestTrait 1 = .ok (.iconst 2, 1) := by decide +kernel
theorem dX9_highestTrait_2 : decode cX9_highestTrait 2 = .ok (.if_icmp .ne 12, 3) := by decide +kernel
theorem dX9_highestTrait_5 : decode cX9_highestTrait 5 = .ok (.aload_n 0, 1) := by decide +kernel
theorem dX9_highestTrait_6 : decode cX9_highestTrait 6 = .ok (.iload_n 1, 1) := by decide +kernel
theorem dX9_highestTrait_7 : decode cX9_highestTrait 7 = .ok (.iconst 1, 1) := by decide +kernel
theorem dX9_highestTrait_8 : decode cX9_highestTrait 8 = .ok (.invokevirtual 53, 3) := by decide +kernel
theorem dX9_highestTrait_11 : decode cX9_highestTrait 11 = .ok (.goto 8, 3) := by decide +kernel
theorem dX9_highestTrait_14 : decode cX9_highestTrait 14 = .ok (.getstatic 57, 3) := by decide +kernel
theorem dX9_highestTrait_17 : decode cX9_highestTrait 17 = .ok (.iload_n 2, 1) := by decide +kernel
theorem dX9_highestTrait_18 : decode cX9_highestTrait 18 = .ok (.iaload, 1) := by decide +kernel
theorem dX9_highestTrait_19 : decode cX9_highestTrait 19 = .ok (.ireturn, 1) := by decide +kernel
def lX9_highestTrait : List (Nat × (Op ⊕ Nat)) := [(0, .inl (o_iload 2 1)), (1, .inl (o_pushI (nI 2) 2)), (2, .inl (o_icmp_ne 14 5)), (5, .inl (o_aload 0 6)), (6, .inl (o_iload 1 7)), (7, .inl (o_pushI (nI 1) 8)), (8, .inl (o_callV fX9_trait 2 9 11)), (11, .inl (o_goto 19)), (14, .inl (o_pushR 101 17)), (17, .inl (o_iload 2 18)), (18, .inl (o_iaro 19)), (19, .inr 0)]
theorem qX9_highestTrait : yX9_highestTrait.cls = RX9 ∧ yX9_highestTrait.cls ≠ "java/lang/invoke/MethodHandle" ∧ yX9_highestTrait.cls ≠ "java/lang/invoke/VarHandle" ∧ (parseMethodDescriptor yX9_highestTrait.desc).map (fun d => d.parameters.length) = some 2 := by decide +kernel
set_option maxRecDepth 10000 in
theorem hX9_highestTrait_0 (l : Launch) {p : Program} {e : Env} {s : State} {m : MethodId} {args : Array Value} {below : List Frame} {meth : Method} {c : Code} {D : va_G} {ad adV : Nat → Nat} {cA : Nat → ClassId} {K : Kt} (C0 : Cx p s m args meth c D ad adV cA cX9_highestTrait 3 RX9) (hr : meth.sig.returnType = (some .int)) : ∀ q ∈ lX9_highestTrait, Sd p l e (rmd 1) s m args below meth c (MQ below (QQ D ad cA K) args s 0 0 (AA ad)) D ad cA 3 q.1 (opOf K q.2) := List.forall_mem_cons.mpr ⟨s_iload_n C0 dX9_highestTrait_0 rfl, List.forall_mem_cons.mpr ⟨s_iconst C0 dX9_highestTrait_1 rfl, List.forall_mem_cons.mpr ⟨s_icmp_ne C0 dX9_highestTrait_2 rfl, List.forall_mem_cons.mpr ⟨s_aload_n C0 dX9_highestTrait_5 rfl, List.forall_mem_cons.mpr ⟨s_iload_n C0 dX9_highestTrait_6 rfl, List.forall_mem_cons.mpr ⟨s_iconst C0 dX9_highestTrait_7 rfl, List.forall_mem_cons.mpr ⟨s_callV (ci := 9) C0 (kX9_trait l) dX9_highestTrait_8 rfl qX9_trait tw3_72 tw3_73 tw3_74 tw1_4 tw3_75 rfl (by decide) (by decide), List.forall_mem_cons.mpr ⟨s_goto C0 dX9_highestTrait_11 rfl, List.forall_mem_cons.mpr ⟨s_getsN (k := 1) C0 dX9_highestTrait_14 (List.mem_of_getElem? (i := 2) rfl) (by decide) rfl, List.forall_mem_cons.mpr ⟨s_iload_n C0 dX9_highestTrait_17 rfl, List.forall_mem_cons.mpr ⟨s_iaro C0 dX9_highestTrait_18, List.forall_mem_cons.mpr ⟨s_iret C0 hr dX9_highestTrait_19, fun _ h => absurd h List.not_mem_nil⟩⟩⟩⟩⟩⟩⟩⟩⟩⟩⟩⟩
def fX9_highestTrait : Mf := mf 3 (fun K => tl K lX9_highestTrait)
theorem kX9_highestTrait (l : Launch) : Okm l yX9_highestTrait cX9_highestTrait 3 (some .int) 1 fX9_highestTrait := Okm_tl (own := RX9) (by decide +kernel) rfl (fun C0 hr => hX9_highestTrait_0 l C0 hr)
theorem dX6_readWhole_0 : decode cX6_readWhole 0 = .ok (.aload_n 0, 1) := by decide +kernel
theorem dX6_readWhole_1 : decode cX6_readWhole 1 = .ok (.getfield 29, 3) := by decide +kernel
theorem dX6_readWhole_4 : decode cX6_readWhole 4 = .ok (.invokevirtual 46, 3) := by decide +kernel
theorem dX6_readWhole_7 : decode cX6_readWhole 7 = .ok (.aload_n 0, 1) := by decide +kernel
theorem dX6_readWhole_8 : decode cX6_readWhole 8 = .ok (.getfield 29, 3) := by decide +kernel
theorem dX6_readWhole_11 : decode cX6_readWhole 11 = .ok (.getfield 49, 3) := by decide +kernel
theorem dX6_readWhole_14 : decode cX6_readWhole 14 = .ok (.iconst 2, 1) := by decide +kernel
theorem dX6_readWhole_15 : decode cX6_readWhole 15 = .ok (.if_icmp .eq 9, 3) := by decide +kernel
theorem dX6_readWhole_18 : decode cX6_readWhole 18 = .ok (.aload_n 0, 1) := by decide +kernel
theorem dX6_readWhole_19 : decode cX6_readWhole 19 = .ok (.iconst 1, 1) := by decide +kernel
theorem dX6_readWhole_20 : decode cX6_readWhole 20 = .ok (.invokevirtual 58, 3) := by decide +kernel
theorem dX6_readWhole_23 : decode cX6_readWhole 23 = .ok (.ireturn, 1) := by decide +kernel
theorem dX6_readWhole_24 : decode cX6_readWhole 24 = .ok (.aload_n 0, 1) := by decide +kernel
theorem dX6_readWhole_25 : decode cX6_readWhole 25 = .ok (.getfield 29, 3) := by decide +kernel
theorem dX6_readWhole_28 : decode cX6_readWhole 28 = .ok (.getfield 111, 3) := by decide +kernel
theorem dX6_readWhole_31 : decode cX6_readWhole 31 = .ok (.iload_n 1, 1) := by decide +kernel
theorem dX6_readWhole_32 : decode cX6_readWhole 32 = .ok (.iload_n 2, 1) := by decide +kernel
theorem dX6_readWhole_33 : decode cX6_readWhole 33 = .ok (.invokestatic 168, 3) := by decide +kernel
theorem dX6_readWhole_36 : decode cX6_readWhole 36 = .ok (.ifCond .ne 11, 3) := by decide +kernel
theorem dX6_readWhole_39 : decode cX6_readWhole 39 = .ok (.aload_n 0, 1) := by decide +kernel
theorem dX6_readWhole_40 : decode cX6_readWhole 40 = .ok (.iconst 2, 1) := by decide +kernel
theorem dX6_readWhole_41 : decode cX6_readWhole 41 = .ok (.invokevirtual 58, 3) := by decide +kernel
theorem dX6_readWhole_44 : decode cX6_readWhole 44 = .ok (.ifCond .eq 7, 3) := by decide +kernel
theorem dX6_readWhole_47 : decode cX6_readWhole 47 = .ok (.iconst 1, 1) := by decide +kernel
theorem dX6_readWhole_48 : decode cX6_readWhole 48 = .ok (.goto 4, 3) := by decide +kernel
theorem dX6_readWhole_51 : decode cX6_readWhole 51 = .ok (.iconst 0, 1) := by decide +kernel
theorem dX6_readWhole_52 : decode cX6_readWhole 52 = .ok (.ireturn, 1) := by decide +kernel
def lX6_readWhole : List (Nat × (Op ⊕ Nat)) := [(0, .inl (o_aload 0 1)), (1, .inl (o_get 6 0 4)), (4, .inl (o_callV fX8_nextToken 0 8 7)), (7, .inl (o_aload 0 8)), (8, .inl (o_get 6 0 11)), (11, .inl (o_get 8 4 14)), (14, .inl (o_pushI (nI 2) 15)), (15, .inl (o_icmp_eq 24 18)), (18, .inl (o_aload 0 19)), (19, .inl (o_pushI (nI 1) 20)), (20, .inl (o_callV fX6_fail 1 6 23)), (23, .inr 1), (24, .inl (o_aload 0 25)), (25, .inl (o_get 6 0 28)), (28, .inl (o_get 8 6 31)), (31, .inl (o_iload 1 32)), (32, .inl (o_iload 2 33)), (33, .inl (o_callS fX10_within 3 36)), (36, .inl (o_if_ne 47 39)), (39, .inl (o_aload 0 40)), (40, .inl (o_pushI (nI 2) 41)), (41, .inl (o_callV fX6_fail 1 6 44)), (44, .inl (o_if_eq 51 47)), (47, .inl (o_pushI (nI 1) 48)), (48, .inl (o_goto 52)), (51, .inl (o_pushI (nI 0) 52)), (52, .inr 1)]
theorem qX6_readWhole : yX6_readWhole.cls = RX6 ∧ yX6_readWhole.cls ≠ "java/lang/invoke/MethodHandle" ∧ yX6_readWhole.cls ≠ "java/lang/invoke/VarHandle" ∧ (parseMethodDescriptor yX6_readWhole.desc).map (fun d => d.parameters.length) = some 2 := by decide +kernel
set_option maxRecDepth 10000 in
theorem hX6_readWhole_0 (l : Launch) {p : Program} {e : Env} {s : State} {m : MethodId} {args : Array Value} {below : List Frame} {meth : Method} {c : Code} {D : va_G} {ad adV : Nat → Nat} {cA : Nat → ClassId} {K : Kt} (C0 : Cx p s m args meth c D ad adV cA cX6_readWhole 3 RX6) (hr : meth.sig.returnType = (some .boolean)) : ∀ q ∈ lX6_readWhole, Sd p l e (rmd 3) s m args below meth c (MQ below (QQ D ad cA K) args s 0 0 (AA ad)) D ad cA 3 q.1 (opOf K q.2) := List.forall_mem_cons.mpr ⟨s_aload_n C0 dX6_readWhole_0 rfl, List.forall_mem_cons.mpr ⟨s_get (ci := 6) (k := 0) C0 dX6_readWhole_1 inX6 rfl (by decide) tw1_139, List.forall_mem_cons.mpr ⟨s_callV (ci := 8) C0 (kX8_nextToken l) dX6_readWhole_4 rfl qX8_nextToken tw2_204 tw2_205 tw2_206 tw1_2 tw2_207 rfl (by decide) (by decide), List.forall_mem_cons.mpr ⟨s_aload_n C0 dX6_readWhole_7 rfl, List.forall_mem_cons.mpr ⟨s_get (ci := 6) (k := 0) C0 dX6_readWhole_8 inX6 rfl (by decide) tw1_139, List.forall_mem_cons.mpr ⟨s_get (ci := 8) (k := 4) C0 dX6_readWhole_11 inX8 rfl (by decide) tw1_43, List.forall_mem_cons.mpr ⟨s_iconst C0 dX6_readWhole_14 rfl, List.forall_mem_cons.mpr ⟨s_icmp_eq C0 dX6_readWhole_15 rfl, List.forall_mem_cons.mpr ⟨s_aload_n C0 dX6_readWhole_18 rfl, List.forall_mem_cons.mpr ⟨s_iconst C0 dX6_readWhole_19 rfl, List.forall_mem_cons.mpr ⟨s_callV (ci := 6) C0 (kX6_fail l) dX6_readWhole_20 rfl qX6_fail tw3_39 tw3_41 twp_5 tw1_3 tw3_42 rfl (by decide) (by decide), List.forall_mem_cons.mpr ⟨s_zret C0 hr dX6_readWhole_23, List.forall_mem_cons.mpr ⟨s_aload_n C0 dX6_readWhole_24 rfl, List.forall_mem_cons.mpr ⟨s_get (ci := 6) (k := 0) C0 dX6_readWhole_25 inX6 rfl (by decide) tw1_139, List.forall_mem_cons.mpr ⟨s_get (ci := 8) (k := 6) C0 dX6_readWhole_28 inX8 rfl (by decide) tw1_47, List.forall_mem_cons.mpr ⟨s_iload_n C0 dX6_readWhole_31 rfl, List.forall_mem_cons.mpr ⟨s_iload_n C0 dX6_readWhole_32 rfl, List.forall_mem_cons.mpr ⟨s_callN C0 (kX10_within l) dX6_readWhole_33 qX10_within (List.mem_of_getElem? (i := 4) rfl) tw2_171 tw1_1 tw2_172 rfl (by decide) (by decide), List.forall_mem_cons.mpr ⟨s_if_ne C0 dX6_readWhole_36 rfl, List.forall_mem_cons.mpr ⟨s_aload_n C0 dX6_readWhole_39 rfl, List.forall_mem_cons.mpr ⟨s_iconst C0 dX6_readWhole_40 rfl, List.forall_mem_cons.mpr ⟨s_callV (ci := 6) C0 (kX6_fail l) dX6_readWhole_41 rfl qX6_fail tw3_39 tw3_41 twp_5 tw1_3 tw3_42 rfl (by decide) (by decide), List.forall_mem_cons.mpr ⟨s_if_eq C0 dX6_readWhole_44 rfl, List.forall_mem_cons.mpr ⟨s_iconst C0 dX6_readWhole_47 rfl, List.forall_mem_cons.mpr ⟨s_goto C0 dX6_readWhole_48 rfl, List.forall_mem_cons.mpr ⟨s_iconst C0 dX6_readWhole_51 rfl, List.forall_mem_cons.mpr ⟨s_zret C0 hr dX6_readWhole_52, fun _ h => absurd h List.not_mem_nil⟩⟩⟩⟩⟩⟩⟩⟩⟩⟩⟩⟩⟩⟩⟩⟩⟩⟩⟩⟩⟩⟩⟩⟩⟩⟩⟩
def fX6_readWhole : Mf := mf 3 (fun K => tl K lX6_readWhole)
theorem kX6_readWhole (l : Launch) : Okm l yX6_readWhole cX6_readWhole 3 (some .boolean) 3 fX6_readWhole := Okm_tl (own := RX6) (by decide +kernel) rfl (fun C0 hr => hX6_readWhole_0 l C0 hr)
theorem dX9_setTrait_0 : decode cX9_setTrait 0 = .ok (.aload_n 0, 1) := by decide +kernel
theorem dX9_setTrait_1 : decode cX9_setTrait 1 = .ok (.getfield 23, 3) := by decide +kernel
theorem dX9_setTrait_4 : decode cX9_setTrait 4 = .ok (.iload_n 1, 1) := by decide +kernel
theorem dX9_setTrait_5 : decode cX9_setTrait 5 = .ok (.iconst 4, 1) := by decide +kernel
theorem dX9_setTrait_6 : decode cX9_setTrait 6 = .ok (.imul, 1) := by decide +kernel
theorem dX9_setTrait_7 : decode cX9_setTrait 7 = .ok (.iload_n 2, 1) := by decide +kernel
theorem dX9_setTrait_8 : decode cX9_setTrait 8 = .ok (.iadd, 1) := by decide +kernel
theorem dX9_setTrait_9 : decode cX9_setTrait 9 = .ok (.iload_n 3, 1) := by decide +kernel
theorem dX9_setTrait_10 : decode cX9_setTrait 10 = .ok (.iastore, 1) := by decide +kernel
theorem dX9_setTrait_11 : decode cX9_setTrait 11 = .ok (.return_, 1) := by decide +kernel
def lX9_setTrait : List (Nat × (Op ⊕ Nat)) := [(0, .inl (o_aload 0 1)), (1, .inl (o_get 9 3 4)), (4, .inl (o_iload 1 5)), (5, .inl (o_pushI (nI 4) 6)), (6, .inl (o_imul 7)), (7, .inl (o_iload 2 8)), (8, .inl (o_iadd 9)), (9, .inl (o_iload 3 10)), (10, .inl (o_iast 11)), (11, .inr 3)]
theorem qX9_setTrait : yX9_setTrait.cls = RX9 ∧ yX9_setTrait.cls ≠ "java/lang/invoke/MethodHandle" ∧ yX9_setTrait.cls ≠ "java/lang/invoke/VarHandle" ∧ (parseMethodDescriptor yX9_setTrait.desc).map (fun d => d.parameters.length) = some 3 := by decide +kernel
set_option maxRecDepth 10000 in
theorem hX9_setTrait_0 (l : Launch) {p : Program} {e : Env} {s : State} {m : MethodId} {args : Array Value} {below : List Frame} {meth : Method} {c : Code} {D : va_G} {ad adV : Nat → Nat} {cA : Nat → ClassId} {K : Kt} (C0 : Cx p s m args meth c D ad adV cA cX9_setTrait 4 RX9) (hr : meth.sig.returnType = none) : ∀ q ∈ lX9_setTrait, Sd p l e (rmd 0) s m args below meth c (MQ below (QQ D ad cA K) args s 0 0 (AA ad)) D ad cA 4 q.1 (opOf K q.2) := List.forall_mem_cons.mpr ⟨s_aload_n C0 dX9_setTrait_0 rfl, List.forall_mem_cons.mpr ⟨s_get (ci := 9) (k := 3) C0 dX9_setTrait_1 inX9 rfl (by decide) tw1_91, List.forall_mem_cons.mpr ⟨s_iload_n C0 dX9_setTrait_4 rfl, List.forall_mem_cons.mpr ⟨s_iconst C0 dX9_setTrait_5 rfl, List.forall_mem_cons.mpr ⟨s_imul C0 dX9_setTrait_6, List.forall_mem_cons.mpr ⟨s_iload_n C0 dX9_setTrait_7 rfl, List.forall_mem_cons.mpr ⟨s_iadd C0 dX9_setTrait_8, List.forall_mem_cons.mpr ⟨s_iload_n C0 dX9_setTrait_9 rfl, List.forall_mem_cons.mpr ⟨s_iast C0 dX9_setTrait_10, List.forall_mem_cons.mpr ⟨s_vret C0 hr dX9_setTrait_11, fun _ h => absurd h List.not_mem_nil⟩⟩⟩⟩⟩⟩⟩⟩⟩⟩
def fX9_setTrait : Mf := mf 4 (fun K => tl K lX9_setTrait)
theorem kX9_setTrait (l : Launch) : Okm l yX9_setTrait cX9_setTrait 4 none 0 fX9_setTrait := Okm_tl (own := RX9) (by decide +kernel) rfl (fun C0 hr => hX9_setTrait_0 l C0 hr)
theorem dX6_readArm_0 : decode cX6_readArm 0 = .ok (.aload_n 0, 1) := by decide +kernel
theorem dX6_readArm_1 : decode cX6_readArm 1 = .ok (.getfield 18, 3) := by decide +kernel
theorem dX6_readArm_4 : decode cX6_readArm 4 = .ok (.getfield 52, 3) := by decide +kernel
theorem dX6_readArm_7 : decode cX6_readArm 7 = .ok (.istore_n 1, 1) := by decide +kernel
theorem dX6_readArm_8 : decode cX6_readArm 8 = .ok (.iload_n 1, 1) := by decide +kernel
theorem dX6_readArm_9 : decode cX6_readArm 9 = .ok (.bipush 8, 2) := by decide +kernel
theorem dX6_readArm_11 : decode cX6_readArm 11 = .ok (.if_icmp .lt 9, 3) := by decide +kernel
theorem dX6_readArm_14 : decode cX6_readArm 14 = .ok (.aload_n 0, 1) := by decide +kernel
theorem dX6_readArm_15 : decode cX6_readArm 15 = .ok (.iconst 4, 1) := by decide +kernel
theorem dX6_readArm_16 : decode cX6_readArm 16 = .ok (.invokevirtual 58, 3) := by decide +kernel
theorem dX6_readArm_19 : decode cX6_readArm 19 = .ok (.ireturn, 1) := by decide +kernel
theorem dX6_readArm_20 : decode cX6_readArm 20 = .ok (.aload_n 0, 1) := by decide +kernel
theorem dX6_readArm_21 : decode cX6_readArm 21 = .ok (.iload_n 1, 1) := by decide +kernel
theorem dX6_readArm_22 : decode cX6_readArm 22 = .ok (.invokevirtual 93, 3) := by decide +kernel
theorem dX6_readArm_25 : decode cX6_readArm 25 = .ok (.ifCond .eq 11, 3) := by decide +kernel
theorem dX6_readArm_28 : decode cX6_readArm 28 = .ok (.aload_n 0, 1) := by decide +kernel
theorem dX6_readArm_29 : decode cX6_readArm 29 = .ok (.iload_n 1, 1) := by decide +kernel
theorem dX6_readArm_30 : decode cX6_readArm 30 = .ok (.invokevirtual 96, 3) := by decide +kernel
theorem dX6_readArm_33 : decode cX6_readArm 33 = .ok (.ifCond .ne 5, 3) := by decide +kernel
theorem dX6_readArm_36 : decode cX6_readArm 36 = .ok (.iconst 0, 1) := by decide +kernel
theorem dX6_readArm_37 : decode cX6_readArm 37 = .ok (.ireturn, 1) := by decide +kernel
theorem dX6_readArm_38 : decode cX6_readArm 38 = .ok (.iconst 0, 1) := by decide +kernel
theorem dX6_readArm_39 : decode cX6_readArm 39 = .ok (.istore_n 2, 1) := by decide +kernel
theorem dX6_readArm_40 : decode cX6_readArm 40 = .ok (.iload_n 2, 1) := by decide +kernel
theorem dX6_readArm_41 : decode cX6_readArm 41 = .ok (.iconst 4, 1) := by decide +kernel
theorem dX6_readArm_42 : decode cX6_readArm 42 = .ok (.if_icmp .ge 48, 3) := by decide +kernel
theorem dX6_readArm_45 : decode cX6_readArm 45 = .ok (.aload_n 0, 1) := by decide +kernel
theorem dX6_readArm_46 : decode cX6_readArm 46 = .ok (.getstatic 99, 3) := by decide +kernel
theorem dX6_readArm_49 : decode cX6_readArm 49 = .ok (.iload_n 2, 1) := by decide +kernel
theorem dX6_readArm_50 : decode cX6_readArm 50 = .ok (.iaload, 1) := by decide +kernel
theorem dX6_readArm_51 : decode cX6_readArm 51 = .ok (.aload_n 0, 1) := by decide +kernel
theorem dX6_readArm_52 : decode cX6_readArm 52 = .ok (.getfield 18, 3) := by decide +kernel
theorem dX6_readArm_55 : decode cX6_readArm 55 = .ok (.iload_n 1, 1) := by decide +kernel
theorem dX6_readArm_56 : decode cX6_readArm 56 = .ok (.iload_n 2, 1) := by decide +kernel
theorem dX6_readArm_57 : decode cX6_readArm 57 = .ok (.invokevirtual 103, 3) := by decide +kernel
theorem dX6_readArm_60 : decode cX6_readArm 60 = .ok (.invokevirtual 107, 3) := by decide +kernel
theorem dX6_readArm_63 : decode cX6_readArm 63 = .ok (.ifCond .ne 5, 3) := by decide +kernel
theorem dX6_readArm_66 : decode cX6_readArm 66 = .ok (.iconst 0, 1) := by decide +kernel
theorem dX6_readArm_67 : decode cX6_readArm 67 = .ok (.ireturn, 1) := by decide +kernel
theorem dX6_readArm_68 : decode cX6_readArm 68 = .ok (.aload_n 0, 1) := by decide +kernel
theorem dX6_readArm_69 : decode cX6_readArm 69 = .ok (.getfield 18, 3) := by decide +kernel
theorem dX6_readArm_72 : decode cX6_readArm 72 = .ok (.iload_n 1, 1) := by decide +kernel
theorem dX6_readArm_73 : decode cX6_readArm 73 = .ok (.iload_n 2, 1) := by decide +kernel
theorem dX6_readArm_74 : decode cX6_readArm 74 = .ok (.aload_n 0, 1) := by decide +kernel
theorem dX6_readArm_75 : decode cX6_readArm 75 = .ok (.getfield 29, 3) := by decide +kernel
theorem dX6_readArm_78 : decode cX6_readArm 78 = .ok (.getfield 111, 3) := by decide +kernel
theorem dX6_readArm_81 : decode cX6_readArm 81 = .ok (.invokevirtual 112, 3) := by decide +kernel
theorem dX6_readArm_84 : decode cX6_readArm 84 = .ok (.iinc 2 1, 3) := by decide +kernel
theorem dX6_readArm_87 : decode cX6_readArm 87 = .ok (.goto (-47), 3) := by decide +kernel
theorem dX6_readArm_90 : decode cX6_readArm 90 = .ok (.aload_n 0, 1) := by decide +kernel
theorem dX6_readArm_91 : decode cX6_readArm 91 = .ok (.getfield 18, 3) := by decide +kernel
theorem dX6_readArm_94 : decode cX6_readArm 94 = .ok (.dup, 1) := by decide +kernel
theorem dX6_readArm_95 : decode cX6_readArm 95 = .ok (.getfield 52, 3) := by decide +kernel
theorem dX6_readArm_98 : decode cX6_readArm 98 = .ok (.iconst 1, 1) := by decide +kernel
theorem dX6_readArm_99 : decode cX6_readArm 99 = .ok (.iadd, 1) := by decide +kernel
theorem dX6_readArm_100 : decode cX6_readArm 100 = .ok (.putfield 52, 3) := by decide +kernel
theorem dX6_readArm_103 : decode cX6_readArm 103 = .ok (.iconst 1, 1) := by decide +kernel
theorem dX6_readArm_104 : decode cX6_readArm 104 = .ok (.ireturn, 1) := by decide +kernel
def lX6_readArm_0 : List (Nat × (Op ⊕ Nat)) := [(0, .inl (o_aload 0 1)), (1, .inl (o_get 6 2 4)), (4, .inl (o_get 9 0 7)), (7, .inl (o_istore 1 8)), (8, .inl (o_iload 1 9)), (9, .inl (o_pushI (nI 8) 11)), (11, .inl (o_icmp_lt 20 14)), (14, .inl (o_aload 0 15)), (15, .inl (o_pushI (nI 4) 16)), (16, .inl (o_callV fX6_fail 1 6 19)), (19, .inr 1), (20, .inl (o_aload 0 21)), (21, .inl (o_iload 1 22)), (22, .inl (o_callV fX6_readName 1 6 25)), (25, .inl (o_if_eq 36 28)), (28, .inl (o_aload 0 29)), (29, .inl (o_iload 1 30)), (30, .inl (o_callV fX6_readHand 1 6 33)), (33, .inl (o_if_ne 38 36)), (36, .inl (o_pushI (nI 0) 37)), (37, .inr 1), (38, .inl (o_pushI (nI 0) 39)), (39, .inl (o_istore 2 40)), (40, .inl (o_iload 2 41)), (41, .inl (o_pushI (nI 4) 42)), (42, .inl (o_icmp_ge 90 45)), (45, .inl (o_aload 0 46)), (46, .inl (o_pushR 100 49)), (49, .inl (o_iload 2 50)), (50, .inl (o_iaro 51)), (51, .inl (o_aload 0 52)), (52, .inl (o_get 6 2 55)), (55, .inl (o_iload 1 56)), (56, .inl (o_iload 2 57)), (57, .inl (o_callV fX9_highestTrait 2 9 60)), (60, .inl (o_callV fX6_readWhole 2 6 63)), (63, .inl (o_if_ne 68 66)), (66, .inl (o_pushI (nI 0) 67)), (67, .inr 1), (68, .inl (o_aload 0 69))]
def lX6_readArm_1 : List (Nat × (Op ⊕ Nat)) := [(69, .inl (o_get 6 2 72)), (72, .inl (o_iload 1 73)), (73, .inl (o_iload 2 74)), (74, .inl (o_aload 0 75)), (75, .inl (o_get 6 0 78)), (78, .inl (o_get 8 6 81)), (81, .inl (o_callV fX9_setTrait 3 9 84)), (84, .inl (o_iinc 2 (nI 1) 87)), (87, .inl (o_goto 40)), (90, .inl (o_aload 0 91)), (91, .inl (o_get 6 2 94)), (94, .inl (o_dup 95)), (95, .inl (o_get 9 0 98)), (98, .inl (o_pushI (nI 1) 99)), (99, .inl (o_iadd 100)), (100, .inl (o_putI 9 0 103)), (103, .inl (o_pushI (nI 1) 104)), (104, .inr 1)]
def lX6_readArm : List (Nat × (Op ⊕ Nat)) := lX6_readArm_0 ++ (lX6_readArm_1)
theorem qX6_readArm : yX6_readArm.cls = RX6 ∧ yX6_readArm.cls ≠ "java/lang/invoke/MethodHandle" ∧ yX6_readArm.cls ≠ "java/lang/invoke/VarHandle" ∧ (parseMethodDescriptor yX6_readArm.desc).map (fun d => d.parameters.length) = some 0 := by decide +kernel
set_option maxRecDepth 10000 in
theorem hX6_readArm_0 (l : Launch) {p : Program} {e : Env} {s : State} {m : MethodId} {args : Array Value} {below : List Frame} {meth : Method} {c : Code} {D : va_G} {ad adV : Nat → Nat} {cA : Nat → ClassId} {K : Kt} (C0 : Cx p s m args meth c D ad adV cA cX6_readArm 3 RX6) (hr : meth.sig.returnType = (some .boolean)) : ∀ q ∈ lX6_readArm_0, Sd p l e (rmd 8) s m args below meth c (MQ below (QQ D ad cA K) args s 0 0 (AA ad)) D ad cA 3 q.1 (opOf K q.2) := List.forall_mem_cons.mpr ⟨s_aload_n C0 dX6_readArm_0 rfl, List.forall_mem_cons.mpr ⟨s_get (ci := 6) (k := 2) C0 dX6_readArm_1 inX6 rfl (by decide) tw1_141, List.forall_mem_cons.mpr ⟨s_get (ci := 9) (k := 0) C0 dX6_readArm_4 inX9 rfl (by decide) tw1_83, List.forall_mem_cons.mpr ⟨s_istore_n C0 dX6_readArm_7 rfl (by decide), List.forall_mem_cons.mpr ⟨s_iload_n C0 dX6_readArm_8 rfl, List.forall_mem_cons.mpr ⟨s_bipush C0 dX6_readArm_9 (by decide +kernel), List.forall_mem_cons.mpr ⟨s_icmp_lt C0 dX6_readArm_11 rfl, List.forall_mem_cons.mpr ⟨s_aload_n C0 dX6_readArm_14 rfl, List.forall_mem_cons.mpr ⟨s_iconst C0 dX6_readArm_15 rfl, List.forall_mem_cons.mpr ⟨s_callV (ci := 6) C0 (kX6_fail l) dX6_readArm_16 rfl qX6_fail tw3_39 tw3_41 twp_5 tw1_3 tw3_42 rfl (by decide) (by decide), List.forall_mem_cons.mpr ⟨s_zret C0 hr dX6_readArm_19, List.forall_mem_cons.mpr ⟨s_aload_n C0 dX6_readArm_20 rfl, List.forall_mem_cons.mpr ⟨s_iload_n C0 dX6_readArm_21 rfl, List.forall_mem_cons.mpr ⟨s_callV (ci := 6) C0 (kX6_readName l) dX6_readArm_22 rfl qX6_readName tw3_43 tw3_45 twp_6 tw1_3 tw3_46 rfl (by decide) (by decide), List.forall_mem_cons.mpr ⟨s_if_eq C0 dX6_readArm_25 rfl, List.forall_mem_cons.mpr ⟨s_aload_n C0 dX6_readArm_28 rfl, List.forall_mem_cons.mpr ⟨s_iload_n C0 dX6_readArm_29 rfl, List.forall_mem_cons.mpr ⟨s_callV (ci := 6) C0 (kX6_readHand l) dX6_readArm_30 rfl qX6_readHand tw3_62 tw3_64 twp_8 tw1_3 tw3_65 rfl (by decide) (by decide), List.forall_mem_cons.mpr ⟨s_if_ne C0 dX6_readArm_33 rfl, List.forall_mem_cons.mpr ⟨s_iconst C0 dX6_readArm_36 rfl, List.forall_mem_cons.mpr ⟨s_zret C0 hr dX6_readArm_37, List.forall_mem_cons.mpr ⟨s_iconst C0 dX6_readArm_38 rfl, List.forall_mem_cons.mpr ⟨s_istore_n C0 dX6_readArm_39 rfl (by decide), List.forall_mem_cons.mpr ⟨s_iload_n C0 dX6_readArm_40 rfl, List.forall_mem_cons.mpr ⟨s_iconst C0 dX6_readArm_41 rfl, List.forall_mem_cons.mpr ⟨s_icmp_ge C0 dX6_readArm_42 rfl, List.forall_mem_cons.mpr ⟨s_aload_n C0 dX6_readArm_45 rfl, List.forall_mem_cons.mpr ⟨s_getsN (k := 0) C0 dX6_readArm_46 (List.mem_of_getElem? (i := 1) rfl) (by decide) rfl, List.forall_mem_cons.mpr ⟨s_iload_n C0 dX6_readArm_49 rfl, List.forall_mem_cons.mpr ⟨s_iaro C0 dX6_readArm_50, List.forall_mem_cons.mpr ⟨s_aload_n C0 dX6_readArm_51 rfl, List.forall_mem_cons.mpr ⟨s_get (ci := 6) (k := 2) C0 dX6_readArm_52 inX6 rfl (by decide) tw1_141, List.forall_mem_cons.mpr ⟨s_iload_n C0 dX6_readArm_55 rfl, List.forall_mem_cons.mpr ⟨s_iload_n C0 dX6_readArm_56 rfl, List.forall_mem_cons.mpr ⟨s_callV (ci := 9) C0 (kX9_highestTrait l) dX6_readArm_57 rfl qX9_highestTrait tw3_68 tw3_69 tw3_70 tw1_4 tw3_71 rfl (by decide) (by decide), List.forall_mem_cons.mpr ⟨s_callV (ci := 6) C0 (kX6_readWhole l) dX6_readArm_60 rfl qX6_readWhole tw3_78 tw3_80 twp_9 tw1_3 tw3_81 rfl (by decide) (by decide), List.forall_mem_cons.mpr ⟨s_if_ne C0 dX6_readArm_63 rfl, List.forall_mem_cons.mpr ⟨s_iconst C0 dX6_readArm_66 rfl, List.forall_mem_cons.mpr ⟨s_zret C0 hr dX6_readArm_67, List.forall_mem_cons.mpr ⟨s_aload_n C0 dX6_readArm_68 rfl, fun _ h => absurd h List.not_mem_nil⟩⟩⟩⟩⟩⟩⟩⟩⟩⟩⟩⟩⟩⟩⟩⟩⟩⟩⟩⟩⟩⟩⟩⟩⟩⟩⟩⟩⟩⟩⟩⟩⟩⟩⟩⟩⟩⟩⟩⟩
set_option maxRecDepth 10000 in
theorem hX6_readArm_1 (l : Launch) {p : Program} {e : Env} {s : State} {m : MethodId} {args : Array Value} {below : List Frame} {meth : Method} {c : Code} {D : va_G} {ad adV : Nat → Nat} {cA : Nat → ClassId} {K : Kt} (C0 : Cx p s m args meth c D ad adV cA cX6_readArm 3 RX6) (hr : meth.sig.returnType = (some .boolean)) : ∀ q ∈ lX6_readArm_1, Sd p l e (rmd 8) s m args below meth c (MQ below (QQ D ad cA K) args s 0 0 (AA ad)) D ad cA 3 q.1 (opOf K q.2) := List.forall_mem_cons.mpr ⟨s_get (ci := 6) (k := 2) C0 dX6_readArm_69 inX6 rfl (by decide) tw1_141, List.forall_mem_cons.mpr ⟨s_iload_n C0 dX6_readArm_72 rfl, List.forall_mem_cons.mpr ⟨s_iload_n C0 dX6_readArm_73 rfl, List.forall_mem_cons.mpr ⟨s_aload_n C0 dX6_readArm_74 rfl, List.forall_mem_cons.mpr ⟨s_get (ci := 6) (k := 0) C0 dX6_readArm_75 inX6 rfl (by decide) tw1_139, List.forall_mem_cons.mpr ⟨s_get (ci := 8) (k := 6) C0 dX6_readArm_78 inX8 rfl (by decide) tw1_47, List.forall_mem_cons.mpr ⟨s_callV (ci := 9) C0 (kX9_setTrait l) dX6_readArm_81 rfl qX9_setTrait tw3_83 tw3_84 tw3_85 tw1_4 tw3_86 rfl (by decide) (by decide), List.forall_mem_cons.mpr ⟨s_iinc C0 dX6_readArm_84 rfl (by decide), List.forall_mem_cons.mpr ⟨s_goto C0 dX6_readArm_87 rfl, List.forall_mem_cons.mpr ⟨s_aload_n C0 dX6_readArm_90 rfl, List.forall_mem_cons.mpr ⟨s_get (ci := 6) (k := 2) C0 dX6_readArm_91 inX6 rfl (by decide) tw1_141, List.forall_mem_cons.mpr ⟨s_dup C0 dX6_readArm_94, List.forall_mem_cons.mpr ⟨s_get (ci := 9) (k := 0) C0 dX6_readArm_95 inX9 rfl (by decide) tw1_83, List.forall_mem_cons.mpr ⟨s_iconst C0 dX6_readArm_98 rfl, List.forall_mem_cons.mpr ⟨s_iadd C0 dX6_readArm_99, List.forall_mem_cons.mpr ⟨s_putI (ci := 9) (k := 0) C0 dX6_readArm_100 inX9 tyX9_ok nmX9 rfl (by decide) rfl rfl tw1_83, List.forall_mem_cons.mpr ⟨s_iconst C0 dX6_readArm_103 rfl, List.forall_mem_cons.mpr ⟨s_zret C0 hr dX6_readArm_104, fun _ h => absurd h List.not_mem_nil⟩⟩⟩⟩⟩⟩⟩⟩⟩⟩⟩⟩⟩⟩⟩⟩⟩⟩
def fX6_readArm : Mf := mf 3 (fun K => tl K lX6_readArm)
theorem kX6_readArm (l : Launch) : Okm l yX6_readArm cX6_readArm 3 (some .boolean) 8 fX6_readArm := Okm_tl (own := RX6) (by decide +kernel) rfl (fun C0 hr => List.forall_mem_append.mpr ⟨hX6_readArm_0 l C0 hr, hX6_readArm_1 l C0 hr⟩)
theorem dX6_readGame_0 : decode cX6_readGame 0 = .ok (.aload_n 0, 1) := by decide +kernel
theorem dX6_readGame_1 : decode cX6_readGame 1 = .ok (.getfield 18, 3) := by decide +kernel
theorem dX6_readGame_4 : decode cX6_readGame 4 = .ok (.getfield 55, 3) := by decide +kernel
theorem dX6_readGame_7 : decode cX6_readGame 7 = .ok (.istore_n 1, 1) := by decide +kernel
theorem dX6_readGame_8 : decode cX6_readGame 8 = .ok (.iload_n 1, 1) := by decide +kernel
theorem dX6_readGame_9 : decode cX6_readGame 9 = .ok (.bipush 20, 2) := by decide +kernel
theorem dX6_readGame_11 : decode cX6_readGame 11 = .ok (.if_icmp .lt 9, 3) := by decide +kernel
theorem dX6_readGame_14 : decode cX6_readGame 14 = .ok (.aload_n 0, 1) := by decide +kernel
theorem dX6_readGame_15 : decode cX6_readGame 15 = .ok (.iconst 4, 1) := by decide +kernel
theorem dX6_readGame_16 : decode cX6_readGame 16 = .ok (.invokevirtual 58, 3) := by decide +kernel
theorem dX6_readGame_19 : decode cX6_readGame 19 = .ok (.ireturn, 1) := by decide +kernel
theorem dX6_readGame_20 : decode cX6_readGame 20 = .ok (.iconst 0, 1) := by decide +kernel
theorem dX6_readGame_21 : decode cX6_readGame 21 = .ok (.istore_n 2, 1) := by decide +kernel
theorem dX6_readGame_22 : decode cX6_readGame 22 = .ok (.iload_n 2, 1) := by decide +kernel
theorem dX6_readGame_23 : decode cX6_readGame 23 = .ok (.iconst 3, 1) := by decide +kernel
theorem dX6_readGame_24 : decode cX6_readGame 24 = .ok (.if_icmp .ge 86, 3) := by decide +kernel
theorem dX6_readGame_27 : decode cX6_readGame 27 = .ok (.iload_n 2, 1) := by decide +kernel
theorem dX6_readGame_28 : decode cX6_readGame 28 = .ok (.ifCond .ne 11, 3) := by decide +kernel
theorem dX6_readGame_31 : decode cX6_readGame 31 = .ok (.iload_n 1, 1) := by decide +kernel
theorem dX6_readGame_32 : decode cX6_readGame 32 = .ok (.ifCond .le 7, 3) := by decide +kernel
theorem dX6_readGame_35 : decode cX6_readGame 35 = .ok (.iconst 1, 1) := by decide +kernel
theorem dX6_readGame_36 : decode cX6_readGame 36 = .ok (.goto 4, 3) := by decide +kernel
theorem dX6_readGame_39 : decode cX6_readGame 39 = .ok (.iconst 0, 1) := by decide +kernel
theorem dX6_readGame_40 : decode cX6_readGame 40 = .ok (.istore_n 3, 1) := by decide +kernel
theorem dX6_readGame_41 : decode cX6_readGame 41 = .ok (.iload_n 3, 1) := by decide +kernel
theorem dX6_readGame_42 : decode cX6_readGame 42 = .ok (.ifCond .eq 19, 3) := by decide +kernel
theorem dX6_readGame_45 : decode cX6_readGame 45 = .ok (.aload_n 0, 1) := by decide +kernel
theorem dX6_readGame_46 : decode cX6_readGame 46 = .ok (.getfield 18, 3) := by decide +kernel
theorem dX6_readGame_49 : decode cX6_readGame 49 = .ok (.iload_n 1, 1) := by decide +kernel
theorem dX6_readGame_50 : decode cX6_readGame 50 = .ok (.iconst 1, 1) := by decide +kernel
theorem dX6_readGame_51 : decode cX6_readGame 51 = .ok (.isub, 1) := by decide +kernel
theorem dX6_readGame_52 : decode cX6_readGame 52 = .ok (.iconst 0, 1) := by decide +kernel
theorem dX6_readGame_53 : decode cX6_readGame 53 = .ok (.invokevirtual 138, 3) := by decide +kernel
theorem dX6_readGame_56 : decode cX6_readGame 56 = .ok (.iconst 1, 1) := by decide +kernel
theorem dX6_readGame_57 : decode cX6_readGame 57 = .ok (.iadd, 1) := by decide +kernel
theorem dX6_readGame_58 : decode cX6_readGame 58 = .ok (.goto 8, 3) := by decide +kernel
theorem dX6_readGame_61 : decode cX6_readGame 61 = .ok (.getstatic 141, 3) := by decide +kernel
theorem dX6_readGame_64 : decode cX6_readGame 64 = .ok (.iload_n 2, 1) := by decide +kernel
theorem dX6_readGame_65 : decode cX6_readGame 65 = .ok (.iaload, 1) := by decide +kernel
theorem dX6_readGame_66 : decode cX6_readGame 66 = .ok (.istore 4, 2) := by decide +kernel
theorem dX6_readGame_68 : decode cX6_readGame 68 = .ok (.aload_n 0, 1) := by decide +kernel
theorem dX6_readGame_69 : decode cX6_readGame 69 = .ok (.iload 4, 2) := by decide +kernel
theorem dX6_readGame_71 : decode cX6_readGame 71 = .ok (.getstatic 144, 3) := by decide +kernel
theorem dX6_readGame_74 : decode cX6_readGame 74 = .ok (.iload_n 2, 1) := by decide +kernel
theorem dX6_readGame_75 : decode cX6_readGame 75 = .ok (.iaload, 1) := by decide +kernel
theorem dX6_readGame_76 : decode cX6_readGame 76 = .ok (.invokevirtual 107, 3) := by decide +kernel
theorem dX6_readGame_79 : decode cX6_readGame 79 = .ok (.ifCond .ne 5, 3) := by decide +kernel
theorem dX6_readGame_82 : decode cX6_readGame 82 = .ok (.iconst 0, 1) := by decide +kernel
theorem dX6_readGame_83 : decode cX6_readGame 83 = .ok (.ireturn, 1) := by decide +kernel
theorem dX6_readGame_84 : decode cX6_readGame 84 = .ok (.aload_n 0, 1) := by decide +kernel
theorem dX6_readGame_85 : decode cX6_readGame 85 = .ok (.getfield 18, 3) := by decide +kernel
theorem dX6_readGame_88 : decode cX6_readGame 88 = .ok (.getfield 147, 3) := by decide +kernel
theorem dX6_readGame_91 : decode cX6_readGame 91 = .ok (.iload_n 1, 1) := by decide +kernel
theorem dX6_readGame_92 : decode cX6_readGame 92 = .ok (.iconst 3, 1) := by decide +kernel
theorem dX6_readGame_93 : decode cX6_readGame 93 = .ok (.imul, 1) := by decide +kernel
theorem dX6_readGame_94 : decode cX6_readGame 94 = .ok (.iload_n 2, 1) := by decide +kernel
theorem dX6_readGame_95 : decode cX6_readGame 95 = .ok (.iadd, 1) := by decide +kernel
theorem dX6_readGame_96 : decode cX6_readGame 96 = .ok (.aload_n 0, 1) := by decide +kernel
theorem dX6_readGame_97 : decode cX6_readGame 97 = .ok (.getfield 29, 3) := by decide +kernel
theorem dX6_readGame_100 : decode cX6_readGame 100 = .ok (.getfield 111, 3) := by decide +kernel
theorem dX6_readGame_103 : decode cX6_readGame 103 = .ok (.iastore, 1) := by decide +kernel
theorem dX6_readGame_104 : decode cX6_readGame 104 = .ok (.iinc 2 1, 3) := by decide +kernel
theorem dX6_readGame_107 : decode cX6_readGame 107 = .ok (.goto (-85), 3) := by decide +kernel
theorem dX6_readGame_110 : decode cX6_readGame 110 = .ok (.aload_n 0, 1) := by decide +kernel
theorem dX6_readGame_111 : decode cX6_readGame 111 = .ok (.getfield 18, 3) := by decide +kernel
theorem dX6_readGame_114 : decode cX6_readGame 114 = .ok (.dup, 1) := by decide +kernel
theorem dX6_readGame_115 : decode cX6_readGame 115 = .ok (.getfield 55, 3) := by decide +kernel
theorem dX6_readGame_118 : decode cX6_readGame 118 = .ok (.iconst 1, 1) := by decide +kernel
theorem dX6_readGame_119 : decode cX6_readGame 119 = .ok (.iadd, 1) := by decide +kernel
theorem dX6_readGame_120 : decode cX6_readGame 120 = .ok (.putfield 55, 3) := by decide +kernel
theorem dX6_readGame_123 : decode cX6_readGame 123 = .ok (.iconst 1, 1) := by decide +kernel
theorem dX6_readGame_124 : decode cX6_readGame 124 = .ok (.ireturn, 1) := by decide +kernel
def lX6_readGame_0 : List (Nat × (Op ⊕ Nat)) := [(0, .inl (o_aload 0 1)), (1, .inl (o_get 6 2 4)), (4, .inl (o_get 9 4 7)), (7, .inl (o_istore 1 8)), (8, .inl (o_iload 1 9)), (9, .inl (o_pushI (nI 20) 11)), (11, .inl (o_icmp_lt 20 14)), (14, .inl (o_aload 0 15)), (15, .inl (o_pushI (nI 4) 16)), (16, .inl (o_callV fX6_fail 1 6 19)), (19, .inr 1), (20, .inl (o_pushI (nI 0) 21)), (21, .inl (o_istore 2 22)), (22, .inl (o_iload 2 23)), (23, .inl (o_pushI (nI 3) 24)), (24, .inl (o_icmp_ge 110 27)), (27, .inl (o_iload 2 28)), (28, .inl (o_if_ne 39 31)), (31, .inl (o_iload 1 32)), (32, .inl (o_if_le 39 35)), (35, .inl (o_pushI (nI 1) 36)), (36, .inl (o_goto 40)), (39, .inl (o_pushI (nI 0) 40)), (40, .inl (o_istore 3 41)), (41, .inl (o_iload 3 42)), (42, .inl (o_if_eq 61 45)), (45, .inl (o_aload 0 46)), (46, .inl (o_get 6 2 49)), (49, .inl (o_iload 1 50)), (50, .inl (o_pushI (nI 1) 51)), (51, .inl (o_isub 52)), (52, .inl (o_pushI (nI 0) 53)), (53, .inl (o_callV fX9_fact 2 9 56)), (56, .inl (o_pushI (nI 1) 57)), (57, .inl (o_iadd 58)), (58, .inl (o_goto 66)), (61, .inl (o_pushR 102 64)), (64, .inl (o_iload 2 65)), (65, .inl (o_iaro 66)), (66, .inl (o_istore 4 68))]
def lX6_readGame_1 : List (Nat × (Op ⊕ Nat)) := [(68, .inl (o_aload 0 69)), (69, .inl (o_iload 4 71)), (71, .inl (o_pushR 103 74)), (74, .inl (o_iload 2 75)), (75, .inl (o_iaro 76)), (76, .inl (o_callV fX6_readWhole 2 6 79)), (79, .inl (o_if_ne 84 82)), (82, .inl (o_pushI (nI 0) 83)), (83, .inr 1), (84, .inl (o_aload 0 85)), (85, .inl (o_get 6 2 88)), (88, .inl (o_get 9 5 91)), (91, .inl (o_iload 1 92)), (92, .inl (o_pushI (nI 3) 93)), (93, .inl (o_imul 94)), (94, .inl (o_iload 2 95)), (95, .inl (o_iadd 96)), (96, .inl (o_aload 0 97)), (97, .inl (o_get 6 0 100)), (100, .inl (o_get 8 6 103)), (103, .inl (o_iast 104)), (104, .inl (o_iinc 2 (nI 1) 107)), (107, .inl (o_goto 22)), (110, .inl (o_aload 0 111)), (111, .inl (o_get 6 2 114)), (114, .inl (o_dup 115)), (115, .inl (o_get 9 4 118)), (118, .inl (o_pushI (nI 1) 119)), (119, .inl (o_iadd 120)), (120, .inl (o_putI 9 4 123)), (123, .inl (o_pushI (nI 1) 124)), (124, .inr 1)]
def lX6_readGame : List (Nat × (Op ⊕ Nat)) := lX6_readGame_0 ++ (lX6_readGame_1)
theorem qX6_readGame : yX6_readGame.cls = RX6 ∧ yX6_readGame.cls ≠ "java/lang/invoke/MethodHandle" ∧ yX6_readGame.cls ≠ "java/lang/invoke/VarHandle" ∧ (parseMethodDescriptor yX6_readGame.desc).map (fun d => d.parameters.length) = some 0 := by decide +kernel
set_option maxRecDepth 10000 in
theorem hX6_readGame_0 (l : Launch) {p : Program} {e : Env} {s : State} {m : MethodId} {args : Array Value} {below : List Frame} {meth : Method} {c : Code} {D : va_G} {ad adV : Nat → Nat} {cA : Nat → ClassId} {K : Kt} (C0 : Cx p s m args meth c D ad adV cA cX6_readGame 5 RX6) (hr : meth.sig.returnType = (some .boolean)) : ∀ q ∈ lX6_readGame_0, Sd p l e (rmd 4) s m args below meth c (MQ below (QQ D ad cA K) args s 0 0 (AA ad)) D ad cA 5 q.1 (opOf K q.2) := List.forall_mem_cons.mpr ⟨s_aload_n C0 dX6_readGame_0 rfl, List.forall_mem_cons.mpr ⟨s_get (ci := 6) (k := 2) C0 dX6_readGame_1 inX6 rfl (by decide) tw1_141, List.forall_mem_cons.mpr ⟨s_get (ci := 9) (k := 4) C0 dX6_readGame_4 inX9 rfl (by decide) tw1_94, List.forall_mem_cons.mpr ⟨s_istore_n C0 dX6_readGame_7 rfl (by decide), List.forall_mem_cons.mpr ⟨s_iload_n C0 dX6_readGame_8 rfl, List.forall_mem_cons.mpr ⟨s_bipush C0 dX6_readGame_9 (by decide +kernel), List.forall_mem_cons.mpr ⟨s_icmp_lt C0 dX6_readGame_11 rfl, List.forall_mem_cons.mpr ⟨s_aload_n C0 dX6_readGame_14 rfl, List.forall_mem_cons.mpr ⟨s_iconst C0 dX6_readGame_15 rfl, List.forall_mem_cons.mpr ⟨s_callV (ci := 6) C0 (kX6_fail l) dX6_readGame_16 rfl qX6_fail tw3_39 tw3_41 twp_5 tw1_3 tw3_42 rfl (by decide) (by decide), List.forall_mem_cons.mpr ⟨s_zret C0 hr dX6_readGame_19, List.forall_mem_cons.mpr ⟨s_iconst C0 dX6_readGame_20 rfl, List.forall_mem_cons.mpr ⟨s_istore_n C0 dX6_readGame_21 rfl (by decide), List.forall_mem_cons.mpr ⟨s_iload_n C0 dX6_readGame_22 rfl, List.forall_mem_cons.mpr ⟨s_iconst C0 dX6_readGame_23 rfl, List.forall_mem_cons.mpr ⟨s_icmp_ge C0 dX6_readGame_24 rfl, List.forall_mem_cons.mpr ⟨s_iload_n C0 dX6_readGame_27 rfl, List.forall_mem_cons.mpr ⟨s_if_ne C0 dX6_readGame_28 rfl, List.forall_mem_cons.mpr ⟨s_iload_n C0 dX6_readGame_31 rfl, List.forall_mem_cons.mpr ⟨s_if_le C0 dX6_readGame_32 rfl, List.forall_mem_cons.mpr ⟨s_iconst C0 dX6_readGame_35 rfl, List.forall_mem_cons.mpr ⟨s_goto C0 dX6_readGame_36 rfl, List.forall_mem_cons.mpr ⟨s_iconst C0 dX6_readGame_39 rfl, List.forall_mem_cons.mpr ⟨s_istore_n C0 dX6_readGame_40 rfl (by decide), List.forall_mem_cons.mpr ⟨s_iload_n C0 dX6_readGame_41 rfl, List.forall_mem_cons.mpr ⟨s_if_eq C0 dX6_readGame_42 rfl, List.forall_mem_cons.mpr ⟨s_aload_n C0 dX6_readGame_45 rfl, List.forall_mem_cons.mpr ⟨s_get (ci := 6) (k := 2) C0 dX6_readGame_46 inX6 rfl (by decide) tw1_141, List.forall_mem_cons.mpr ⟨s_iload_n C0 dX6_readGame_49 rfl, List.forall_mem_cons.mpr ⟨s_iconst C0 dX6_readGame_50 rfl, List.forall_mem_cons.mpr ⟨s_isub C0 dX6_readGame_51, List.forall_mem_cons.mpr ⟨s_iconst C0 dX6_readGame_52 rfl, List.forall_mem_cons.mpr ⟨s_callV (ci := 9) C0 (kX9_fact l) dX6_readGame_53 rfl qX9_fact tw3_91 tw3_92 tw3_93 tw1_4 tw3_94 rfl (by decide) (by decide), List.forall_mem_cons.mpr ⟨s_iconst C0 dX6_readGame_56 rfl, List.forall_mem_cons.mpr ⟨s_iadd C0 dX6_readGame_57, List.forall_mem_cons.mpr ⟨s_goto C0 dX6_readGame_58 rfl, List.forall_mem_cons.mpr ⟨s_getsN (k := 2) C0 dX6_readGame_61 (List.mem_of_getElem? (i := 3) rfl) (by decide) rfl, List.forall_mem_cons.mpr ⟨s_iload_n C0 dX6_readGame_64 rfl, List.forall_mem_cons.mpr ⟨s_iaro C0 dX6_readGame_65, List.forall_mem_cons.mpr ⟨s_istore C0 dX6_readGame_66 (by decide), fun _ h => absurd h List.not_mem_nil⟩⟩⟩⟩⟩⟩⟩⟩⟩⟩⟩⟩⟩⟩⟩⟩⟩⟩⟩⟩⟩⟩⟩⟩⟩⟩⟩⟩⟩⟩⟩⟩⟩⟩⟩⟩⟩⟩⟩⟩
set_option maxRecDepth 10000 in
theorem hX6_readGame_1 (l : Launch) {p : Program} {e : Env} {s : State} {m : MethodId} {args : Array Value} {below : List Frame} {meth : Method} {c : Code} {D : va_G} {ad adV : Nat → Nat} {cA : Nat → ClassId} {K : Kt} (C0 : Cx p s m args meth c D ad adV cA cX6_readGame 5 RX6) (hr : meth.sig.returnType = (some .boolean)) : ∀ q ∈ lX6_readGame_1, Sd p l e (rmd 4) s m args below meth c (MQ below (QQ D ad cA K) args s 0 0 (AA ad)) D ad cA 5 q.1 (opOf K q.2) := List.forall_mem_cons.mpr ⟨s_aload_n C0 dX6_readGame_68 rfl, List.forall_mem_cons.mpr ⟨s_iload C0 dX6_readGame_69, List.forall_mem_cons.mpr ⟨s_getsN (k := 3) C0 dX6_readGame_71 (List.mem_of_getElem? (i := 4) rfl) (by decide) rfl, List.forall_mem_cons.mpr ⟨s_iload_n C0 dX6_readGame_74 rfl, List.forall_mem_cons.mpr ⟨s_iaro C0 dX6_readGame_75, List.forall_mem_cons.mpr ⟨s_callV (ci := 6) C0 (kX6_readWhole l) dX6_readGame_76 rfl qX6_readWhole tw3_78 tw3_80 twp_9 tw1_3 tw3_81 rfl (by decide) (by decide), List.forall_mem_cons.mpr ⟨s_if_ne C0 dX6_readGame_79 rfl, List.forall_mem_cons.mpr ⟨s_iconst C0 dX6_readGame_82 rfl, List.forall_mem_cons.mpr ⟨s_zret C0 hr dX6_readGame_83, List.forall_mem_cons.mpr ⟨s_aload_n C0 dX6_readGame_84 rfl, List.forall_mem_cons.mpr ⟨s_get (ci := 6) (k := 2) C0 dX6_readGame_85 inX6 rfl (by decide) tw1_141, List.forall_mem_cons.mpr ⟨s_get (ci := 9) (k := 5) C0 dX6_readGame_88 inX9 rfl (by decide) tw1_100, List.forall_mem_cons.mpr ⟨s_iload_n C0 dX6_readGame_91 rfl, List.forall_mem_cons.mpr ⟨s_iconst C0 dX6_readGame_92 rfl, List.forall_mem_cons.mpr ⟨s_imul C0 dX6_readGame_93, List.forall_mem_cons.mpr ⟨s_iload_n C0 dX6_readGame_94 rfl, List.forall_mem_cons.mpr ⟨s_iadd C0 dX6_readGame_95, List.forall_mem_cons.mpr ⟨s_aload_n C0 dX6_readGame_96 rfl, List.forall_mem_cons.mpr ⟨s_get (ci := 6) (k := 0) C0 dX6_readGame_97 inX6 rfl (by decide) tw1_139, List.forall_mem_cons.mpr ⟨s_get (ci := 8) (k := 6) C0 dX6_readGame_100 inX8 rfl (by decide) tw1_47, List.forall_mem_cons.mpr ⟨s_iast C0 dX6_readGame_103, List.forall_mem_cons.mpr ⟨s_iinc C0 dX6_readGame_104 rfl (by decide), List.forall_mem_cons.mpr ⟨s_goto C0 dX6_readGame_107 rfl, List.forall_mem_cons.mpr ⟨s_aload_n C0 dX6_readGame_110 rfl, List.forall_mem_cons.mpr ⟨s_get (ci := 6) (k := 2) C0 dX6_readGame_111 inX6 rfl (by decide) tw1_141, List.forall_mem_cons.mpr ⟨s_dup C0 dX6_readGame_114, List.forall_mem_cons.mpr ⟨s_get (ci := 9) (k := 4) C0 dX6_readGame_115 inX9 rfl (by decide) tw1_94, List.forall_mem_cons.mpr ⟨s_iconst C0 dX6_readGame_118 rfl, List.forall_mem_cons.mpr ⟨s_iadd C0 dX6_readGame_119, List.forall_mem_cons.mpr ⟨s_putI (ci := 9) (k := 4) C0 dX6_readGame_120 inX9 tyX9_ok nmX9 rfl (by decide) rfl rfl tw1_94, List.forall_mem_cons.mpr ⟨s_iconst C0 dX6_readGame_123 rfl, List.forall_mem_cons.mpr ⟨s_zret C0 hr dX6_readGame_124, fun _ h => absurd h List.not_mem_nil⟩⟩⟩⟩⟩⟩⟩⟩⟩⟩⟩⟩⟩⟩⟩⟩⟩⟩⟩⟩⟩⟩⟩⟩⟩⟩⟩⟩⟩⟩⟩⟩
def fX6_readGame : Mf := mf 5 (fun K => tl K lX6_readGame)
theorem kX6_readGame (l : Launch) : Okm l yX6_readGame cX6_readGame 5 (some .boolean) 4 fX6_readGame := Okm_tl (own := RX6) (by decide +kernel) rfl (fun C0 hr => List.forall_mem_append.mpr ⟨hX6_readGame_0 l C0 hr, hX6_readGame_1 l C0 hr⟩)
theorem dX6_readRest_0 : decode cX6_readRest 0 = .ok (.aload_n 0, 1) := by decide +kernel
theorem dX6_readRest_1 : decode cX6_readRest 1 = .ok (.getfield 18, 3) := by decide +kernel
theorem dX6_readRest_4 : decode cX6_readRest 4 = .ok (.getfield 150, 3) := by decide +kernel
theorem dX6_readRest_7 : decode cX6_readRest 7 = .ok (.istore_n 1, 1) := by decide +kernel
theorem dX6_readRest_8 : decode cX6_readRest 8 = .ok (.iload_n 1, 1) := by decide +kernel
theorem dX6_readRest_9 : decode cX6_readRest 9 = .ok (.iconst 5, 1) := by decide +kernel
theorem dX6_readRest_10 : decode cX6_readRest 10 = .ok (.if_icmp .lt 9, 3) := by decide +kernel
theorem dX6_readRest_13 : decode cX6_readRest 13 = .ok (.aload_n 0, 1) := by decide +kernel
theorem dX6_readRest_14 : decode cX6_readRest 14 = .ok (.iconst 4, 1) := by decide +kernel
theorem dX6_readRest_15 : decode cX6_readRest 15 = .ok (.invokevirtual 58, 3) := by decide +kernel
theorem dX6_readRest_18 : decode cX6_readRest 18 = .ok (.ireturn, 1) := by decide +kernel
theorem dX6_readRest_19 : decode cX6_readRest 19 = .ok (.iload_n 1, 1) := by decide +kernel
theorem dX6_readRest_20 : decode cX6_readRest 20 = .ok (.ifCond .le 19, 3) := by decide +kernel
theorem dX6_readRest_23 : decode cX6_readRest 23 = .ok (.aload_n 0, 1) := by decide +kernel
theorem dX6_readRest_24 : decode cX6_readRest 24 = .ok (.getfield 18, 3) := by decide +kernel
theorem dX6_readRest_27 : decode cX6_readRest 27 = .ok (.getfield 153, 3) := by decide +kernel
theorem dX6_readRest_30 : decode cX6_readRest 30 = .ok (.iload_n 1, 1) := by decide +kernel
theorem dX6_readRest_31 : decode cX6_readRest 31 = .ok (.iconst 1, 1) := by decide +kernel
theorem dX6_readRest_32 : decode cX6_readRest 32 = .ok (.isub, 1) := by decide +kernel
theorem dX6_readRest_33 : decode cX6_readRest 33 = .ok (.iaload, 1) := by decide +kernel
theorem dX6_readRest_34 : decode cX6_readRest 34 = .ok (.iconst 1, 1) := by decide +kernel
theorem dX6_readRest_35 : decode cX6_readRest 35 = .ok (.iadd, 1) := by decide +kernel
theorem dX6_readRest_36 : decode cX6_readRest 36 = .ok (.goto 4, 3) := by decide +kernel
theorem dX6_readRest_39 : decode cX6_readRest 39 = .ok (.iconst 1, 1) := by decide +kernel
theorem dX6_readRest_40 : decode cX6_readRest 40 = .ok (.istore_n 2, 1) := by decide +kernel
theorem dX6_readRest_41 : decode cX6_readRest 41 = .ok (.aload_n 0, 1) := by decide +kernel
theorem dX6_readRest_42 : decode cX6_readRest 42 = .ok (.iload_n 2, 1) := by decide +kernel
theorem dX6_readRest_43 : decode cX6_readRest 43 = .ok (.bipush 120, 2) := by decide +kernel
theorem dX6_readRest_45 : decode cX6_readRest 45 = .ok (.invokevirtual 107, 3) := by decide +kernel
theorem dX6_readRest_48 : decode cX6_readRest 48 = .ok (.ifCond .ne 5, 3) := by decide +kernel
theorem dX6_readRest_51 : decode cX6_readRest 51 = .ok (.iconst 0, 1) := by decide +kernel
theorem dX6_readRest_52 : decode cX6_readRest 52 = .ok (.ireturn, 1) := by decide +kernel
theorem dX6_readRest_53 : decode cX6_readRest 53 = .ok (.aload_n 0, 1) := by decide +kernel
theorem dX6_readRest_54 : decode cX6_readRest 54 = .ok (.getfield 18, 3) := by decide +kernel
theorem dX6_readRest_57 : decode cX6_readRest 57 = .ok (.getfield 153, 3) := by decide +kernel
theorem dX6_readRest_60 : decode cX6_readRest 60 = .ok (.iload_n 1, 1) := by decide +kernel
theorem dX6_readRest_61 : decode cX6_readRest 61 = .ok (.aload_n 0, 1) := by decide +kernel
theorem dX6_readRest_62 : decode cX6_readRest 62 = .ok (.getfield 29, 3) := by decide +kernel
theorem dX6_readRest_65 : decode cX6_readRest 65 = .ok (.getfield 111, 3) := by decide +kernel
theorem dX6_readRest_68 : decode cX6_readRest 68 = .ok (.iastore, 1) := by decide +kernel
theorem dX6_readRest_69 : decode cX6_readRest 69 = .ok (.aload_n 0, 1) := by decide +kernel
theorem dX6_readRest_70 : decode cX6_readRest 70 = .ok (.iconst 0, 1) := by decide +kernel
theorem dX6_readRest_71 : decode cX6_readRest 71 = .ok (.bipush 9, 2) := by decide +kernel
theorem dX6_readRest_73 : decode cX6_readRest 73 = .ok (.invokevirtual 107, 3) := by decide +kernel
theorem dX6_readRest_76 : decode cX6_readRest 76 = .ok (.ifCond .ne 5, 3) := by decide +kernel
theorem dX6_readRest_79 : decode cX6_readRest 79 = .ok (.iconst 0, 1) := by decide +kernel
theorem dX6_readRest_80 : decode cX6_readRest 80 = .ok (.ireturn, 1) := by decide +kernel
theorem dX6_readRest_81 : decode cX6_readRest 81 = .ok (.aload_n 0, 1) := by decide +kernel
theorem dX6_readRest_82 : decode cX6_readRest 82 = .ok (.getfield 18, 3) := by decide +kernel
theorem dX6_readRest_85 : decode cX6_readRest 85 = .ok (.getfield 156, 3) := by decide +kernel
theorem dX6_readRest_88 : decode cX6_readRest 88 = .ok (.iload_n 1, 1) := by decide +kernel
theorem dX6_readRest_89 : decode cX6_readRest 89 = .ok (.aload_n 0, 1) := by decide +kernel
theorem dX6_readRest_90 : decode cX6_readRest 90 = .ok (.getfield 29, 3) := by decide +kernel
theorem dX6_readRest_93 : decode cX6_readRest 93 = .ok (.getfield 111, 3) := by decide +kernel
theorem dX6_readRest_96 : decode cX6_readRest 96 = .ok (.iastore, 1) := by decide +kernel
theorem dX6_readRest_97 : decode cX6_readRest 97 = .ok (.aload_n 0, 1) := by decide +kernel
theorem dX6_readRest_98 : decode cX6_readRest 98 = .ok (.getfield 18, 3) := by decide +kernel
theorem dX6_readRest_101 : decode cX6_readRest 101 = .ok (.dup, 1) := by decide +kernel
theorem dX6_readRest_102 : decode cX6_readRest 102 = .ok (.getfield 150, 3) := by decide +kernel
theorem dX6_readRest_105 : decode cX6_readRest 105 = .ok (.iconst 1, 1) := by decide +kernel
theorem dX6_readRest_106 : decode cX6_readRest 106 = .ok (.iadd, 1) := by decide +kernel
theorem dX6_readRest_107 : decode cX6_readRest 107 = .ok (.putfield 150, 3) := by decide +kernel
theorem dX6_readRest_110 : decode cX6_readRest 110 = .ok (.iconst 1, 1) := by decide +kernel
theorem dX6_readRest_111 : decode cX6_readRest 111 = .ok (.ireturn, 1) := by decide +kernel
def lX6_readRest_0 : List (Nat × (Op ⊕ Nat)) := [(0, .inl (o_aload 0 1)), (1, .inl (o_get 6 2 4)), (4, .inl (o_get 9 7 7)), (7, .inl (o_istore 1 8)), (8, .inl (o_iload 1 9)), (9, .inl (o_pushI (nI 5) 10)), (10, .inl (o_icmp_lt 19 13)), (13, .inl (o_aload 0 14)), (14, .inl (o_pushI (nI 4) 15)), (15, .inl (o_callV fX6_fail 1 6 18)), (18, .inr 1), (19, .inl (o_iload 1 20)), (20, .inl (o_if_le 39 23)), (23, .inl (o_aload 0 24)), (24, .inl (o_get 6 2 27)), (27, .inl (o_get 9 8 30)), (30, .inl (o_iload 1 31)), (31, .inl (o_pushI (nI 1) 32)), (32, .inl (o_isub 33)), (33, .inl (o_iald 34)), (34, .inl (o_pushI (nI 1) 35)), (35, .inl (o_iadd 36)), (36, .inl (o_goto 40)), (39, .inl (o_pushI (nI 1) 40)), (40, .inl (o_istore 2 41)), (41, .inl (o_aload 0 42)), (42, .inl (o_iload 2 43)), (43, .inl (o_pushI (nI 120) 45)), (45, .inl (o_callV fX6_readWhole 2 6 48)), (48, .inl (o_if_ne 53 51)), (51, .inl (o_pushI (nI 0) 52)), (52, .inr 1), (53, .inl (o_aload 0 54)), (54, .inl (o_get 6 2 57)), (57, .inl (o_get 9 8 60)), (60, .inl (o_iload 1 61)), (61, .inl (o_aload 0 62)), (62, .inl (o_get 6 0 65)), (65, .inl (o_get 8 6 68)), (68, .inl (o_iast 69))]
def lX6_readRest_1 : List (Nat × (Op ⊕ Nat)) := [(69, .inl (o_aload 0 70)), (70, .inl (o_pushI (nI 0) 71)), (71, .inl (o_pushI (nI 9) 73)), (73, .inl (o_callV fX6_readWhole 2 6 76)), (76, .inl (o_if_ne 81 79)), (79, .inl (o_pushI (nI 0) 80)), (80, .inr 1), (81, .inl (o_aload 0 82)), (82, .inl (o_get 6 2 85)), (85, .inl (o_get 9 9 88)), (88, .inl (o_iload 1 89)), (89, .inl (o_aload 0 90)), (90, .inl (o_get 6 0 93)), (93, .inl (o_get 8 6 96)), (96, .inl (o_iast 97)), (97, .inl (o_aload 0 98)), (98, .inl (o_get 6 2 101)), (101, .inl (o_dup 102)), (102, .inl (o_get 9 7 105)), (105, .inl (o_pushI (nI 1) 106)), (106, .inl (o_iadd 107)), (107, .inl (o_putI 9 7 110)), (110, .inl (o_pushI (nI 1) 111)), (111, .inr 1)]
def lX6_readRest : List (Nat × (Op ⊕ Nat)) := lX6_readRest_0 ++ (lX6_readRest_1)
theorem qX6_readRest : yX6_readRest.cls = RX6 ∧ yX6_readRest.cls ≠ "java/lang/invoke/MethodHandle" ∧ yX6_readRest.cls ≠ "java/lang/invoke/VarHandle" ∧ (parseMethodDescriptor yX6_readRest.desc).map (fun d => d.parameters.length) = some 0 := by decide +kernel
set_option maxRecDepth 10000 in
theorem hX6_readRest_0 (l : Launch) {p : Program} {e : Env} {s : State} {m : MethodId} {args : Array Value} {below : List Frame} {meth : Method} {c : Code} {D : va_G} {ad adV : Nat → Nat} {cA : Nat → ClassId} {K : Kt} (C0 : Cx p s m args meth c D ad adV cA cX6_readRest 3 RX6) (hr : meth.sig.returnType = (some .boolean)) : ∀ q ∈ lX6_readRest_0, Sd p l e (rmd 4) s m args below meth c (MQ below (QQ D ad cA K) args s 0 0 (AA ad)) D ad cA 3 q.1 (opOf K q.2) := List.forall_mem_cons.mpr ⟨s_aload_n C0 dX6_readRest_0 rfl, List.forall_mem_cons.mpr ⟨s_get (ci := 6) (k := 2) C0 dX6_readRest_1 inX6 rfl (by decide) tw1_141, List.forall_mem_cons.mpr ⟨s_get (ci := 9) (k := 7) C0 dX6_readRest_4 inX9 rfl (by decide) tw1_109, List.forall_mem_cons.mpr ⟨s_istore_n C0 dX6_readRest_7 rfl (by decide), List.forall_mem_cons.mpr ⟨s_iload_n C0 dX6_readRest_8 rfl, List.forall_mem_cons.mpr ⟨s_iconst C0 dX6_readRest_9 rfl, List.forall_mem_cons.mpr ⟨s_icmp_lt C0 dX6_readRest_10 rfl, List.forall_mem_cons.mpr ⟨s_aload_n C0 dX6_readRest_13 rfl, List.forall_mem_cons.mpr ⟨s_iconst C0 dX6_readRest_14 rfl, List.forall_mem_cons.mpr ⟨s_callV (ci := 6) C0 (kX6_fail l) dX6_readRest_15 rfl qX6_fail tw3_39 tw3_41 twp_5 tw1_3 tw3_42 rfl (by decide) (by decide), List.forall_mem_cons.mpr ⟨s_zret C0 hr dX6_readRest_18, List.forall_mem_cons.mpr ⟨s_iload_n C0 dX6_readRest_19 rfl, List.forall_mem_cons.mpr ⟨s_if_le C0 dX6_readRest_20 rfl, List.forall_mem_cons.mpr ⟨s_aload_n C0 dX6_readRest_23 rfl, List.forall_mem_cons.mpr ⟨s_get (ci := 6) (k := 2) C0 dX6_readRest_24 inX6 rfl (by decide) tw1_141, List.forall_mem_cons.mpr ⟨s_get (ci := 9) (k := 8) C0 dX6_readRest_27 inX9 rfl (by decide) tw1_111, List.forall_mem_cons.mpr ⟨s_iload_n C0 dX6_readRest_30 rfl, List.forall_mem_cons.mpr ⟨s_iconst C0 dX6_readRest_31 rfl, List.forall_mem_cons.mpr ⟨s_isub C0 dX6_readRest_32, List.forall_mem_cons.mpr ⟨s_iald C0 dX6_readRest_33, List.forall_mem_cons.mpr ⟨s_iconst C0 dX6_readRest_34 rfl, List.forall_mem_cons.mpr ⟨s_iadd C0 dX6_readRest_35, List.forall_mem_cons.mpr ⟨s_goto C0 dX6_readRest_36 rfl, List.forall_mem_cons.mpr ⟨s_iconst C0 dX6_readRest_39 rfl, List.forall_mem_cons.mpr ⟨s_istore_n C0 dX6_readRest_40 rfl (by decide), List.forall_mem_cons.mpr ⟨s_aload_n C0 dX6_readRest_41 rfl, List.forall_mem_cons.mpr ⟨s_iload_n C0 dX6_readRest_42 rfl, List.forall_mem_cons.mpr ⟨s_bipush C0 dX6_readRest_43 (by decide +kernel), List.forall_mem_cons.mpr ⟨s_callV (ci := 6) C0 (kX6_readWhole l) dX6_readRest_45 rfl qX6_readWhole tw3_78 tw3_80 twp_9 tw1_3 tw3_81 rfl (by decide) (by decide), List.forall_mem_cons.mpr ⟨s_if_ne C0 dX6_readRest_48 rfl, List.forall_mem_cons.mpr ⟨s_iconst C0 dX6_readRest_51 rfl, List.forall_mem_cons.mpr ⟨s_zret C0 hr dX6_readRest_52, List.forall_mem_cons.mpr ⟨s_aload_n C0 dX6_readRest_53 rfl, List.forall_mem_cons.mpr ⟨s_get (ci := 6) (k := 2) C0 dX6_readRest_54 inX6 rfl (by decide) tw1_141, List.forall_mem_cons.mpr ⟨s_get (ci := 9) (k := 8) C0 dX6_readRest_57 inX9 rfl (by decide) tw1_111, List.forall_mem_cons.mpr ⟨s_iload_n C0 dX6_readRest_60 rfl, List.forall_mem_cons.mpr ⟨s_aload_n C0 dX6_readRest_61 rfl, List.forall_mem_cons.mpr ⟨s_get (ci := 6) (k := 0) C0 dX6_readRest_62 inX6 rfl (by decide) tw1_139, List.forall_mem_cons.mpr ⟨s_get (ci := 8) (k := 6) C0 dX6_readRest_65 inX8 rfl (by decide) tw1_47, List.forall_mem_cons.mpr ⟨s_iast C0 dX6_readRest_68, fun _ h => absurd h List.not_mem_nil⟩⟩⟩⟩⟩⟩⟩⟩⟩⟩⟩⟩⟩⟩⟩⟩⟩⟩⟩⟩⟩⟩⟩⟩⟩⟩⟩⟩⟩⟩⟩⟩⟩⟩⟩⟩⟩⟩⟩⟩
set_option maxRecDepth 10000 in
theorem hX6_readRest_1 (l : Launch) {p : Program} {e : Env} {s : State} {m : MethodId} {args : Array Value} {below : List Frame} {meth : Method} {c : Code} {D : va_G} {ad adV : Nat → Nat} {cA : Nat → ClassId} {K : Kt} (C0 : Cx p s m args meth c D ad adV cA cX6_readRest 3 RX6) (hr : meth.sig.returnType = (some .boolean)) : ∀ q ∈ lX6_readRest_1, Sd p l e (rmd 4) s m args below meth c (MQ below (QQ D ad cA K) args s 0 0 (AA ad)) D ad cA 3 q.1 (opOf K q.2) := List.forall_mem_cons.mpr ⟨s_aload_n C0 dX6_readRest_69 rfl, List.forall_mem_cons.mpr ⟨s_iconst C0 dX6_readRest_70 rfl, List.forall_mem_cons.mpr ⟨s_bipush C0 dX6_readRest_71 (by decide +kernel), List.forall_mem_cons.mpr ⟨s_callV (ci := 6) C0 (kX6_readWhole l) dX6_readRest_73 rfl qX6_readWhole tw3_78 tw3_80 twp_9 tw1_3 tw3_81 rfl (by decide) (by decide), List.forall_mem_cons.mpr ⟨s_if_ne C0 dX6_readRest_76 rfl, List.forall_mem_cons.mpr ⟨s_iconst C0 dX6_readRest_79 rfl, List.forall_mem_cons.mpr ⟨s_zret C0 hr dX6_readRest_80, List.forall_mem_cons.mpr ⟨s_aload_n C0 dX6_readRest_81 rfl, List.forall_mem_cons.mpr ⟨s_get (ci := 6) (k := 2) C0 dX6_readRest_82 inX6 rfl (by decide) tw1_141, List.forall_mem_cons.mpr ⟨s_get (ci := 9) (k := 9) C0 dX6_readRest_85 inX9 rfl (by decide) tw1_113, List.forall_mem_cons.mpr ⟨s_iload_n C0 dX6_readRest_88 rfl, List.forall_mem_cons.mpr ⟨s_aload_n C0 dX6_readRest_89 rfl, List.forall_mem_cons.mpr ⟨s_get (ci := 6) (k := 0) C0 dX6_readRest_90 inX6 rfl (by decide) tw1_139, List.forall_mem_cons.mpr ⟨s_get (ci := 8) (k := 6) C0 dX6_readRest_93 inX8 rfl (by decide) tw1_47, List.forall_mem_cons.mpr ⟨s_iast C0 dX6_readRest_96, List.forall_mem_cons.mpr ⟨s_aload_n C0 dX6_readRest_97 rfl, List.forall_mem_cons.mpr ⟨s_get (ci := 6) (k := 2) C0 dX6_readRest_98 inX6 rfl (by decide) tw1_141, List.forall_mem_cons.mpr ⟨s_dup C0 dX6_readRest_101, List.forall_mem_cons.mpr ⟨s_get (ci := 9) (k := 7) C0 dX6_readRest_102 inX9 rfl (by decide) tw1_109, List.forall_mem_cons.mpr ⟨s_iconst C0 dX6_readRest_105 rfl, List.forall_mem_cons.mpr ⟨s_iadd C0 dX6_readRest_106, List.forall_mem_cons.mpr ⟨s_putI (ci := 9) (k := 7) C0 dX6_readRest_107 inX9 tyX9_ok nmX9 rfl (by decide) rfl rfl tw1_109, List.forall_mem_cons.mpr ⟨s_iconst C0 dX6_readRest_110 rfl, List.forall_mem_cons.mpr ⟨s_zret C0 hr dX6_readRest_111, fun _ h => absurd h List.not_mem_nil⟩⟩⟩⟩⟩⟩⟩⟩⟩⟩⟩⟩⟩⟩⟩⟩⟩⟩⟩⟩⟩⟩⟩⟩
def fX6_readRest : Mf := mf 3 (fun K => tl K lX6_readRest)
theorem kX6_readRest (l : Launch) : Okm l yX6_readRest cX6_readRest 3 (some .boolean) 4 fX6_readRest := Okm_tl (own := RX6) (by decide +kernel) rfl (fun C0 hr => List.forall_mem_append.mpr ⟨hX6_readRest_0 l C0 hr, hX6_readRest_1 l C0 hr⟩)
theorem dX6_readBound_0 : decode cX6_readBound 0 = .ok (.aload_n 0, 1) := by decide +kernel
theorem dX6_readBound_1 : decode cX6_readBound 1 = .ok (.getfield 9, 3) := by decide +kernel
theorem dX6_readBound_4 : decode cX6_readBound 4 = .ok (.iload_n 1, 1) := by decide +kernel
theorem dX6_readBound_5 : decode cX6_readBound 5 = .ok (.baload, 1) := by decide +kernel
theorem dX6_readBound_6 : decode cX6_readBound 6 = .ok (.ifCond .eq 9, 3) := by decide +kernel
theorem dX6_readBound_9 : decode cX6_readBound 9 = .ok (.aload_n 0, 1) := by decide +kernel
theorem dX6_readBound_10 : decode cX6_readBound 10 = .ok (.iconst 3, 1) := by decide +kernel
theorem dX6_readBound_11 : decode cX6_readBound 11 = .ok (.invokevirtual 58, 3) := by decide +kernel
theorem dX6_readBound_14 : decode cX6_readBound 14 = .ok (.ireturn, 1) := by decide +kernel
theorem dX6_readBound_15 : decode cX6_readBound 15 = .ok (.aload_n 0, 1) := by decide +kernel
theorem dX6_readBound_16 : decode cX6_readBound 16 = .ok (.getfield 9, 3) := by decide +kernel
theorem dX6_readBound_19 : decode cX6_readBound 19 = .ok (.iload_n 1, 1) := by decide +kernel
theorem dX6_readBound_20 : decode cX6_readBound 20 = .ok (.iconst 1, 1) := by decide +kernel
theorem dX6_readBound_21 : decode cX6_readBound 21 = .ok (.bastore, 1) := by decide +kernel
theorem dX6_readBound_22 : decode cX6_readBound 22 = .ok (.aload_n 0, 1) := by decide +kernel
theorem dX6_readBound_23 : decode cX6_readBound 23 = .ok (.getstatic 159, 3) := by decide +kernel
theorem dX6_readBound_26 : decode cX6_readBound 26 = .ok (.iload_n 1, 1) := by decide +kernel
theorem dX6_readBound_27 : decode cX6_readBound 27 = .ok (.iaload, 1) := by decide +kernel
theorem dX6_readBound_28 : decode cX6_readBound 28 = .ok (.getstatic 162, 3) := by decide +kernel
theorem dX6_readBound_31 : decode cX6_readBound 31 = .ok (.iload_n 1, 1) := by decide +kernel
theorem dX6_readBound_32 : decode cX6_readBound 32 = .ok (.iaload, 1) := by decide +kernel
theorem dX6_readBound_33 : decode cX6_readBound 33 = .ok (.invokevirtual 107, 3) := by decide +kernel
theorem dX6_readBound_36 : decode cX6_readBound 36 = .ok (.ifCond .ne 5, 3) := by decide +kernel
theorem dX6_readBound_39 : decode cX6_readBound 39 = .ok (.iconst 0, 1) := by decide +kernel
theorem dX6_readBound_40 : decode cX6_readBound 40 = .ok (.ireturn, 1) := by decide +kernel
theorem dX6_readBound_41 : decode cX6_readBound 41 = .ok (.aload_n 0, 1) := by decide +kernel
theorem dX6_readBound_42 : decode cX6_readBound 42 = .ok (.getfield 18, 3) := by decide +kernel
theorem dX6_readBound_45 : decode cX6_readBound 45 = .ok (.getfield 165, 3) := by decide +kernel
theorem dX6_readBound_48 : decode cX6_readBound 48 = .ok (.iload_n 1, 1) := by decide +kernel
theorem dX6_readBound_49 : decode cX6_readBound 49 = .ok (.aload_n 0, 1) := by decide +kernel
theorem dX6_readBound_50 : decode cX6_readBound 50 = .ok (.getfield 29, 3) := by decide +kernel
theorem dX6_readBound_53 : decode cX6_readBound 53 = .ok (.getfield 111, 3) := by decide +kernel
theorem dX6_readBound_56 : decode cX6_readBound 56 = .ok (.iastore, 1) := by decide +kernel
theorem dX6_readBound_57 : decode cX6_readBound 57 = .ok (.iconst 1, 1) := by decide +kernel
theorem dX6_readBound_58 : decode cX6_readBound 58 = .ok (.ireturn, 1) := by decide +kernel
def lX6_readBound : List (Nat × (Op ⊕ Nat)) := [(0, .inl (o_aload 0 1)), (1, .inl (o_get 6 1 4)), (4, .inl (o_iload 1 5)), (5, .inl (o_zald 6)), (6, .inl (o_if_eq 15 9)), (9, .inl (o_aload 0 10)), (10, .inl (o_pushI (nI 3) 11)), (11, .inl (o_callV fX6_fail 1 6 14)), (14, .inr 1), (15, .inl (o_aload 0 16)), (16, .inl (o_get 6 1 19)), (19, .inl (o_iload 1 20)), (20, .inl (o_pushI (nI 1) 21)), (21, .inl (o_zast 22)), (22, .inl (o_aload 0 23)), (23, .inl (o_pushR 104 26)), (26, .inl (o_iload 1 27)), (27, .inl (o_iaro 28)), (28, .inl (o_pushR 105 31)), (31, .inl (o_iload 1 32)), (32, .inl (o_iaro 33)), (33, .inl (o_callV fX6_readWhole 2 6 36)), (36, .inl (o_if_ne 41 39)), (39, .inl (o_pushI (nI 0) 40)), (40, .inr 1), (41, .inl (o_aload 0 42)), (42, .inl (o_get 6 2 45)), (45, .inl (o_get 9 6 48)), (48, .inl (o_iload 1 49)), (49, .inl (o_aload 0 50)), (50, .inl (o_get 6 0 53)), (53, .inl (o_get 8 6 56)), (56, .inl (o_iast 57)), (57, .inl (o_pushI (nI 1) 58)), (58, .inr 1)]
theorem qX6_readBound : yX6_readBound.cls = RX6 ∧ yX6_readBound.cls ≠ "java/lang/invoke/MethodHandle" ∧ yX6_readBound.cls ≠ "java/lang/invoke/VarHandle" ∧ (parseMethodDescriptor yX6_readBound.desc).map (fun d => d.parameters.length) = some 1 := by decide +kernel
set_option maxRecDepth 10000 in
theorem hX6_readBound_0 (l : Launch) {p : Program} {e : Env} {s : State} {m : MethodId} {args : Array Value} {below : List Frame} {meth : Method} {c : Code} {D : va_G} {ad adV : Nat → Nat} {cA : Nat → ClassId} {K : Kt} (C0 : Cx p s m args meth c D ad adV cA cX6_readBound 2 RX6) (hr : meth.sig.returnType = (some .boolean)) : ∀ q ∈ lX6_readBound, Sd p l e (rmd 4) s m args below meth c (MQ below (QQ D ad cA K) args s 0 0 (AA ad)) D ad cA 2 q.1 (opOf K q.2) := List.forall_mem_cons.mpr ⟨s_aload_n C0 dX6_readBound_0 rfl, List.forall_mem_cons.mpr ⟨s_get (ci := 6) (k := 1) C0 dX6_readBound_1 inX6 rfl (by decide) tw1_140, List.forall_mem_cons.mpr ⟨s_iload_n C0 dX6_readBound_4 rfl, List.forall_mem_cons.mpr ⟨s_zald C0 dX6_readBound_5, List.forall_mem_cons.mpr ⟨s_if_eq C0 dX6_readBound_6 rfl, List.forall_mem_cons.mpr ⟨s_aload_n C0 dX6_readBound_9 rfl, List.forall_mem_cons.mpr ⟨s_iconst C0 dX6_readBound_10 rfl, List.forall_mem_cons.mpr ⟨s_callV (ci := 6) C0 (kX6_fail l) dX6_readBound_11 rfl qX6_fail tw3_39 tw3_41 twp_5 tw1_3 tw3_42 rfl (by decide) (by decide), List.forall_mem_cons.mpr ⟨s_zret C0 hr dX6_readBound_14, List.forall_mem_cons.mpr ⟨s_aload_n C0 dX6_readBound_15 rfl, List.forall_mem_cons.mpr ⟨s_get (ci := 6) (k := 1) C0 dX6_readBound_16 inX6 rfl (by decide) tw1_140, List.forall_mem_cons.mpr ⟨s_iload_n C0 dX6_readBound_19 rfl, List.forall_mem_cons.mpr ⟨s_iconst C0 dX6_readBound_20 rfl, List.forall_mem_cons.mpr ⟨s_zast C0 dX6_readBound_21, List.forall_mem_cons.mpr ⟨s_aload_n C0 dX6_readBound_22 rfl, List.forall_mem_cons.mpr ⟨s_getsN (k := 4) C0 dX6_readBound_23 (List.mem_of_getElem? (i := 5) rfl) (by decide) rfl, List.forall_mem_cons.mpr ⟨s_iload_n C0 dX6_readBound_26 rfl, List.forall_mem_cons.mpr ⟨s_iaro C0 dX6_readBound_27, List.forall_mem_cons.mpr ⟨s_getsN (k := 5) C0 dX6_readBound_28 (List.mem_of_getElem? (i := 6) rfl) (by decide) rfl, List.forall_mem_cons.mpr ⟨s_iload_n C0 dX6_readBound_31 rfl, List.forall_mem_cons.mpr ⟨s_iaro C0 dX6_readBound_32, List.forall_mem_cons.mpr ⟨s_callV (ci := 6) C0 (kX6_readWhole l) dX6_readBound_33 rfl qX6_readWhole tw3_78 tw3_80 twp_9 tw1_3 tw3_81 rfl (by decide) (by decide), List.forall_mem_cons.mpr ⟨s_if_ne C0 dX6_readBound_36 rfl, List.forall_mem_cons.mpr ⟨s_iconst C0 dX6_readBound_39 rfl, List.forall_mem_cons.mpr ⟨s_zret C0 hr dX6_readBound_40, List.forall_mem_cons.mpr ⟨s_aload_n C0 dX6_readBound_41 rfl, List.forall_mem_cons.mpr ⟨s_get (ci := 6) (k := 2) C0 dX6_readBound_42 inX6 rfl (by decide) tw1_141, List.forall_mem_cons.mpr ⟨s_get (ci := 9) (k := 6) C0 dX6_readBound_45 inX9 rfl (by decide) tw1_106, List.forall_mem_cons.mpr ⟨s_iload_n C0 dX6_readBound_48 rfl, List.forall_mem_cons.mpr ⟨s_aload_n C0 dX6_readBound_49 rfl, List.forall_mem_cons.mpr ⟨s_get (ci := 6) (k := 0) C0 dX6_readBound_50 inX6 rfl (by decide) tw1_139, List.forall_mem_cons.mpr ⟨s_get (ci := 8) (k := 6) C0 dX6_readBound_53 inX8 rfl (by decide) tw1_47, List.forall_mem_cons.mpr ⟨s_iast C0 dX6_readBound_56, List.forall_mem_cons.mpr ⟨s_iconst C0 dX6_readBound_57 rfl, List.forall_mem_cons.mpr ⟨s_zret C0 hr dX6_readBound_58, fun _ h => absurd h List.not_mem_nil⟩⟩⟩⟩⟩⟩⟩⟩⟩⟩⟩⟩⟩⟩⟩⟩⟩⟩⟩⟩⟩⟩⟩⟩⟩⟩⟩⟩⟩⟩⟩⟩⟩⟩⟩
def fX6_readBound : Mf := mf 2 (fun K => tl K lX6_readBound)
theorem kX6_readBound (l : Launch) : Okm l yX6_readBound cX6_readBound 2 (some .boolean) 4 fX6_readBound := Okm_tl (own := RX6) (by decide +kernel) rfl (fun C0 hr => hX6_readBound_0 l C0 hr)
theorem dX6_readLine_0 : decode cX6_readLine 0 = .ok (.aload_n 0, 1) := by decide +kernel
theorem dX6_readLine_1 : decode cX6_readLine 1 = .ok (.getfield 29, 3) := by decide +kernel
theorem dX6_readLine_4 : decode cX6_readLine 4 = .ok (.invokevirtual 46, 3) := by decide +kernel
theorem dX6_readLine_7 : decode cX6_readLine 7 = .ok (.aload_n 0, 1) := by decide +kernel
theorem dX6_readLine_8 : decode cX6_readLine 8 = .ok (.getfield 29, 3) := by decide +kernel
theorem dX6_readLine_11 : decode cX6_readLine 11 = .ok (.ldc 65, 2) := by decide +kernel
theorem dX6_readLine_13 : decode cX6_readLine 13 = .ok (.invokevirtual 67, 3) := by decide +kernel
theorem dX6_readLine_16 : decode cX6_readLine 16 = .ok (.ifCond .eq 8, 3) := by decide +kernel
theorem dX6_readLine_19 : decode cX6_readLine 19 = .ok (.aload_n 0, 1) := by decide +kernel
theorem dX6_readLine_20 : decode cX6_readLine 20 = .ok (.invokevirtual 71, 3) := by decide +kernel
theorem dX6_readLine_23 : decode cX6_readLine 23 = .ok (.ireturn, 1) := by decide +kernel
theorem dX6_readLine_24 : decode cX6_readLine 24 = .ok (.aload_n 0, 1) := by decide +kernel
theorem dX6_readLine_25 : decode cX6_readLine 25 = .ok (.getfield 29, 3) := by decide +kernel
theorem dX6_readLine_28 : decode cX6_readLine 28 = .ok (.ldc 74, 2) := by decide +kernel
theorem dX6_readLine_30 : decode cX6_readLine 30 = .ok (.invokevirtual 67, 3) := by decide +kernel
theorem dX6_readLine_33 : decode cX6_readLine 33 = .ok (.ifCond .eq 8, 3) := by decide +kernel
theorem dX6_readLine_36 : decode cX6_readLine 36 = .ok (.aload_n 0, 1) := by decide +kernel
theorem dX6_readLine_37 : decode cX6_readLine 37 = .ok (.invokevirtual 76, 3) := by decide +kernel
theorem dX6_readLine_40 : decode cX6_readLine 40 = .ok (.ireturn, 1) := by decide +kernel
theorem dX6_readLine_41 : decode cX6_readLine 41 = .ok (.aload_n 0, 1) := by decide +kernel
theorem dX6_readLine_42 : decode cX6_readLine 42 = .ok (.getfield 29, 3) := by decide +kernel
theorem dX6_readLine_45 : decode cX6_readLine 45 = .ok (.ldc 79, 2) := by decide +kernel
theorem dX6_readLine_47 : decode cX6_readLine 47 = .ok (.invokevirtual 67, 3) := by decide +kernel
theorem dX6_readLine_50 : decode cX6_readLine 50 = .ok (.ifCond .eq 8, 3) := by decide +kernel
theorem dX6_readLine_53 : decode cX6_readLine 53 = .ok (.aload_n 0, 1) := by decide +kernel
theorem dX6_readLine_54 : decode cX6_readLine 54 = .ok (.invokevirtual 81, 3) := by decide +kernel
theorem dX6_readLine_57 : decode cX6_readLine 57 = .ok (.ireturn, 1) := by decide +kernel
theorem dX6_readLine_58 : decode cX6_readLine 58 = .ok (.aload_n 0, 1) := by decide +kernel
theorem dX6_readLine_59 : decode cX6_readLine 59 = .ok (.getfield 29, 3) := by decide +kernel
theorem dX6_readLine_62 : decode cX6_readLine 62 = .ok (.ldc 84, 2) := by decide +kernel
theorem dX6_readLine_64 : decode cX6_readLine 64 = .ok (.invokevirtual 67, 3) := by decide +kernel
theorem dX6_readLine_67 : decode cX6_readLine 67 = .ok (.ifCond .eq 9, 3) := by decide +kernel
theorem dX6_readLine_70 : decode cX6_readLine 70 = .ok (.aload_n 0, 1) := by decide +kernel
theorem dX6_readLine_71 : decode cX6_readLine 71 = .ok (.iconst 0, 1) := by decide +kernel
theorem dX6_readLine_72 : decode cX6_readLine 72 = .ok (.invokevirtual 86, 3) := by decide +kernel
theorem dX6_readLine_75 : decode cX6_readLine 75 = .ok (.ireturn, 1) := by decide +kernel
theorem dX6_readLine_76 : decode cX6_readLine 76 = .ok (.aload_n 0, 1) := by decide +kernel
theorem dX6_readLine_77 : decode cX6_readLine 77 = .ok (.getfield 29, 3) := by decide +kernel
theorem dX6_readLine_80 : decode cX6_readLine 80 = .ok (.ldc 89, 2) := by decide +kernel
theorem dX6_readLine_82 : decode cX6_readLine 82 = .ok (.invokevirtual 67, 3) := by decide +kernel
theorem dX6_readLine_85 : decode cX6_readLine 85 = .ok (.ifCond .eq 9, 3) := by decide +kernel
theorem dX6_readLine_88 : decode cX6_readLine 88 = .ok (.aload_n 0, 1) := by decide +kernel
theorem dX6_readLine_89 : decode cX6_readLine 89 = .ok (.iconst 1, 1) := by decide +kernel
theorem dX6_readLine_90 : decode cX6_readLine 90 = .ok (.invokevirtual 86, 3) := by decide +kernel
theorem dX6_readLine_93 : decode cX6_readLine 93 = .ok (.ireturn, 1) := by decide +kernel
theorem dX6_readLine_94 : decode cX6_readLine 94 = .ok (.aload_n 0, 1) := by decide +kernel
theorem dX6_readLine_95 : decode cX6_readLine 95 = .ok (.getfield 29, 3) := by decide +kernel
theorem dX6_readLine_98 : decode cX6_readLine 98 = .ok (.ldc 91, 2) := by decide +kernel
theorem dX6_readLine_100 : decode cX6_readLine 100 = .ok (.invokevirtual 67, 3) := by decide +kernel
theorem dX6_readLine_103 : decode cX6_readLine 103 = .ok (.ifCond .eq 11, 3) := by decide +kernel
theorem dX6_readLine_106 : decode cX6_readLine 106 = .ok (.aload_n 0, 1) := by decide +kernel
theorem dX6_readLine_107 : decode cX6_readLine 107 = .ok (.iconst 2, 1) := by decide +kernel
theorem dX6_readLine_108 : decode cX6_readLine 108 = .ok (.invokevirtual 86, 3) := by decide +kernel
theorem dX6_readLine_111 : decode cX6_readLine 111 = .ok (.goto 8, 3) := by decide +kernel
theorem dX6_readLine_114 : decode cX6_readLine 114 = .ok (.aload_n 0, 1) := by decide +kernel
theorem dX6_readLine_115 : decode cX6_readLine 115 = .ok (.iconst 1, 1) := by decide +kernel
theorem dX6_readLine_116 : decode cX6_readLine 116 = .ok (.invokevirtual 58, 3) := by decide +kernel
theorem dX6_readLine_119 : decode cX6_readLine 119 = .ok (.ireturn, 1) := by decide +kernel
def lX6_readLine_0 : List (Nat × (Op ⊕ Nat)) := [(0, .inl (o_aload 0 1)), (1, .inl (o_get 6 0 4)), (4, .inl (o_callV fX8_nextToken 0 8 7)), (7, .inl (o_aload 0 8)), (8, .inl (o_get 6 0 11)), (11, .inl (o_pushR 200 13)), (13, .inl (o_callV fX8_isWord 1 8 16)), (16, .inl (o_if_eq 24 19)), (19, .inl (o_aload 0 20)), (20, .inl (o_callV fX6_readArm 0 6 23)), (23, .inr 1), (24, .inl (o_aload 0 25)), (25, .inl (o_get 6 0 28)), (28, .inl (o_pushR 203 30)), (30, .inl (o_callV fX8_isWord 1 8 33)), (33, .inl (o_if_eq 41 36)), (36, .inl (o_aload 0 37)), (37, .inl (o_callV fX6_readGame 0 6 40)), (40, .inr 1), (41, .inl (o_aload 0 42)), (42, .inl (o_get 6 0 45)), (45, .inl (o_pushR 204 47)), (47, .inl (o_callV fX8_isWord 1 8 50)), (50, .inl (o_if_eq 58 53)), (53, .inl (o_aload 0 54)), (54, .inl (o_callV fX6_readRest 0 6 57)), (57, .inr 1), (58, .inl (o_aload 0 59)), (59, .inl (o_get 6 0 62)), (62, .inl (o_pushR 205 64)), (64, .inl (o_callV fX8_isWord 1 8 67)), (67, .inl (o_if_eq 76 70)), (70, .inl (o_aload 0 71)), (71, .inl (o_pushI (nI 0) 72)), (72, .inl (o_callV fX6_readBound 1 6 75)), (75, .inr 1), (76, .inl (o_aload 0 77)), (77, .inl (o_get 6 0 80)), (80, .inl (o_pushR 206 82)), (82, .inl (o_callV fX8_isWord 1 8 85))]
def lX6_readLine_1 : List (Nat × (Op ⊕ Nat)) := [(85, .inl (o_if_eq 94 88)), (88, .inl (o_aload 0 89)), (89, .inl (o_pushI (nI 1) 90)), (90, .inl (o_callV fX6_readBound 1 6 93)), (93, .inr 1), (94, .inl (o_aload 0 95)), (95, .inl (o_get 6 0 98)), (98, .inl (o_pushR 207 100)), (100, .inl (o_callV fX8_isWord 1 8 103)), (103, .inl (o_if_eq 114 106)), (106, .inl (o_aload 0 107)), (107, .inl (o_pushI (nI 2) 108)), (108, .inl (o_callV fX6_readBound 1 6 111)), (111, .inl (o_goto 119)), (114, .inl (o_aload 0 115)), (115, .inl (o_pushI (nI 1) 116)), (116, .inl (o_callV fX6_fail 1 6 119)), (119, .inr 1)]
def lX6_readLine : List (Nat × (Op ⊕ Nat)) := lX6_readLine_0 ++ (lX6_readLine_1)
theorem qX6_readLine : yX6_readLine.cls = RX6 ∧ yX6_readLine.cls ≠ "java/lang/invoke/MethodHandle" ∧ yX6_readLine.cls ≠ "java/lang/invoke/VarHandle" ∧ (parseMethodDescriptor yX6_readLine.desc).map (fun d => d.parameters.length) = some 0 := by decide +kernel
set_option maxRecDepth 10000 in
theorem hX6_readLine_0 (l : Launch) {p : Program} {e : Env} {s : State} {m : MethodId} {args : Array Value} {below : List Frame} {meth : Method} {c : Code} {D : va_G} {ad adV : Nat → Nat} {cA : Nat → ClassId} {K : Kt} (C0 : Cx p s m args meth c D ad adV cA cX6_readLine 1 RX6) (hr : meth.sig.returnType = (some .boolean)) : ∀ q ∈ lX6_readLine_0, Sd p l e (rmd 9) s m args below meth c (MQ below (QQ D ad cA K) args s 0 0 (AA ad)) D ad cA 1 q.1 (opOf K q.2) := List.forall_mem_cons.mpr ⟨s_aload_n C0 dX6_readLine_0 rfl, List.forall_mem_cons.mpr ⟨s_get (ci := 6) (k := 0) C0 dX6_readLine_1 inX6 rfl (by decide) tw1_139, List.forall_mem_cons.mpr ⟨s_callV (ci := 8) C0 (kX8_nextToken l) dX6_readLine_4 rfl qX8_nextToken tw2_204 tw2_205 tw2_206 tw1_2 tw2_207 rfl (by decide) (by decide), List.forall_mem_cons.mpr ⟨s_aload_n C0 dX6_readLine_7 rfl, List.forall_mem_cons.mpr ⟨s_get (ci := 6) (k := 0) C0 dX6_readLine_8 inX6 rfl (by decide) tw1_139, List.forall_mem_cons.mpr ⟨s_ldcS (tx := "arm") (k := 0) C0 dX6_readLine_11 (List.mem_of_getElem? (i := 0) rfl), List.forall_mem_cons.mpr ⟨s_callV (ci := 8) C0 (kX8_isWord l) dX6_readLine_13 rfl qX8_isWord tw2_223 tw2_224 tw2_225 tw1_2 tw2_226 rfl (by decide) (by decide), List.forall_mem_cons.mpr ⟨s_if_eq C0 dX6_readLine_16 rfl, List.forall_mem_cons.mpr ⟨s_aload_n C0 dX6_readLine_19 rfl, List.forall_mem_cons.mpr ⟨s_callV (ci := 6) C0 (kX6_readArm l) dX6_readLine_20 rfl qX6_readArm tw3_35 tw3_37 twp_4 tw1_3 tw3_38 rfl (by decide) (by decide), List.forall_mem_cons.mpr ⟨s_zret C0 hr dX6_readLine_23, List.forall_mem_cons.mpr ⟨s_aload_n C0 dX6_readLine_24 rfl, List.forall_mem_cons.mpr ⟨s_get (ci := 6) (k := 0) C0 dX6_readLine_25 inX6 rfl (by decide) tw1_139, List.forall_mem_cons.mpr ⟨s_ldcS (tx := "game") (k := 3) C0 dX6_readLine_28 (List.mem_of_getElem? (i := 3) rfl), List.forall_mem_cons.mpr ⟨s_callV (ci := 8) C0 (kX8_isWord l) dX6_readLine_30 rfl qX8_isWord tw2_223 tw2_224 tw2_225 tw1_2 tw2_226 rfl (by decide) (by decide), List.forall_mem_cons.mpr ⟨s_if_eq C0 dX6_readLine_33 rfl, List.forall_mem_cons.mpr ⟨s_aload_n C0 dX6_readLine_36 rfl, List.forall_mem_cons.mpr ⟨s_callV (ci := 6) C0 (kX6_readGame l) dX6_readLine_37 rfl qX6_readGame tw3_87 tw3_89 twp_10 tw1_3 tw3_90 rfl (by decide) (by decide), List.forall_mem_cons.mpr ⟨s_zret C0 hr dX6_readLine_40, List.forall_mem_cons.mpr ⟨s_aload_n C0 dX6_readLine_41 rfl, List.forall_mem_cons.mpr ⟨s_get (ci := 6) (k := 0) C0 dX6_readLine_42 inX6 rfl (by decide) tw1_139, List.forall_mem_cons.mpr ⟨s_ldcS (tx := "rest") (k := 4) C0 dX6_readLine_45 (List.mem_of_getElem? (i := 4) rfl), List.forall_mem_cons.mpr ⟨s_callV (ci := 8) C0 (kX8_isWord l) dX6_readLine_47 rfl qX8_isWord tw2_223 tw2_224 tw2_225 tw1_2 tw2_226 rfl (by decide) (by decide), List.forall_mem_cons.mpr ⟨s_if_eq C0 dX6_readLine_50 rfl, List.forall_mem_cons.mpr ⟨s_aload_n C0 dX6_readLine_53 rfl, List.forall_mem_cons.mpr ⟨s_callV (ci := 6) C0 (kX6_readRest l) dX6_readLine_54 rfl qX6_readRest tw3_99 tw3_101 twp_11 tw1_3 tw3_102 rfl (by decide) (by decide), List.forall_mem_cons.mpr ⟨s_zret C0 hr dX6_readLine_57, List.forall_mem_cons.mpr ⟨s_aload_n C0 dX6_readLine_58 rfl, List.forall_mem_cons.mpr ⟨s_get (ci := 6) (k := 0) C0 dX6_readLine_59 inX6 rfl (by decide) tw1_139, List.forall_mem_cons.mpr ⟨s_ldcS (tx := "week") (k := 5) C0 dX6_readLine_62 (List.mem_of_getElem? (i := 5) rfl), List.forall_mem_cons.mpr ⟨s_callV (ci := 8) C0 (kX8_isWord l) dX6_readLine_64 rfl qX8_isWord tw2_223 tw2_224 tw2_225 tw1_2 tw2_226 rfl (by decide) (by decide), List.forall_mem_cons.mpr ⟨s_if_eq C0 dX6_readLine_67 rfl, List.forall_mem_cons.mpr ⟨s_aload_n C0 dX6_readLine_70 rfl, List.forall_mem_cons.mpr ⟨s_iconst C0 dX6_readLine_71 rfl, List.forall_mem_cons.mpr ⟨s_callV (ci := 6) C0 (kX6_readBound l) dX6_readLine_72 rfl qX6_readBound tw3_103 tw3_105 twp_12 tw1_3 tw3_106 rfl (by decide) (by decide), List.forall_mem_cons.mpr ⟨s_zret C0 hr dX6_readLine_75, List.forall_mem_cons.mpr ⟨s_aload_n C0 dX6_readLine_76 rfl, List.forall_mem_cons.mpr ⟨s_get (ci := 6) (k := 0) C0 dX6_readLine_77 inX6 rfl (by decide) tw1_139, List.forall_mem_cons.mpr ⟨s_ldcS (tx := "edge") (k := 6) C0 dX6_readLine_80 (List.mem_of_getElem? (i := 6) rfl), List.forall_mem_cons.mpr ⟨s_callV (ci := 8) C0 (kX8_isWord l) dX6_readLine_82 rfl qX8_isWord tw2_223 tw2_224 tw2_225 tw1_2 tw2_226 rfl (by decide) (by decide), fun _ h => absurd h List.not_mem_nil⟩⟩⟩⟩⟩⟩⟩⟩⟩⟩⟩⟩⟩⟩⟩⟩⟩⟩⟩⟩⟩⟩⟩⟩⟩⟩⟩⟩⟩⟩⟩⟩⟩⟩⟩⟩⟩⟩⟩⟩
set_option maxRecDepth 10000 in
theorem hX6_readLine_1 (l : Launch) {p : Program} {e : Env} {s : State} {m : MethodId} {args : Array Value} {below : List Frame} {meth : Method} {c : Code} {D : va_G} {ad adV : Nat → Nat} {cA : Nat → ClassId} {K : Kt} (C0 : Cx p s m args meth c D ad adV cA cX6_readLine 1 RX6) (hr : meth.sig.returnType = (some .boolean)) : ∀ q ∈ lX6_readLine_1, Sd p l e (rmd 9) s m args below meth c (MQ below (QQ D ad cA K) args s 0 0 (AA ad)) D ad cA 1 q.1 (opOf K q.2) := List.forall_mem_cons.mpr ⟨s_if_eq C0 dX6_readLine_85 rfl, List.forall_mem_cons.mpr ⟨s_aload_n C0 dX6_readLine_88 rfl, List.forall_mem_cons.mpr ⟨s_iconst C0 dX6_readLine_89 rfl, List.forall_mem_cons.mpr ⟨s_callV (ci := 6) C0 (kX6_readBound l) dX6_readLine_90 rfl qX6_readBound tw3_103 tw3_105 twp_12 tw1_3 tw3_106 rfl (by decide) (by decide), List.forall_mem_cons.mpr ⟨s_zret C0 hr dX6_readLine_93, List.forall_mem_cons.mpr ⟨s_aload_n C0 dX6_readLine_94 rfl, List.forall_mem_cons.mpr ⟨s_get (ci := 6) (k := 0) C0 dX6_readLine_95 inX6 rfl (by decide) tw1_139, List.forall_mem_cons.mpr ⟨s_ldcS (tx := "out") (k := 7) C0 dX6_readLine_98 (List.mem_of_getElem? (i := 7) rfl), List.forall_mem_cons.mpr ⟨s_callV (ci := 8) C0 (kX8_isWord l) dX6_readLine_100 rfl qX8_isWord tw2_223 tw2_224 tw2_225 tw1_2 tw2_226 rfl (by decide) (by decide), List.forall_mem_cons.mpr ⟨s_if_eq C0 dX6_readLine_103 rfl, List.forall_mem_cons.mpr ⟨s_aload_n C0 dX6_readLine_106 rfl, List.forall_mem_cons.mpr ⟨s_iconst C0 dX6_readLine_107 rfl, List.forall_mem_cons.mpr ⟨s_callV (ci := 6) C0 (kX6_readBound l) dX6_readLine_108 rfl qX6_readBound tw3_103 tw3_105 twp_12 tw1_3 tw3_106 rfl (by decide) (by decide), List.forall_mem_cons.mpr ⟨s_goto C0 dX6_readLine_111 rfl, List.forall_mem_cons.mpr ⟨s_aload_n C0 dX6_readLine_114 rfl, List.forall_mem_cons.mpr ⟨s_iconst C0 dX6_readLine_115 rfl, List.forall_mem_cons.mpr ⟨s_callV (ci := 6) C0 (kX6_fail l) dX6_readLine_116 rfl qX6_fail tw3_39 tw3_41 twp_5 tw1_3 tw3_42 rfl (by decide) (by decide), List.forall_mem_cons.mpr ⟨s_zret C0 hr dX6_readLine_119, fun _ h => absurd h List.not_mem_nil⟩⟩⟩⟩⟩⟩⟩⟩⟩⟩⟩⟩⟩⟩⟩⟩⟩⟩
def fX6_readLine : Mf := mf 1 (fun K => tl K lX6_readLine)
theorem kX6_readLine (l : Launch) : Okm l yX6_readLine cX6_readLine 1 (some .boolean) 9 fX6_readLine := Okm_tl (own := RX6) (by decide +kernel) rfl (fun C0 hr => List.forall_mem_append.mpr ⟨hX6_readLine_0 l C0 hr, hX6_readLine_1 l C0 hr⟩)
theorem dX6_read_0 : decode cX6_read 0 = .ok (.aload_n 0, 1) := by decide +kernel
theorem dX6_read_1 : decode cX6_read 1 = .ok (.iconst 0, 1) := by decide +kernel
theorem dX6_read_2 : decode cX6_read 2 = .ok (.putfield 22, 3) := by decide +kernel
theorem dX6_read_5 : decode cX6_read 5 = .ok (.aload_n 0, 1) := by decide +kernel
theorem dX6_read_6 : decode cX6_read 6 = .ok (.iconst (-1), 1) := by decide +kernel
theorem dX6_read_7 : decode cX6_read 7 = .ok (.putfield 26, 3) := by decide +kernel
theorem dX6_read_10 : decode cX6_read 10 = .ok (.aload_n 0, 1) := by decide +kernel
theorem dX6_read_11 : decode cX6_read 11 = .ok (.getfield 18, 3) := by decide +kernel
theorem dX6_read_14 : decode cX6_read 14 = .ok (.invokevirtual 33, 3) := by decide +kernel
theorem dX6_read_17 : decode cX6_read 17 = .ok (.iconst 0, 1) := by decide +kernel
theorem dX6_read_18 : decode cX6_read 18 = .ok (.istore_n 2, 1) := by decide +kernel
theorem dX6_read_19 : decode cX6_read 19 = .ok (.iload_n 2, 1) := by decide +kernel
theorem dX6_read_20 : decode cX6_read 20 = .ok (.iconst 3, 1) := by decide +kernel
theorem dX6_read_21 : decode cX6_read 21 = .ok (.if_icmp .ge 16, 3) := by decide +kernel
theorem dX6_read_24 : decode cX6_read 24 = .ok (.aload_n 0, 1) := by decide +kernel
theorem dX6_read_25 : decode cX6_read 25 = .ok (.getfield 9, 3) := by decide +kernel
theorem dX6_read_28 : decode cX6_read 28 = .ok (.iload_n 2, 1) := by decide +kernel
theorem dX6_read_29 : decode cX6_read 29 = .ok (.iconst 0, 1) := by decide +kernel
theorem dX6_read_30 : decode cX6_read 30 = .ok (.bastore, 1) := by decide +kernel
theorem dX6_read_31 : decode cX6_read 31 = .ok (.iinc 2 1, 3) := by decide +kernel
theorem dX6_read_34 : decode cX6_read 34 = .ok (.goto (-15), 3) := by decide +kernel
theorem dX6_read_37 : decode cX6_read 37 = .ok (.aload_n 0, 1) := by decide +kernel
theorem dX6_read_38 : decode cX6_read 38 = .ok (.getfield 29, 3) := by decide +kernel
theorem dX6_read_41 : decode cX6_read 41 = .ok (.iload_n 1, 1) := by decide +kernel
theorem dX6_read_42 : decode cX6_read 42 = .ok (.invokevirtual 36, 3) := by decide +kernel
theorem dX6_read_45 : decode cX6_read 45 = .ok (.iconst 0, 1) := by decide +kernel
theorem dX6_read_46 : decode cX6_read 46 = .ok (.istore_n 2, 1) := by decide +kernel
theorem dX6_read_47 : decode cX6_read 47 = .ok (.iload_n 2, 1) := by decide +kernel
theorem dX6_read_48 : decode cX6_read 48 = .ok (.bipush 36, 2) := by decide +kernel
theorem dX6_read_50 : decode cX6_read 50 = .ok (.if_icmp .gt 86, 3) := by decide +kernel
theorem dX6_read_53 : decode cX6_read 53 = .ok (.aload_n 0, 1) := by decide +kernel
theorem dX6_read_54 : decode cX6_read 54 = .ok (.invokevirtual 42, 3) := by decide +kernel
theorem dX6_read_57 : decode cX6_read 57 = .ok (.ifCond .ne 5, 3) := by decide +kernel
theorem dX6_read_60 : decode cX6_read 60 = .ok (.iconst 0, 1) := by decide +kernel
theorem dX6_read_61 : decode cX6_read 61 = .ok (.ireturn, 1) := by decide +kernel
theorem dX6_read_62 : decode cX6_read 62 = .ok (.aload_n 0, 1) := by decide +kernel
theorem dX6_read_63 : decode cX6_read 63 = .ok (.getfield 29, 3) := by decide +kernel
theorem dX6_read_66 : decode cX6_read 66 = .ok (.invokevirtual 46, 3) := by decide +kernel
theorem dX6_read_69 : decode cX6_read 69 = .ok (.aload_n 0, 1) := by decide +kernel
theorem dX6_read_70 : decode cX6_read 70 = .ok (.getfield 29, 3) := by decide +kernel
theorem dX6_read_73 : decode cX6_read 73 = .ok (.getfield 49, 3) := by decide +kernel
theorem dX6_read_76 : decode cX6_read 76 = .ok (.ifCond .ne 37, 3) := by decide +kernel
theorem dX6_read_79 : decode cX6_read 79 = .ok (.aload_n 0, 1) := by decide +kernel
theorem dX6_read_80 : decode cX6_read 80 = .ok (.getfield 18, 3) := by decide +kernel
theorem dX6_read_83 : decode cX6_read 83 = .ok (.getfield 52, 3) := by decide +kernel
theorem dX6_read_86 : decode cX6_read 86 = .ok (.ifCond .le 13, 3) := by decide +kernel
theorem dX6_read_89 : decode cX6_read 89 = .ok (.aload_n 0, 1) := by decide +kernel
theorem dX6_read_90 : decode cX6_read 90 = .ok (.getfield 18, 3) := by decide +kernel
theorem dX6_read_93 : decode cX6_read 93 = .ok (.getfield 55, 3) := by decide +kernel
theorem dX6_read_96 : decode cX6_read 96 = .ok (.ifCond .gt 11, 3) := by decide +kernel
theorem dX6_read_99 : decode cX6_read 99 = .ok (.aload_n 0, 1) := by decide +kernel
theorem dX6_read_100 : decode cX6_read 100 = .ok (.iconst 5, 1) := by decide +kernel
theorem dX6_read_101 : decode cX6_read 101 = .ok (.invokevirtual 58, 3) := by decide +kernel
theorem dX6_read_104 : decode cX6_read 104 = .ok (.ifCond .eq 7, 3) := by decide +kernel
theorem dX6_read_107 : decode cX6_read 107 = .ok (.iconst 1, 1) := by decide +kernel
theorem dX6_read_108 : decode cX6_read 108 = .ok (.goto 4, 3) := by decide +kernel
theorem dX6_read_111 : decode cX6_read 111 = .ok (.iconst 0, 1) := by decide +kernel
theorem dX6_read_112 : decode cX6_read 112 = .ok (.ireturn, 1) := by decide +kernel
theorem dX6_read_113 : decode cX6_read 113 = .ok (.aload_n 0, 1) := by decide +kernel
theorem dX6_read_114 : decode cX6_read 114 = .ok (.getfield 29, 3) := by decide +kernel
theorem dX6_read_117 : decode cX6_read 117 = .ok (.getfield 49, 3) := by decide +kernel
theorem dX6_read_120 : decode cX6_read 120 = .ok (.iconst 3, 1) := by decide +kernel
theorem dX6_read_121 : decode cX6_read 121 = .ok (.if_icmp .eq 9, 3) := by decide +kernel
theorem dX6_read_124 : decode cX6_read 124 = .ok (.aload_n 0, 1) := by decide +kernel
theorem dX6_read_125 : decode cX6_read 125 = .ok (.iconst 1, 1) := by decide +kernel
theorem dX6_read_126 : decode cX6_read 126 = .ok (.invokevirtual 58, 3) := by decide +kernel
theorem dX6_read_129 : decode cX6_read 129 = .ok (.ireturn, 1) := by decide +kernel
theorem dX6_read_130 : decode cX6_read 130 = .ok (.iinc 2 1, 3) := by decide +kernel
theorem dX6_read_133 : decode cX6_read 133 = .ok (.goto (-86), 3) := by decide +kernel
theorem dX6_read_136 : decode cX6_read 136 = .ok (.aload_n 0, 1) := by decide +kernel
theorem dX6_read_137 : decode cX6_read 137 = .ok (.iconst 1, 1) := by decide +kernel
theorem dX6_read_138 : decode cX6_read 138 = .ok (.invokevirtual 58, 3) := by decide +kernel
theorem dX6_read_141 : decode cX6_read 141 = .ok (.ireturn, 1) := by decide +kernel
def lX6_read_0 : List (Nat × (Op ⊕ Nat)) := [(0, .inl (o_aload 0 1)), (1, .inl (o_pushI (nI 0) 2)), (2, .inl (o_putI 6 3 5)), (5, .inl (o_aload 0 6)), (6, .inl (o_pushI ((-1)) 7)), (7, .inl (o_putI 6 4 10)), (10, .inl (o_aload 0 11)), (11, .inl (o_get 6 2 14)), (14, .inl (o_callV fX9_empty 0 9 17)), (17, .inl (o_pushI (nI 0) 18)), (18, .inl (o_istore 2 19)), (19, .inl (o_iload 2 20)), (20, .inl (o_pushI (nI 3) 21)), (21, .inl (o_icmp_ge 37 24)), (24, .inl (o_aload 0 25)), (25, .inl (o_get 6 1 28)), (28, .inl (o_iload 2 29)), (29, .inl (o_pushI (nI 0) 30)), (30, .inl (o_zast 31)), (31, .inl (o_iinc 2 (nI 1) 34)), (34, .inl (o_goto 19)), (37, .inl (o_aload 0 38)), (38, .inl (o_get 6 0 41)), (41, .inl (o_iload 1 42)), (42, .inl (o_callV fX8_beginTokens 1 8 45)), (45, .inl (o_pushI (nI 0) 46)), (46, .inl (o_istore 2 47)), (47, .inl (o_iload 2 48)), (48, .inl (o_pushI (nI 36) 50)), (50, .inl (o_icmp_gt 136 53)), (53, .inl (o_aload 0 54)), (54, .inl (o_callV fX6_readLine 0 6 57)), (57, .inl (o_if_ne 62 60)), (60, .inl (o_pushI (nI 0) 61)), (61, .inr 1), (62, .inl (o_aload 0 63)), (63, .inl (o_get 6 0 66)), (66, .inl (o_callV fX8_nextToken 0 8 69)), (69, .inl (o_aload 0 70)), (70, .inl (o_get 6 0 73))]
def lX6_read_1 : List (Nat × (Op ⊕ Nat)) := [(73, .inl (o_get 8 4 76)), (76, .inl (o_if_ne 113 79)), (79, .inl (o_aload 0 80)), (80, .inl (o_get 6 2 83)), (83, .inl (o_get 9 0 86)), (86, .inl (o_if_le 99 89)), (89, .inl (o_aload 0 90)), (90, .inl (o_get 6 2 93)), (93, .inl (o_get 9 4 96)), (96, .inl (o_if_gt 107 99)), (99, .inl (o_aload 0 100)), (100, .inl (o_pushI (nI 5) 101)), (101, .inl (o_callV fX6_fail 1 6 104)), (104, .inl (o_if_eq 111 107)), (107, .inl (o_pushI (nI 1) 108)), (108, .inl (o_goto 112)), (111, .inl (o_pushI (nI 0) 112)), (112, .inr 1), (113, .inl (o_aload 0 114)), (114, .inl (o_get 6 0 117)), (117, .inl (o_get 8 4 120)), (120, .inl (o_pushI (nI 3) 121)), (121, .inl (o_icmp_eq 130 124)), (124, .inl (o_aload 0 125)), (125, .inl (o_pushI (nI 1) 126)), (126, .inl (o_callV fX6_fail 1 6 129)), (129, .inr 1), (130, .inl (o_iinc 2 (nI 1) 133)), (133, .inl (o_goto 47)), (136, .inl (o_aload 0 137)), (137, .inl (o_pushI (nI 1) 138)), (138, .inl (o_callV fX6_fail 1 6 141)), (141, .inr 1)]
def lX6_read : List (Nat × (Op ⊕ Nat)) := lX6_read_0 ++ (lX6_read_1)
theorem qX6_read : yX6_read.cls = RX6 ∧ yX6_read.cls ≠ "java/lang/invoke/MethodHandle" ∧ yX6_read.cls ≠ "java/lang/invoke/VarHandle" ∧ (parseMethodDescriptor yX6_read.desc).map (fun d => d.parameters.length) = some 1 := by decide +kernel
set_option maxRecDepth 10000 in
theorem hX6_read_0 (l : Launch) {p : Program} {e : Env} {s : State} {m : MethodId} {args : Array Value} {below : List Frame} {meth : Method} {c : Code} {D : va_G} {ad adV : Nat → Nat} {cA : Nat → ClassId} {K : Kt} (C0 : Cx p s m args meth c D ad adV cA cX6_read 3 RX6) (hr : meth.sig.returnType = (some .boolean)) : ∀ q ∈ lX6_read_0, Sd p l e (rmd 10) s m args below meth c (MQ below (QQ D ad cA K) args s 0 0 (AA ad)) D ad cA 3 q.1 (opOf K q.2) := List.forall_mem_cons.mpr ⟨s_aload_n C0 dX6_read_0 rfl, List.forall_mem_cons.mpr ⟨s_iconst C0 dX6_read_1 rfl, List.forall_mem_cons.mpr ⟨s_putI (ci := 6) (k := 3) C0 dX6_read_2 inX6 tyX6_ok nmX6 rfl (by decide) rfl rfl tw1_143, List.forall_mem_cons.mpr ⟨s_aload_n C0 dX6_read_5 rfl, List.forall_mem_cons.mpr ⟨s_iconst C0 dX6_read_6 rfl, List.forall_mem_cons.mpr ⟨s_putI (ci := 6) (k := 4) C0 dX6_read_7 inX6 tyX6_ok nmX6 rfl (by decide) rfl rfl tw1_145, List.forall_mem_cons.mpr ⟨s_aload_n C0 dX6_read_10 rfl, List.forall_mem_cons.mpr ⟨s_get (ci := 6) (k := 2) C0 dX6_read_11 inX6 rfl (by decide) tw1_141, List.forall_mem_cons.mpr ⟨s_callV (ci := 9) C0 (kX9_empty l) dX6_read_14 rfl qX9_empty tw2_181 tw2_182 tw2_183 tw1_4 tw2_184 rfl (by decide) (by decide), List.forall_mem_cons.mpr ⟨s_iconst C0 dX6_read_17 rfl, List.forall_mem_cons.mpr ⟨s_istore_n C0 dX6_read_18 rfl (by decide), List.forall_mem_cons.mpr ⟨s_iload_n C0 dX6_read_19 rfl, List.forall_mem_cons.mpr ⟨s_iconst C0 dX6_read_20 rfl, List.forall_mem_cons.mpr ⟨s_icmp_ge C0 dX6_read_21 rfl, List.forall_mem_cons.mpr ⟨s_aload_n C0 dX6_read_24 rfl, List.forall_mem_cons.mpr ⟨s_get (ci := 6) (k := 1) C0 dX6_read_25 inX6 rfl (by decide) tw1_140, List.forall_mem_cons.mpr ⟨s_iload_n C0 dX6_read_28 rfl, List.forall_mem_cons.mpr ⟨s_iconst C0 dX6_read_29 rfl, List.forall_mem_cons.mpr ⟨s_zast C0 dX6_read_30, List.forall_mem_cons.mpr ⟨s_iinc C0 dX6_read_31 rfl (by decide), List.forall_mem_cons.mpr ⟨s_goto C0 dX6_read_34 rfl, List.forall_mem_cons.mpr ⟨s_aload_n C0 dX6_read_37 rfl, List.forall_mem_cons.mpr ⟨s_get (ci := 6) (k := 0) C0 dX6_read_38 inX6 rfl (by decide) tw1_139, List.forall_mem_cons.mpr ⟨s_iload_n C0 dX6_read_41 rfl, List.forall_mem_cons.mpr ⟨s_callV (ci := 8) C0 (kX8_beginTokens l) dX6_read_42 rfl qX8_beginTokens tw2_190 tw2_191 tw2_192 tw1_2 tw2_193 rfl (by decide) (by decide), List.forall_mem_cons.mpr ⟨s_iconst C0 dX6_read_45 rfl, List.forall_mem_cons.mpr ⟨s_istore_n C0 dX6_read_46 rfl (by decide), List.forall_mem_cons.mpr ⟨s_iload_n C0 dX6_read_47 rfl, List.forall_mem_cons.mpr ⟨s_bipush C0 dX6_read_48 (by decide +kernel), List.forall_mem_cons.mpr ⟨s_icmp_gt C0 dX6_read_50 rfl, List.forall_mem_cons.mpr ⟨s_aload_n C0 dX6_read_53 rfl, List.forall_mem_cons.mpr ⟨s_callV (ci := 6) C0 (kX6_readLine l) dX6_read_54 rfl qX6_readLine tw2_200 tw2_202 twp_1 tw1_3 tw2_203 rfl (by decide) (by decide), List.forall_mem_cons.mpr ⟨s_if_ne C0 dX6_read_57 rfl, List.forall_mem_cons.mpr ⟨s_iconst C0 dX6_read_60 rfl, List.forall_mem_cons.mpr ⟨s_zret C0 hr dX6_read_61, List.forall_mem_cons.mpr ⟨s_aload_n C0 dX6_read_62 rfl, List.forall_mem_cons.mpr ⟨s_get (ci := 6) (k := 0) C0 dX6_read_63 inX6 rfl (by decide) tw1_139, List.forall_mem_cons.mpr ⟨s_callV (ci := 8) C0 (kX8_nextToken l) dX6_read_66 rfl qX8_nextToken tw2_204 tw2_205 tw2_206 tw1_2 tw2_207 rfl (by decide) (by decide), List.forall_mem_cons.mpr ⟨s_aload_n C0 dX6_read_69 rfl, List.forall_mem_cons.mpr ⟨s_get (ci := 6) (k := 0) C0 dX6_read_70 inX6 rfl (by decide) tw1_139, fun _ h => absurd h List.not_mem_nil⟩⟩⟩⟩⟩⟩⟩⟩⟩⟩⟩⟩⟩⟩⟩⟩⟩⟩⟩⟩⟩⟩⟩⟩⟩⟩⟩⟩⟩⟩⟩⟩⟩⟩⟩⟩⟩⟩⟩⟩
set_option maxRecDepth 10000 in
theorem hX6_read_1 (l : Launch) {p : Program} {e : Env} {s : State} {m : MethodId} {args : Array Value} {below : List Frame} {meth : Method} {c : Code} {D : va_G} {ad adV : Nat → Nat} {cA : Nat → ClassId} {K : Kt} (C0 : Cx p s m args meth c D ad adV cA cX6_read 3 RX6) (hr : meth.sig.returnType = (some .boolean)) : ∀ q ∈ lX6_read_1, Sd p l e (rmd 10) s m args below meth c (MQ below (QQ D ad cA K) args s 0 0 (AA ad)) D ad cA 3 q.1 (opOf K q.2) := List.forall_mem_cons.mpr ⟨s_get (ci := 8) (k := 4) C0 dX6_read_73 inX8 rfl (by decide) tw1_43, List.forall_mem_cons.mpr ⟨s_if_ne C0 dX6_read_76 rfl, List.forall_mem_cons.mpr ⟨s_aload_n C0 dX6_read_79 rfl, List.forall_mem_cons.mpr ⟨s_get (ci := 6) (k := 2) C0 dX6_read_80 inX6 rfl (by decide) tw1_141, List.forall_mem_cons.mpr ⟨s_get (ci := 9) (k := 0) C0 dX6_read_83 inX9 rfl (by decide) tw1_83, List.forall_mem_cons.mpr ⟨s_if_le C0 dX6_read_86 rfl, List.forall_mem_cons.mpr ⟨s_aload_n C0 dX6_read_89 rfl, List.forall_mem_cons.mpr ⟨s_get (ci := 6) (k := 2) C0 dX6_read_90 inX6 rfl (by decide) tw1_141, List.forall_mem_cons.mpr ⟨s_get (ci := 9) (k := 4) C0 dX6_read_93 inX9 rfl (by decide) tw1_94, List.forall_mem_cons.mpr ⟨s_if_gt C0 dX6_read_96 rfl, List.forall_mem_cons.mpr ⟨s_aload_n C0 dX6_read_99 rfl, List.forall_mem_cons.mpr ⟨s_iconst C0 dX6_read_100 rfl, List.forall_mem_cons.mpr ⟨s_callV (ci := 6) C0 (kX6_fail l) dX6_read_101 rfl qX6_fail tw3_39 tw3_41 twp_5 tw1_3 tw3_42 rfl (by decide) (by decide), List.forall_mem_cons.mpr ⟨s_if_eq C0 dX6_read_104 rfl, List.forall_mem_cons.mpr ⟨s_iconst C0 dX6_read_107 rfl, List.forall_mem_cons.mpr ⟨s_goto C0 dX6_read_108 rfl, List.forall_mem_cons.mpr ⟨s_iconst C0 dX6_read_111 rfl, List.forall_mem_cons.mpr ⟨s_zret C0 hr dX6_read_112, List.forall_mem_cons.mpr ⟨s_aload_n C0 dX6_read_113 rfl, List.forall_mem_cons.mpr ⟨s_get (ci := 6) (k := 0) C0 dX6_read_114 inX6 rfl (by decide) tw1_139, List.forall_mem_cons.mpr ⟨s_get (ci := 8) (k := 4) C0 dX6_read_117 inX8 rfl (by decide) tw1_43, List.forall_mem_cons.mpr ⟨s_iconst C0 dX6_read_120 rfl, List.forall_mem_cons.mpr ⟨s_icmp_eq C0 dX6_read_121 rfl, List.forall_mem_cons.mpr ⟨s_aload_n C0 dX6_read_124 rfl, List.forall_mem_cons.mpr ⟨s_iconst C0 dX6_read_125 rfl, List.forall_mem_cons.mpr ⟨s_callV (ci := 6) C0 (kX6_fail l) dX6_read_126 rfl qX6_fail tw3_39 tw3_41 twp_5 tw1_3 tw3_42 rfl (by decide) (by decide), List.forall_mem_cons.mpr ⟨s_zret C0 hr dX6_read_129, List.forall_mem_cons.mpr ⟨s_iinc C0 dX6_read_130 rfl (by decide), List.forall_mem_cons.mpr ⟨s_goto C0 dX6_read_133 rfl, List.forall_mem_cons.mpr ⟨s_aload_n C0 dX6_read_136 rfl, List.forall_mem_cons.mpr ⟨s_iconst C0 dX6_read_137 rfl, List.forall_mem_cons.mpr ⟨s_callV (ci := 6) C0 (kX6_fail l) dX6_read_138 rfl qX6_fail tw3_39 tw3_41 twp_5 tw1_3 tw3_42 rfl (by decide) (by decide), List.forall_mem_cons.mpr ⟨s_zret C0 hr dX6_read_141, fun _ h => absurd h List.not_mem_nil⟩⟩⟩⟩⟩⟩⟩⟩⟩⟩⟩⟩⟩⟩⟩⟩⟩⟩⟩⟩⟩⟩⟩⟩⟩⟩⟩⟩⟩⟩⟩⟩⟩
def fX6_read : Mf := mf 3 (fun K => tl K lX6_read)
theorem kX6_read (l : Launch) : Okm l yX6_read cX6_read 3 (some .boolean) 10 fX6_read := Okm_tl (own := RX6) (by decide +kernel) rfl (fun C0 hr => List.forall_mem_append.mpr ⟨hX6_read_0 l C0 hr, hX6_read_1 l C0 hr⟩)
theorem dX7_playOuting_0 : decode cX7_playOuting 0 = .ok (.aload_n 0, 1) := by decide +kernel
theorem dX7_playOuting_1 : decode cX7_playOuting 1 = .ok (.getfield 35, 3) := by decide +kernel
theorem dX7_playOuting_4 : decode cX7_playOuting 4 = .ok (.getfield 50, 3) := by decide +kernel
theorem dX7_playOuting_7 : decode cX7_playOuting 7 = .ok (.iload_n 1, 1) := by decide +kernel
theorem dX7_playOuting_8 : decode cX7_playOuting 8 = .ok (.iload_n 2, 1) := by decide +kernel
theorem dX7_playOuting_9 : decode cX7_playOuting 9 = .ok (.invokevirtual 63, 3) := by decide +kernel
theorem dX7_playOuting_12 : decode cX7_playOuting 12 = .ok (.istore_n 3, 1) := by decide +kernel
theorem dX7_playOuting_13 : decode cX7_playOuting 13 = .ok (.aload_n 0, 1) := by decide +kernel
theorem dX7_playOuting_14 : decode cX7_playOuting 14 = .ok (.getfield 35, 3) := by decide +kernel
theorem dX7_playOuting_17 : decode cX7_playOuting 17 = .ok (.getfield 39, 3) := by decide +kernel
theorem dX7_playOuting_20 : decode cX7_playOuting 20 = .ok (.iload_n 1, 1) := by decide +kernel
theorem dX7_playOuting_21 : decode cX7_playOuting 21 = .ok (.iconst 0, 1) := by decide +kernel
theorem dX7_playOuting_22 : decode cX7_playOuting 22 = .ok (.invokevirtual 67, 3) := by decide +kernel
theorem dX7_playOuting_25 : decode cX7_playOuting 25 = .ok (.istore 4, 2) := by decide +kernel
theorem dX7_playOuting_27 : decode cX7_playOuting 27 = .ok (.iload 4, 2) := by decide +kernel
theorem dX7_playOuting_29 : decode cX7_playOuting 29 = .ok (.aload_n 0, 1) := by decide +kernel
theorem dX7_playOuting_30 : decode cX7_playOuting 30 = .ok (.getfield 9, 3) := by decide +kernel
theorem dX7_playOuting_33 : decode cX7_playOuting 33 = .ok (.iload_n 3, 1) := by decide +kernel
theorem dX7_playOuting_34 : decode cX7_playOuting 34 = .ok (.iaload, 1) := by decide +kernel
theorem dX7_playOuting_35 : decode cX7_playOuting 35 = .ok (.if_icmp .ge 14, 3) := by decide +kernel
theorem dX7_playOuting_38 : decode cX7_playOuting 38 = .ok (.aload_n 0, 1) := by decide +kernel
theorem dX7_playOuting_39 : decode cX7_playOuting 39 = .ok (.dup, 1) := by decide +kernel
theorem dX7_playOuting_40 : decode cX7_playOuting 40 = .ok (.getfield 26, 3) := by decide +kernel
theorem dX7_playOuting_43 : decode cX7_playOuting 43 = .ok (.iconst 1, 1) := by decide +kernel
theorem dX7_playOuting_44 : decode cX7_playOuting 44 = .ok (.iadd, 1) := by decide +kernel
theorem dX7_playOuting_45 : decode cX7_playOuting 45 = .ok (.putfield 26, 3) := by decide +kernel
theorem dX7_playOuting_48 : decode cX7_playOuting 48 = .ok (.return_, 1) := by decide +kernel
theorem dX7_playOuting_49 : decode cX7_playOuting 49 = .ok (.aload_n 0, 1) := by decide +kernel
theorem dX7_playOuting_50 : decode cX7_playOuting 50 = .ok (.dup, 1) := by decide +kernel
theorem dX7_playOuting_51 : decode cX7_playOuting 51 = .ok (.getfield 29, 3) := by decide +kernel
theorem dX7_playOuting_54 : decode cX7_playOuting 54 = .ok (.aload_n 0, 1) := by decide +kernel
theorem dX7_playOuting_55 : decode cX7_playOuting 55 = .ok (.getfield 35, 3) := by decide +kernel
theorem dX7_playOuting_58 : decode cX7_playOuting 58 = .ok (.iload_n 1, 1) := by decide +kernel
theorem dX7_playOuting_59 : decode cX7_playOuting 59 = .ok (.iload_n 2, 1) := by decide +kernel
theorem dX7_playOuting_60 : decode cX7_playOuting 60 = .ok (.invokevirtual 70, 3) := by decide +kernel
theorem dX7_playOuting_63 : decode cX7_playOuting 63 = .ok (.iadd, 1) := by decide +kernel
theorem dX7_playOuting_64 : decode cX7_playOuting 64 = .ok (.putfield 29, 3) := by decide +kernel
theorem dX7_playOuting_67 : decode cX7_playOuting 67 = .ok (.aload_n 0, 1) := by decide +kernel
theorem dX7_playOuting_68 : decode cX7_playOuting 68 = .ok (.ldc2_w 73, 3) := by decide +kernel
theorem dX7_playOuting_71 : decode cX7_playOuting 71 = .ok (.aload_n 0, 1) := by decide +kernel
theorem dX7_playOuting_72 : decode cX7_playOuting 72 = .ok (.getfield 15, 3) := by decide +kernel
theorem dX7_playOuting_75 : decode cX7_playOuting 75 = .ok (.lmul, 1) := by decide +kernel
theorem dX7_playOuting_76 : decode cX7_playOuting 76 = .ok (.ldc2_w 75, 3) := by decide +kernel
theorem dX7_playOuting_79 : decode cX7_playOuting 79 = .ok (.lrem, 1) := by decide +kernel
theorem dX7_playOuting_80 : decode cX7_playOuting 80 = .ok (.putfield 15, 3) := by decide +kernel
theorem dX7_playOuting_83 : decode cX7_playOuting 83 = .ok (.aload_n 0, 1) := by decide +kernel
theorem dX7_playOuting_84 : decode cX7_playOuting 84 = .ok (.getfield 15, 3) := by decide +kernel
theorem dX7_playOuting_87 : decode cX7_playOuting 87 = .ok (.ldc2_w 77, 3) := by decide +kernel
theorem dX7_playOuting_90 : decode cX7_playOuting 90 = .ok (.lrem, 1) := by decide +kernel
theorem dX7_playOuting_91 : decode cX7_playOuting 91 = .ok (.aload_n 0, 1) := by decide +kernel
theorem dX7_playOuting_92 : decode cX7_playOuting 92 = .ok (.getfield 35, 3) := by decide +kernel
theorem dX7_playOuting_95 : decode cX7_playOuting 95 = .ok (.iload_n 1, 1) := by decide +kernel
theorem dX7_playOuting_96 : decode cX7_playOuting 96 = .ok (.iload_n 2, 1) := by decide +kernel
theorem dX7_playOuting_97 : decode cX7_playOuting 97 = .ok (.invokevirtual 79, 3) := by decide +kernel
theorem dX7_playOuting_100 : decode cX7_playOuting 100 = .ok (.i2l, 1) := by decide +kernel
theorem dX7_playOuting_101 : decode cX7_playOuting 101 = .ok (.lcmp, 1) := by decide +kernel
theorem dX7_playOuting_102 : decode cX7_playOuting 102 = .ok (.ifCond .lt 4, 3) := by decide +kernel
theorem dX7_playOuting_105 : decode cX7_playOuting 105 = .ok (.return_, 1) := by decide +kernel
theorem dX7_playOuting_106 : decode cX7_playOuting 106 = .ok (.aload_n 0, 1) := by decide +kernel
theorem dX7_playOuting_107 : decode cX7_playOuting 107 = .ok (.dup, 1) := by decide +kernel
theorem dX7_playOuting_108 : decode cX7_playOuting 108 = .ok (.getfield 19, 3) := by decide +kernel
theorem dX7_playOuting_111 : decode cX7_playOuting 111 = .ok (.iconst 1, 1) := by decide +kernel
theorem dX7_playOuting_112 : decode cX7_playOuting 112 = .ok (.iadd, 1) := by decide +kernel
theorem dX7_playOuting_113 : decode cX7_playOuting 113 = .ok (.putfield 19, 3) := by decide +kernel
theorem dX7_playOuting_116 : decode cX7_playOuting 116 = .ok (.aload_n 0, 1) := by decide +kernel
theorem dX7_playOuting_117 : decode cX7_playOuting 117 = .ok (.dup, 1) := by decide +kernel
theorem dX7_playOuting_118 : decode cX7_playOuting 118 = .ok (.getfield 23, 3) := by decide +kernel
theorem dX7_playOuting_121 : decode cX7_playOuting 121 = .ok (.iconst 1, 1) := by decide +kernel
theorem dX7_playOuting_122 : decode cX7_playOuting 122 = .ok (.iload_n 3, 1) := by decide +kernel
theorem dX7_playOuting_123 : decode cX7_playOuting 123 = .ok (.ishl, 1) := by decide +kernel
theorem dX7_playOuting_124 : decode cX7_playOuting 124 = .ok (.ior, 1) := by decide +kernel
theorem dX7_playOuting_125 : decode cX7_playOuting 125 = .ok (.putfield 23, 3) := by decide +kernel
theorem dX7_playOuting_128 : decode cX7_playOuting 128 = .ok (.aload_n 0, 1) := by decide +kernel
theorem dX7_playOuting_129 : decode cX7_playOuting 129 = .ok (.getfield 9, 3) := by decide +kernel
theorem dX7_playOuting_132 : decode cX7_playOuting 132 = .ok (.iload_n 3, 1) := by decide +kernel
theorem dX7_playOuting_133 : decode cX7_playOuting 133 = .ok (.iload 4, 2) := by decide +kernel
theorem dX7_playOuting_135 : decode cX7_playOuting 135 = .ok (.aload_n 0, 1) := by decide +kernel
theorem dX7_playOuting_136 : decode cX7_playOuting 136 = .ok (.getfield 35, 3) := by decide +kernel
theorem dX7_playOuting_139 : decode cX7_playOuting 139 = .ok (.getfield 39, 3) := by decide +kernel
theorem dX7_playOuting_142 : decode cX7_playOuting 142 = .ok (.getfield 82, 3) := by decide +kernel
theorem dX7_playOuting_145 : decode cX7_playOuting 145 = .ok (.iconst 2, 1) := by decide +kernel
theorem dX7_playOuting_146 : decode cX7_playOuting 146 = .ok (.iaload, 1) := by decide +kernel
theorem dX7_playOuting_147 : decode cX7_playOuting 147 = .ok (.iadd, 1) := by decide +kernel
theorem dX7_playOuting_148 : decode cX7_playOuting 148 = .ok (.iconst 1, 1) := by decide +kernel
theorem dX7_playOuting_149 : decode cX7_playOuting 149 = .ok (.iadd, 1) := by decide +kernel
theorem dX7_playOuting_150 : decode cX7_playOuting 150 = .ok (.iastore, 1) := by decide +kernel
theorem dX7_playOuting_151 : decode cX7_playOuting 151 = .ok (.aload_n 0, 1) := by decide +kernel
theorem dX7_playOuting_152 : decode cX7_playOuting 152 = .ok (.getfield 32, 3) := by decide +kernel
theorem dX7_playOuting_155 : decode cX7_playOuting 155 = .ok (.bipush (-2), 2) := by decide +kernel
theorem dX7_playOuting_157 : decode cX7_playOuting 157 = .ok (.if_icmp .ne 8, 3) := by decide +kernel
theorem dX7_playOuting_160 : decode cX7_playOuting 160 = .ok (.aload_n 0, 1) := by decide +kernel
theorem dX7_playOuting_161 : decode cX7_playOuting 161 = .ok (.iload_n 1, 1) := by decide +kernel
theorem dX7_playOuting_162 : decode cX7_playOuting 162 = .ok (.putfield 32, 3) := by decide +kernel
theorem dX7_playOuting_165 : decode cX7_playOuting 165 = .ok (.return_, 1) := by decide +kernel
def lX7_playOuting_0 : List (Nat × (Op ⊕ Nat)) := [(0, .inl (o_aload 0 1)), (1, .inl (o_get 7 0 4)), (4, .inl (o_get 1 1 7)), (7, .inl (o_iload 1 8)), (8, .inl (o_iload 2 9)), (9, .inl (o_callV fX5_armAt 2 5 12)), (12, .inl (o_istore 3 13)), (13, .inl (o_aload 0 14)), (14, .inl (o_get 7 0 17)), (17, .inl (o_get 1 0 20)), (20, .inl (o_iload 1 21)), (21, .inl (o_pushI (nI 0) 22)), (22, .inl (o_callV fX9_fact 2 9 25)), (25, .inl (o_istore 4 27)), (27, .inl (o_iload 4 29)), (29, .inl (o_aload 0 30)), (30, .inl (o_get 7 1 33)), (33, .inl (o_iload 3 34)), (34, .inl (o_iald 35)), (35, .inl (o_icmp_ge 49 38)), (38, .inl (o_aload 0 39)), (39, .inl (o_dup 40)), (40, .inl (o_get 7 5 43)), (43, .inl (o_pushI (nI 1) 44)), (44, .inl (o_iadd 45)), (45, .inl (o_putI 7 5 48)), (48, .inr 3), (49, .inl (o_aload 0 50)), (50, .inl (o_dup 51)), (51, .inl (o_get 7 6 54)), (54, .inl (o_aload 0 55)), (55, .inl (o_get 7 0 58)), (58, .inl (o_iload 1 59)), (59, .inl (o_iload 2 60)), (60, .inl (o_callV fX1_valueAt 2 1 63)), (63, .inl (o_iadd 64)), (64, .inl (o_putI 7 6 67)), (67, .inl (o_aload 0 68)), (68, .inl (o_pushL (lN 16807) 71)), (71, .inl (o_aload 0 72))]
def lX7_playOuting_1 : List (Nat × (Op ⊕ Nat)) := [(72, .inl (o_get 7 2 75)), (75, .inl (o_lmul 76)), (76, .inl (o_pushL (lN 2147483647) 79)), (79, .inl (o_lrem 80)), (80, .inl (o_putL 7 2 83)), (83, .inl (o_aload 0 84)), (84, .inl (o_get 7 2 87)), (87, .inl (o_pushL (lN 1000) 90)), (90, .inl (o_lrem 91)), (91, .inl (o_aload 0 92)), (92, .inl (o_get 7 0 95)), (95, .inl (o_iload 1 96)), (96, .inl (o_iload 2 97)), (97, .inl (o_callV fX1_riskAt 2 1 100)), (100, .inl (o_i2l 101)), (101, .inl (o_lcmp 102)), (102, .inl (o_if_lt 106 105)), (105, .inr 3), (106, .inl (o_aload 0 107)), (107, .inl (o_dup 108)), (108, .inl (o_get 7 3 111)), (111, .inl (o_pushI (nI 1) 112)), (112, .inl (o_iadd 113)), (113, .inl (o_putI 7 3 116)), (116, .inl (o_aload 0 117)), (117, .inl (o_dup 118)), (118, .inl (o_get 7 4 121)), (121, .inl (o_pushI (nI 1) 122)), (122, .inl (o_iload 3 123)), (123, .inl (o_ishl 124)), (124, .inl (o_ior 125)), (125, .inl (o_putI 7 4 128)), (128, .inl (o_aload 0 129)), (129, .inl (o_get 7 1 132)), (132, .inl (o_iload 3 133)), (133, .inl (o_iload 4 135)), (135, .inl (o_aload 0 136)), (136, .inl (o_get 7 0 139)), (139, .inl (o_get 1 0 142)), (142, .inl (o_get 9 6 145))]
def lX7_playOuting_2 : List (Nat × (Op ⊕ Nat)) := [(145, .inl (o_pushI (nI 2) 146)), (146, .inl (o_iald 147)), (147, .inl (o_iadd 148)), (148, .inl (o_pushI (nI 1) 149)), (149, .inl (o_iadd 150)), (150, .inl (o_iast 151)), (151, .inl (o_aload 0 152)), (152, .inl (o_get 7 7 155)), (155, .inl (o_pushI ((-2)) 157)), (157, .inl (o_icmp_ne 165 160)), (160, .inl (o_aload 0 161)), (161, .inl (o_iload 1 162)), (162, .inl (o_putI 7 7 165)), (165, .inr 3)]
def lX7_playOuting : List (Nat × (Op ⊕ Nat)) := lX7_playOuting_0 ++ (lX7_playOuting_1 ++ (lX7_playOuting_2))
theorem qX7_playOuting : yX7_playOuting.cls = RX7 ∧ yX7_playOuting.cls ≠ "java/lang/invoke/MethodHandle" ∧ yX7_playOuting.cls ≠ "java/lang/invoke/VarHandle" ∧ (parseMethodDescriptor yX7_playOuting.desc).map (fun d => d.parameters.length) = some 2 := by decide +kernel
set_option maxRecDepth 10000 in
theorem hX7_playOuting_0 (l : Launch) {p : Program} {e : Env} {s : State} {m : MethodId} {args : Array Value} {below : List Frame} {meth : Method} {c : Code} {D : va_G} {ad adV : Nat → Nat} {cA : Nat → ClassId} {K : Kt} (C0 : Cx p s m args meth c D ad adV cA cX7_playOuting 5 RX7) (hr : meth.sig.returnType = none) : ∀ q ∈ lX7_playOuting_0, Sd p l e (rmd 4) s m args below meth c (MQ below (QQ D ad cA K) args s 0 0 (AA ad)) D ad cA 5 q.1 (opOf K q.2) := List.forall_mem_cons.mpr ⟨s_aload_n C0 dX7_playOuting_0 rfl, List.forall_mem_cons.mpr ⟨s_get (ci := 7) (k := 0) C0 dX7_playOuting_1 inX7 rfl (by decide) tw2_65, List.forall_mem_cons.mpr ⟨s_get (ci := 1) (k := 1) C0 dX7_playOuting_4 inX1 rfl (by decide) tw1_197, List.forall_mem_cons.mpr ⟨s_iload_n C0 dX7_playOuting_7 rfl, List.forall_mem_cons.mpr ⟨s_iload_n C0 dX7_playOuting_8 rfl, List.forall_mem_cons.mpr ⟨s_callV (ci := 5) C0 (kX5_armAt l) dX7_playOuting_9 rfl qX5_armAt tw5_19 tw3_128 tw3_129 tw1_5 tw3_130 rfl (by decide) (by decide), List.forall_mem_cons.mpr ⟨s_istore_n C0 dX7_playOuting_12 rfl (by decide), List.forall_mem_cons.mpr ⟨s_aload_n C0 dX7_playOuting_13 rfl, List.forall_mem_cons.mpr ⟨s_get (ci := 7) (k := 0) C0 dX7_playOuting_14 inX7 rfl (by decide) tw2_65, List.forall_mem_cons.mpr ⟨s_get (ci := 1) (k := 0) C0 dX7_playOuting_17 inX1 rfl (by decide) tw1_193, List.forall_mem_cons.mpr ⟨s_iload_n C0 dX7_playOuting_20 rfl, List.forall_mem_cons.mpr ⟨s_iconst C0 dX7_playOuting_21 rfl, List.forall_mem_cons.mpr ⟨s_callV (ci := 9) C0 (kX9_fact l) dX7_playOuting_22 rfl qX9_fact tw5_20 tw3_92 tw3_93 tw1_4 tw3_94 rfl (by decide) (by decide), List.forall_mem_cons.mpr ⟨s_istore C0 dX7_playOuting_25 (by decide), List.forall_mem_cons.mpr ⟨s_iload C0 dX7_playOuting_27, List.forall_mem_cons.mpr ⟨s_aload_n C0 dX7_playOuting_29 rfl, List.forall_mem_cons.mpr ⟨s_get (ci := 7) (k := 1) C0 dX7_playOuting_30 inX7 rfl (by decide) tw2_66, List.forall_mem_cons.mpr ⟨s_iload_n C0 dX7_playOuting_33 rfl, List.forall_mem_cons.mpr ⟨s_iald C0 dX7_playOuting_34, List.forall_mem_cons.mpr ⟨s_icmp_ge C0 dX7_playOuting_35 rfl, List.forall_mem_cons.mpr ⟨s_aload_n C0 dX7_playOuting_38 rfl, List.forall_mem_cons.mpr ⟨s_dup C0 dX7_playOuting_39, List.forall_mem_cons.mpr ⟨s_get (ci := 7) (k := 5) C0 dX7_playOuting_40 inX7 rfl (by decide) tw2_72, List.forall_mem_cons.mpr ⟨s_iconst C0 dX7_playOuting_43 rfl, List.forall_mem_cons.mpr ⟨s_iadd C0 dX7_playOuting_44, List.forall_mem_cons.mpr ⟨s_putI (ci := 7) (k := 5) C0 dX7_playOuting_45 inX7 tyX7_ok nmX7 rfl (by decide) rfl rfl tw2_72, List.forall_mem_cons.mpr ⟨s_vret C0 hr dX7_playOuting_48, List.forall_mem_cons.mpr ⟨s_aload_n C0 dX7_playOuting_49 rfl, List.forall_mem_cons.mpr ⟨s_dup C0 dX7_playOuting_50, List.forall_mem_cons.mpr ⟨s_get (ci := 7) (k := 6) C0 dX7_playOuting_51 inX7 rfl (by decide) tw2_74, List.forall_mem_cons.mpr ⟨s_aload_n C0 dX7_playOuting_54 rfl, List.forall_mem_cons.mpr ⟨s_get (ci := 7) (k := 0) C0 dX7_playOuting_55 inX7 rfl (by decide) tw2_65, List.forall_mem_cons.mpr ⟨s_iload_n C0 dX7_playOuting_58 rfl, List.forall_mem_cons.mpr ⟨s_iload_n C0 dX7_playOuting_59 rfl, List.forall_mem_cons.mpr ⟨s_callV (ci := 1) C0 (kX1_valueAt l) dX7_playOuting_60 rfl qX1_valueAt tw5_21 tw3_236 tw3_237 tw1_6 tw3_238 rfl (by decide) (by decide), List.forall_mem_cons.mpr ⟨s_iadd C0 dX7_playOuting_63, List.forall_mem_cons.mpr ⟨s_putI (ci := 7) (k := 6) C0 dX7_playOuting_64 inX7 tyX7_ok nmX7 rfl (by decide) rfl rfl tw2_74, List.forall_mem_cons.mpr ⟨s_aload_n C0 dX7_playOuting_67 rfl, List.forall_mem_cons.mpr ⟨s_ldc2 C0 dX7_playOuting_68 tw5_22, List.forall_mem_cons.mpr ⟨s_aload_n C0 dX7_playOuting_71 rfl, fun _ h => absurd h List.not_mem_nil⟩⟩⟩⟩⟩⟩⟩⟩⟩⟩⟩⟩⟩⟩⟩⟩⟩⟩⟩⟩⟩⟩⟩⟩⟩⟩⟩⟩⟩⟩⟩⟩⟩⟩⟩⟩⟩⟩⟩⟩
set_option maxRecDepth 10000 in
theorem hX7_playOuting_1 (l : Launch) {p : Program} {e : Env} {s : State} {m : MethodId} {args : Array Value} {below : List Frame} {meth : Method} {c : Code} {D : va_G} {ad adV : Nat → Nat} {cA : Nat → ClassId} {K : Kt} (C0 : Cx p s m args meth c D ad adV cA cX7_playOuting 5 RX7) (hr : meth.sig.returnType = none) : ∀ q ∈ lX7_playOuting_1, Sd p l e (rmd 4) s m args below meth c (MQ below (QQ D ad cA K) args s 0 0 (AA ad)) D ad cA 5 q.1 (opOf K q.2) := List.forall_mem_cons.mpr ⟨s_get (ci := 7) (k := 2) C0 dX7_playOuting_72 inX7 rfl (by decide) tw2_67, List.forall_mem_cons.mpr ⟨s_lmul C0 dX7_playOuting_75, List.forall_mem_cons.mpr ⟨s_ldc2 C0 dX7_playOuting_76 tw5_23, List.forall_mem_cons.mpr ⟨s_lrem C0 dX7_playOuting_79, List.forall_mem_cons.mpr ⟨s_putL (ci := 7) (k := 2) C0 dX7_playOuting_80 inX7 tyX7_ok nmX7 rfl (by decide) rfl rfl tw2_67, List.forall_mem_cons.mpr ⟨s_aload_n C0 dX7_playOuting_83 rfl, List.forall_mem_cons.mpr ⟨s_get (ci := 7) (k := 2) C0 dX7_playOuting_84 inX7 rfl (by decide) tw2_67, List.forall_mem_cons.mpr ⟨s_ldc2 C0 dX7_playOuting_87 tw5_24, List.forall_mem_cons.mpr ⟨s_lrem C0 dX7_playOuting_90, List.forall_mem_cons.mpr ⟨s_aload_n C0 dX7_playOuting_91 rfl, List.forall_mem_cons.mpr ⟨s_get (ci := 7) (k := 0) C0 dX7_playOuting_92 inX7 rfl (by decide) tw2_65, List.forall_mem_cons.mpr ⟨s_iload_n C0 dX7_playOuting_95 rfl, List.forall_mem_cons.mpr ⟨s_iload_n C0 dX7_playOuting_96 rfl, List.forall_mem_cons.mpr ⟨s_callV (ci := 1) C0 (kX1_riskAt l) dX7_playOuting_97 rfl qX1_riskAt tw5_25 tw4_24 tw4_25 tw1_6 tw4_26 rfl (by decide) (by decide), List.forall_mem_cons.mpr ⟨s_i2l C0 dX7_playOuting_100, List.forall_mem_cons.mpr ⟨s_lcmp C0 dX7_playOuting_101, List.forall_mem_cons.mpr ⟨s_if_lt C0 dX7_playOuting_102 rfl, List.forall_mem_cons.mpr ⟨s_vret C0 hr dX7_playOuting_105, List.forall_mem_cons.mpr ⟨s_aload_n C0 dX7_playOuting_106 rfl, List.forall_mem_cons.mpr ⟨s_dup C0 dX7_playOuting_107, List.forall_mem_cons.mpr ⟨s_get (ci := 7) (k := 3) C0 dX7_playOuting_108 inX7 rfl (by decide) tw2_68, List.forall_mem_cons.mpr ⟨s_iconst C0 dX7_playOuting_111 rfl, List.forall_mem_cons.mpr ⟨s_iadd C0 dX7_playOuting_112, List.forall_mem_cons.mpr ⟨s_putI (ci := 7) (k := 3) C0 dX7_playOuting_113 inX7 tyX7_ok nmX7 rfl (by decide) rfl rfl tw2_68, List.forall_mem_cons.mpr ⟨s_aload_n C0 dX7_playOuting_116 rfl, List.forall_mem_cons.mpr ⟨s_dup C0 dX7_playOuting_117, List.forall_mem_cons.mpr ⟨s_get (ci := 7) (k := 4) C0 dX7_playOuting_118 inX7 rfl (by decide) tw2_70, List.forall_mem_cons.mpr ⟨s_iconst C0 dX7_playOuting_121 rfl, List.forall_mem_cons.mpr ⟨s_iload_n C0 dX7_playOuting_122 rfl, List.forall_mem_cons.mpr ⟨s_ishl C0 dX7_playOuting_123, List.forall_mem_cons.mpr ⟨s_ior C0 dX7_playOuting_124, List.forall_mem_cons.mpr ⟨s_putI (ci := 7) (k := 4) C0 dX7_playOuting_125 inX7 tyX7_ok nmX7 rfl (by decide) rfl rfl tw2_70, List.forall_mem_cons.mpr ⟨s_aload_n C0 dX7_playOuting_128 rfl, List.forall_mem_cons.mpr ⟨s_get (ci := 7) (k := 1) C0 dX7_playOuting_129 inX7 rfl (by decide) tw2_66, List.forall_mem_cons.mpr ⟨s_iload_n C0 dX7_playOuting_132 rfl, List.forall_mem_cons.mpr ⟨s_iload C0 dX7_playOuting_133, List.forall_mem_cons.mpr ⟨s_aload_n C0 dX7_playOuting_135 rfl, List.forall_mem_cons.mpr ⟨s_get (ci := 7) (k := 0) C0 dX7_playOuting_136 inX7 rfl (by decide) tw2_65, List.forall_mem_cons.mpr ⟨s_get (ci := 1) (k := 0) C0 dX7_playOuting_139 inX1 rfl (by decide) tw1_193, List.forall_mem_cons.mpr ⟨s_get (ci := 9) (k := 6) C0 dX7_playOuting_142 inX9 rfl (by decide) tw1_103, fun _ h => absurd h List.not_mem_nil⟩⟩⟩⟩⟩⟩⟩⟩⟩⟩⟩⟩⟩⟩⟩⟩⟩⟩⟩⟩⟩⟩⟩⟩⟩⟩⟩⟩⟩⟩⟩⟩⟩⟩⟩⟩⟩⟩⟩⟩
set_option maxRecDepth 10000 in
theorem hX7_playOuting_2 (l : Launch) {p : Program} {e : Env} {s : State} {m : MethodId} {args : Array Value} {below : List Frame} {meth : Method} {c : Code} {D : va_G} {ad adV : Nat → Nat} {cA : Nat → ClassId} {K : Kt} (C0 : Cx p s m args meth c D ad adV cA cX7_playOuting 5 RX7) (hr : meth.sig.returnType = none) : ∀ q ∈ lX7_playOuting_2, Sd p l e (rmd 4) s m args below meth c (MQ below (QQ D ad cA K) args s 0 0 (AA ad)) D ad cA 5 q.1 (opOf K q.2) := List.forall_mem_cons.mpr ⟨s_iconst C0 dX7_playOuting_145 rfl, List.forall_mem_cons.mpr ⟨s_iald C0 dX7_playOuting_146, List.forall_mem_cons.mpr ⟨s_iadd C0 dX7_playOuting_147, List.forall_mem_cons.mpr ⟨s_iconst C0 dX7_playOuting_148 rfl, List.forall_mem_cons.mpr ⟨s_iadd C0 dX7_playOuting_149, List.forall_mem_cons.mpr ⟨s_iast C0 dX7_playOuting_150, List.forall_mem_cons.mpr ⟨s_aload_n C0 dX7_playOuting_151 rfl, List.forall_mem_cons.mpr ⟨s_get (ci := 7) (k := 7) C0 dX7_playOuting_152 inX7 rfl (by decide) tw2_76, List.forall_mem_cons.mpr ⟨s_bipush C0 dX7_playOuting_155 (by decide +kernel), List.forall_mem_cons.mpr ⟨s_icmp_ne C0 dX7_playOuting_157 rfl, List.forall_mem_cons.mpr ⟨s_aload_n C0 dX7_playOuting_160 rfl, List.forall_mem_cons.mpr ⟨s_iload_n C0 dX7_playOuting_161 rfl, List.forall_mem_cons.mpr ⟨s_putI (ci := 7) (k := 7) C0 dX7_playOuting_162 inX7 tyX7_ok nmX7 rfl (by decide) rfl rfl tw2_76, List.forall_mem_cons.mpr ⟨s_vret C0 hr dX7_playOuting_165, fun _ h => absurd h List.not_mem_nil⟩⟩⟩⟩⟩⟩⟩⟩⟩⟩⟩⟩⟩⟩
def fX7_playOuting : Mf := mf 5 (fun K => tl K lX7_playOuting)
theorem kX7_playOuting (l : Launch) : Okm l yX7_playOuting cX7_playOuting 5 none 4 fX7_playOuting := Okm_tl (own := RX7) (by decide +kernel) rfl (fun C0 hr => List.forall_mem_append.mpr ⟨hX7_playOuting_0 l C0 hr, List.forall_mem_append.mpr ⟨hX7_playOuting_1 l C0 hr, hX7_playOuting_2 l C0 hr⟩⟩)
theorem dX7_play_0 : decode cX7_play 0 = .ok (.iconst 0, 1) := by decide +kernel
theorem dX7_play_1 : decode cX7_play 1 = .ok (.istore_n 2, 1) := by decide +kernel
theorem dX7_play_2 : decode cX7_play 2 = .ok (.iload_n 2, 1) := by decide +kernel
theorem dX7_play_3 : decode cX7_play 3 = .ok (.bipush 8, 2) := by decide +kernel
theorem dX7_play_5 : decode cX7_play 5 = .ok (.if_icmp .ge 16, 3) := by decide +kernel
theorem dX7_play_8 : decode cX7_play 8 = .ok (.aload_n 0, 1) := by decide +kernel
theorem dX7_play_9 : decode cX7_play 9 = .ok (.getfield 9, 3) := by decide +kernel
theorem dX7_play_12 : decode cX7_play 12 = .ok (.iload_n 2, 1) := by decide +kernel
theorem dX7_play_13 : decode cX7_play 13 = .ok (.iconst 0, 1) := by decide +kernel
theorem dX7_play_14 : decode cX7_play 14 = .ok (.iastore, 1) := by decide +kernel
theorem dX7_play_15 : decode cX7_play 15 = .ok (.iinc 2 1, 3) := by decide +kernel
theorem dX7_play_18 : decode cX7_play 18 = .ok (.goto (-16), 3) := by decide +kernel
theorem dX7_play_21 : decode cX7_play 21 = .ok (.aload_n 0, 1) := by decide +kernel
theorem dX7_play_22 : decode cX7_play 22 = .ok (.iload_n 1, 1) := by decide +kernel
theorem dX7_play_23 : decode cX7_play 23 = .ok (.i2l, 1) := by decide +kernel
theorem dX7_play_24 : decode cX7_play 24 = .ok (.putfield 15, 3) := by decide +kernel
theorem dX7_play_27 : decode cX7_play 27 = .ok (.aload_n 0, 1) := by decide +kernel
theorem dX7_play_28 : decode cX7_play 28 = .ok (.iconst 0, 1) := by decide +kernel
theorem dX7_play_29 : decode cX7_play 29 = .ok (.putfield 19, 3) := by decide +kernel
theorem dX7_play_32 : decode cX7_play 32 = .ok (.aload_n 0, 1) := by decide +kernel
theorem dX7_play_33 : decode cX7_play 33 = .ok (.iconst 0, 1) := by decide +kernel
theorem dX7_play_34 : decode cX7_play 34 = .ok (.putfield 23, 3) := by decide +kernel
theorem dX7_play_37 : decode cX7_play 37 = .ok (.aload_n 0, 1) := by decide +kernel
theorem dX7_play_38 : decode cX7_play 38 = .ok (.iconst 0, 1) := by decide +kernel
theorem dX7_play_39 : decode cX7_play 39 = .ok (.putfield 26, 3) := by decide +kernel
theorem dX7_play_42 : decode cX7_play 42 = .ok (.aload_n 0, 1) := by decide +kernel
theorem dX7_play_43 : decode cX7_play 43 = .ok (.iconst 0, 1) := by decide +kernel
theorem dX7_play_44 : decode cX7_play 44 = .ok (.putfield 29, 3) := by decide +kernel
theorem dX7_play_47 : decode cX7_play 47 = .ok (.aload_n 0, 1) := by decide +kernel
theorem dX7_play_48 : decode cX7_play 48 = .ok (.bipush (-2), 2) := by decide +kernel
theorem dX7_play_50 : decode cX7_play 50 = .ok (.putfield 32, 3) := by decide +kernel
theorem dX7_play_53 : decode cX7_play 53 = .ok (.iconst 0, 1) := by decide +kernel
theorem dX7_play_54 : decode cX7_play 54 = .ok (.istore_n 2, 1) := by decide +kernel
theorem dX7_play_55 : decode cX7_play 55 = .ok (.iload_n 2, 1) := by decide +kernel
theorem dX7_play_56 : decode cX7_play 56 = .ok (.aload_n 0, 1) := by decide +kernel
theorem dX7_play_57 : decode cX7_play 57 = .ok (.getfield 35, 3) := by decide +kernel
theorem dX7_play_60 : decode cX7_play 60 = .ok (.getfield 39, 3) := by decide +kernel
theorem dX7_play_63 : decode cX7_play 63 = .ok (.getfield 45, 3) := by decide +kernel
theorem dX7_play_66 : decode cX7_play 66 = .ok (.if_icmp .ge 39, 3) := by decide +kernel
theorem dX7_play_69 : decode cX7_play 69 = .ok (.iconst 0, 1) := by decide +kernel
theorem dX7_play_70 : decode cX7_play 70 = .ok (.istore_n 3, 1) := by decide +kernel
theorem dX7_play_71 : decode cX7_play 71 = .ok (.iload_n 3, 1) := by decide +kernel
theorem dX7_play_72 : decode cX7_play 72 = .ok (.aload_n 0, 1) := by decide +kernel
theorem dX7_play_73 : decode cX7_play 73 = .ok (.getfield 35, 3) := by decide +kernel
theorem dX7_play_76 : decode cX7_play 76 = .ok (.getfield 50, 3) := by decide +kernel
theorem dX7_play_79 : decode cX7_play 79 = .ok (.getfield 54, 3) := by decide +kernel
theorem dX7_play_82 : decode cX7_play 82 = .ok (.iload_n 2, 1) := by decide +kernel
theorem dX7_play_83 : decode cX7_play 83 = .ok (.iaload, 1) := by decide +kernel
theorem dX7_play_84 : decode cX7_play 84 = .ok (.if_icmp .ge 15, 3) := by decide +kernel
theorem dX7_play_87 : decode cX7_play 87 = .ok (.aload_n 0, 1) := by decide +kernel
theorem dX7_play_88 : decode cX7_play 88 = .ok (.iload_n 2, 1) := by decide +kernel
theorem dX7_play_89 : decode cX7_play 89 = .ok (.iload_n 3, 1) := by decide +kernel
theorem dX7_play_90 : decode cX7_play 90 = .ok (.invokevirtual 59, 3) := by decide +kernel
theorem dX7_play_93 : decode cX7_play 93 = .ok (.iinc 3 1, 3) := by decide +kernel
theorem dX7_play_96 : decode cX7_play 96 = .ok (.goto (-25), 3) := by decide +kernel
theorem dX7_play_99 : decode cX7_play 99 = .ok (.iinc 2 1, 3) := by decide +kernel
theorem dX7_play_102 : decode cX7_play 102 = .ok (.goto (-47), 3) := by decide +kernel
theorem dX7_play_105 : decode cX7_play 105 = .ok (.return_, 1) := by decide +kernel
def lX7_play_0 : List (Nat × (Op ⊕ Nat)) := [(0, .inl (o_pushI (nI 0) 1)), (1, .inl (o_istore 2 2)), (2, .inl (o_iload 2 3)), (3, .inl (o_pushI (nI 8) 5)), (5, .inl (o_icmp_ge 21 8)), (8, .inl (o_aload 0 9)), (9, .inl (o_get 7 1 12)), (12, .inl (o_iload 2 13)), (13, .inl (o_pushI (nI 0) 14)), (14, .inl (o_iast 15)), (15, .inl (o_iinc 2 (nI 1) 18)), (18, .inl (o_goto 2)), (21, .inl (o_aload 0 22)), (22, .inl (o_iload 1 23)), (23, .inl (o_i2l 24)), (24, .inl (o_putL 7 2 27)), (27, .inl (o_aload 0 28)), (28, .inl (o_pushI (nI 0) 29)), (29, .inl (o_putI 7 3 32)), (32, .inl (o_aload 0 33)), (33, .inl (o_pushI (nI 0) 34)), (34, .inl (o_putI 7 4 37)), (37, .inl (o_aload 0 38)), (38, .inl (o_pushI (nI 0) 39)), (39, .inl (o_putI 7 5 42)), (42, .inl (o_aload 0 43)), (43, .inl (o_pushI (nI 0) 44)), (44, .inl (o_putI 7 6 47)), (47, .inl (o_aload 0 48)), (48, .inl (o_pushI ((-2)) 50)), (50, .inl (o_putI 7 7 53)), (53, .inl (o_pushI (nI 0) 54)), (54, .inl (o_istore 2 55)), (55, .inl (o_iload 2 56)), (56, .inl (o_aload 0 57)), (57, .inl (o_get 7 0 60)), (60, .inl (o_get 1 0 63)), (63, .inl (o_get 9 4 66)), (66, .inl (o_icmp_ge 105 69)), (69, .inl (o_pushI (nI 0) 70))]
def lX7_play_1 : List (Nat × (Op ⊕ Nat)) := [(70, .inl (o_istore 3 71)), (71, .inl (o_iload 3 72)), (72, .inl (o_aload 0 73)), (73, .inl (o_get 7 0 76)), (76, .inl (o_get 1 1 79)), (79, .inl (o_get 5 0 82)), (82, .inl (o_iload 2 83)), (83, .inl (o_iald 84)), (84, .inl (o_icmp_ge 99 87)), (87, .inl (o_aload 0 88)), (88, .inl (o_iload 2 89)), (89, .inl (o_iload 3 90)), (90, .inl (o_callV fX7_playOuting 2 7 93)), (93, .inl (o_iinc 3 (nI 1) 96)), (96, .inl (o_goto 71)), (99, .inl (o_iinc 2 (nI 1) 102)), (102, .inl (o_goto 55)), (105, .inr 3)]
def lX7_play : List (Nat × (Op ⊕ Nat)) := lX7_play_0 ++ (lX7_play_1)
theorem qX7_play : yX7_play.cls = RX7 ∧ yX7_play.cls ≠ "java/lang/invoke/MethodHandle" ∧ yX7_play.cls ≠ "java/lang/invoke/VarHandle" ∧ (parseMethodDescriptor yX7_play.desc).map (fun d => d.parameters.length) = some 1 := by decide +kernel
set_option maxRecDepth 10000 in
theorem hX7_play_0 (l : Launch) {p : Program} {e : Env} {s : State} {m : MethodId} {args : Array Value} {below : List Frame} {meth : Method} {c : Code} {D : va_G} {ad adV : Nat → Nat} {cA : Nat → ClassId} {K : Kt} (C0 : Cx p s m args meth c D ad adV cA cX7_play 4 RX7) (hr : meth.sig.returnType = none) : ∀ q ∈ lX7_play_0, Sd p l e (rmd 5) s m args below meth c (MQ below (QQ D ad cA K) args s 0 0 (AA ad)) D ad cA 4 q.1 (opOf K q.2) := List.forall_mem_cons.mpr ⟨s_iconst C0 dX7_play_0 rfl, List.forall_mem_cons.mpr ⟨s_istore_n C0 dX7_play_1 rfl (by decide), List.forall_mem_cons.mpr ⟨s_iload_n C0 dX7_play_2 rfl, List.forall_mem_cons.mpr ⟨s_bipush C0 dX7_play_3 (by decide +kernel), List.forall_mem_cons.mpr ⟨s_icmp_ge C0 dX7_play_5 rfl, List.forall_mem_cons.mpr ⟨s_aload_n C0 dX7_play_8 rfl, List.forall_mem_cons.mpr ⟨s_get (ci := 7) (k := 1) C0 dX7_play_9 inX7 rfl (by decide) tw2_66, List.forall_mem_cons.mpr ⟨s_iload_n C0 dX7_play_12 rfl, List.forall_mem_cons.mpr ⟨s_iconst C0 dX7_play_13 rfl, List.forall_mem_cons.mpr ⟨s_iast C0 dX7_play_14, List.forall_mem_cons.mpr ⟨s_iinc C0 dX7_play_15 rfl (by decide), List.forall_mem_cons.mpr ⟨s_goto C0 dX7_play_18 rfl, List.forall_mem_cons.mpr ⟨s_aload_n C0 dX7_play_21 rfl, List.forall_mem_cons.mpr ⟨s_iload_n C0 dX7_play_22 rfl, List.forall_mem_cons.mpr ⟨s_i2l C0 dX7_play_23, List.forall_mem_cons.mpr ⟨s_putL (ci := 7) (k := 2) C0 dX7_play_24 inX7 tyX7_ok nmX7 rfl (by decide) rfl rfl tw2_67, List.forall_mem_cons.mpr ⟨s_aload_n C0 dX7_play_27 rfl, List.forall_mem_cons.mpr ⟨s_iconst C0 dX7_play_28 rfl, List.forall_mem_cons.mpr ⟨s_putI (ci := 7) (k := 3) C0 dX7_play_29 inX7 tyX7_ok nmX7 rfl (by decide) rfl rfl tw2_68, List.forall_mem_cons.mpr ⟨s_aload_n C0 dX7_play_32 rfl, List.forall_mem_cons.mpr ⟨s_iconst C0 dX7_play_33 rfl, List.forall_mem_cons.mpr ⟨s_putI (ci := 7) (k := 4) C0 dX7_play_34 inX7 tyX7_ok nmX7 rfl (by decide) rfl rfl tw2_70, List.forall_mem_cons.mpr ⟨s_aload_n C0 dX7_play_37 rfl, List.forall_mem_cons.mpr ⟨s_iconst C0 dX7_play_38 rfl, List.forall_mem_cons.mpr ⟨s_putI (ci := 7) (k := 5) C0 dX7_play_39 inX7 tyX7_ok nmX7 rfl (by decide) rfl rfl tw2_72, List.forall_mem_cons.mpr ⟨s_aload_n C0 dX7_play_42 rfl, List.forall_mem_cons.mpr ⟨s_iconst C0 dX7_play_43 rfl, List.forall_mem_cons.mpr ⟨s_putI (ci := 7) (k := 6) C0 dX7_play_44 inX7 tyX7_ok nmX7 rfl (by decide) rfl rfl tw2_74, List.forall_mem_cons.mpr ⟨s_aload_n C0 dX7_play_47 rfl, List.forall_mem_cons.mpr ⟨s_bipush C0 dX7_play_48 (by decide +kernel), List.forall_mem_cons.mpr ⟨s_putI (ci := 7) (k := 7) C0 dX7_play_50 inX7 tyX7_ok nmX7 rfl (by decide) rfl rfl tw2_76, List.forall_mem_cons.mpr ⟨s_iconst C0 dX7_play_53 rfl, List.forall_mem_cons.mpr ⟨s_istore_n C0 dX7_play_54 rfl (by decide), List.forall_mem_cons.mpr ⟨s_iload_n C0 dX7_play_55 rfl, List.forall_mem_cons.mpr ⟨s_aload_n C0 dX7_play_56 rfl, List.forall_mem_cons.mpr ⟨s_get (ci := 7) (k := 0) C0 dX7_play_57 inX7 rfl (by decide) tw2_65, List.forall_mem_cons.mpr ⟨s_get (ci := 1) (k := 0) C0 dX7_play_60 inX1 rfl (by decide) tw1_193, List.forall_mem_cons.mpr ⟨s_get (ci := 9) (k := 4) C0 dX7_play_63 inX9 rfl (by decide) tw1_93, List.forall_mem_cons.mpr ⟨s_icmp_ge C0 dX7_play_66 rfl, List.forall_mem_cons.mpr ⟨s_iconst C0 dX7_play_69 rfl, fun _ h => absurd h List.not_mem_nil⟩⟩⟩⟩⟩⟩⟩⟩⟩⟩⟩⟩⟩⟩⟩⟩⟩⟩⟩⟩⟩⟩⟩⟩⟩⟩⟩⟩⟩⟩⟩⟩⟩⟩⟩⟩⟩⟩⟩⟩
set_option maxRecDepth 10000 in
theorem hX7_play_1 (l : Launch) {p : Program} {e : Env} {s : State} {m : MethodId} {args : Array Value} {below : List Frame} {meth : Method} {c : Code} {D : va_G} {ad adV : Nat → Nat} {cA : Nat → ClassId} {K : Kt} (C0 : Cx p s m args meth c D ad adV cA cX7_play 4 RX7) (hr : meth.sig.returnType = none) : ∀ q ∈ lX7_play_1, Sd p l e (rmd 5) s m args below meth c (MQ below (QQ D ad cA K) args s 0 0 (AA ad)) D ad cA 4 q.1 (opOf K q.2) := List.forall_mem_cons.mpr ⟨s_istore_n C0 dX7_play_70 rfl (by decide), List.forall_mem_cons.mpr ⟨s_iload_n C0 dX7_play_71 rfl, List.forall_mem_cons.mpr ⟨s_aload_n C0 dX7_play_72 rfl, List.forall_mem_cons.mpr ⟨s_get (ci := 7) (k := 0) C0 dX7_play_73 inX7 rfl (by decide) tw2_65, List.forall_mem_cons.mpr ⟨s_get (ci := 1) (k := 1) C0 dX7_play_76 inX1 rfl (by decide) tw1_197, List.forall_mem_cons.mpr ⟨s_get (ci := 5) (k := 0) C0 dX7_play_79 inX5 rfl (by decide) tw1_167, List.forall_mem_cons.mpr ⟨s_iload_n C0 dX7_play_82 rfl, List.forall_mem_cons.mpr ⟨s_iald C0 dX7_play_83, List.forall_mem_cons.mpr ⟨s_icmp_ge C0 dX7_play_84 rfl, List.forall_mem_cons.mpr ⟨s_aload_n C0 dX7_play_87 rfl, List.forall_mem_cons.mpr ⟨s_iload_n C0 dX7_play_88 rfl, List.forall_mem_cons.mpr ⟨s_iload_n C0 dX7_play_89 rfl, List.forall_mem_cons.mpr ⟨s_callV (ci := 7) C0 (kX7_playOuting l) dX7_play_90 rfl qX7_playOuting tw5_15 tw5_17 twp_34 tw1_10 tw5_18 rfl (by decide) (by decide), List.forall_mem_cons.mpr ⟨s_iinc C0 dX7_play_93 rfl (by decide), List.forall_mem_cons.mpr ⟨s_goto C0 dX7_play_96 rfl, List.forall_mem_cons.mpr ⟨s_iinc C0 dX7_play_99 rfl (by decide), List.forall_mem_cons.mpr ⟨s_goto C0 dX7_play_102 rfl, List.forall_mem_cons.mpr ⟨s_vret C0 hr dX7_play_105, fun _ h => absurd h List.not_mem_nil⟩⟩⟩⟩⟩⟩⟩⟩⟩⟩⟩⟩⟩⟩⟩⟩⟩⟩
def fX7_play : Mf := mf 4 (fun K => tl K lX7_play)
theorem kX7_play (l : Launch) : Okm l yX7_play cX7_play 4 none 5 fX7_play := Okm_tl (own := RX7) (by decide +kernel) rfl (fun C0 hr => List.forall_mem_append.mpr ⟨hX7_play_0 l C0 hr, hX7_play_1 l C0 hr⟩)
theorem dX8_append_0 : decode cX8_append 0 = .ok (.bipush 24, 2) := by decide +kernel
theorem dX8_append_2 : decode cX8_append 2 = .ok (.istore_n 2, 1) := by decide +kernel
theorem dX8_append_3 : decode cX8_append 3 = .ok (.iload_n 2, 1) := by decide +kernel
theorem dX8_append_4 : decode cX8_append 4 = .ok (.ifCond .lt 42, 3) := by decide +kernel
theorem dX8_append_7 : decode cX8_append 7 = .ok (.aload_n 0, 1) := by decide +kernel
theorem dX8_append_8 : decode cX8_append 8 = .ok (.getfield 15, 3) := by decide +kernel
theorem dX8_append_11 : decode cX8_append 11 = .ok (.sipush 800, 3) := by decide +kernel
theorem dX8_append_14 : decode cX8_append 14 = .ok (.if_icmp .ge 32, 3) := by decide +kernel
theorem dX8_append_17 : decode cX8_append 17 = .ok (.aload_n 0, 1) := by decide +kernel
theorem dX8_append_18 : decode cX8_append 18 = .ok (.getfield 9, 3) := by decide +kernel
theorem dX8_append_21 : decode cX8_append 21 = .ok (.aload_n 0, 1) := by decide +kernel
theorem dX8_append_22 : decode cX8_append 22 = .ok (.getfield 15, 3) := by decide +kernel
theorem dX8_append_25 : decode cX8_append 25 = .ok (.iload_n 1, 1) := by decide +kernel
theorem dX8_append_26 : decode cX8_append 26 = .ok (.iload_n 2, 1) := by decide +kernel
theorem dX8_append_27 : decode cX8_append 27 = .ok (.iushr, 1) := by decide +kernel
theorem dX8_append_28 : decode cX8_append 28 = .ok (.i2b, 1) := by decide +kernel
theorem dX8_append_29 : decode cX8_append 29 = .ok (.bastore, 1) := by decide +kernel
theorem dX8_append_30 : decode cX8_append 30 = .ok (.aload_n 0, 1) := by decide +kernel
theorem dX8_append_31 : decode cX8_append 31 = .ok (.dup, 1) := by decide +kernel
theorem dX8_append_32 : decode cX8_append 32 = .ok (.getfield 15, 3) := by decide +kernel
theorem dX8_append_35 : decode cX8_append 35 = .ok (.iconst 1, 1) := by decide +kernel
theorem dX8_append_36 : decode cX8_append 36 = .ok (.iadd, 1) := by decide +kernel
theorem dX8_append_37 : decode cX8_append 37 = .ok (.putfield 15, 3) := by decide +kernel
theorem dX8_append_40 : decode cX8_append 40 = .ok (.iinc 2 (-8), 3) := by decide +kernel
theorem dX8_append_43 : decode cX8_append 43 = .ok (.goto (-40), 3) := by decide +kernel
theorem dX8_append_46 : decode cX8_append 46 = .ok (.return_, 1) := by decide +kernel
def lX8_append : List (Nat × (Op ⊕ Nat)) := [(0, .inl (o_pushI (nI 24) 2)), (2, .inl (o_istore 2 3)), (3, .inl (o_iload 2 4)), (4, .inl (o_if_lt 46 7)), (7, .inl (o_aload 0 8)), (8, .inl (o_get 8 1 11)), (11, .inl (o_pushI (nI 800) 14)), (14, .inl (o_icmp_ge 46 17)), (17, .inl (o_aload 0 18)), (18, .inl (o_get 8 0 21)), (21, .inl (o_aload 0 22)), (22, .inl (o_get 8 1 25)), (25, .inl (o_iload 1 26)), (26, .inl (o_iload 2 27)), (27, .inl (o_iushr 28)), (28, .inl (o_i2b 29)), (29, .inl (o_bast 30)), (30, .inl (o_aload 0 31)), (31, .inl (o_dup 32)), (32, .inl (o_get 8 1 35)), (35, .inl (o_pushI (nI 1) 36)), (36, .inl (o_iadd 37)), (37, .inl (o_putI 8 1 40)), (40, .inl (o_iinc 2 ((-8)) 43)), (43, .inl (o_goto 3)), (46, .inr 3)]
theorem qX8_append : yX8_append.cls = RX8 ∧ yX8_append.cls ≠ "java/lang/invoke/MethodHandle" ∧ yX8_append.cls ≠ "java/lang/invoke/VarHandle" ∧ (parseMethodDescriptor yX8_append.desc).map (fun d => d.parameters.length) = some 1 := by decide +kernel
set_option maxRecDepth 10000 in
theorem hX8_append_0 (l : Launch) {p : Program} {e : Env} {s : State} {m : MethodId} {args : Array Value} {below : List Frame} {meth : Method} {c : Code} {D : va_G} {ad adV : Nat → Nat} {cA : Nat → ClassId} {K : Kt} (C0 : Cx p s m args meth c D ad adV cA cX8_append 3 RX8) (hr : meth.sig.returnType = none) : ∀ q ∈ lX8_append, Sd p l e (rmd 0) s m args below meth c (MQ below (QQ D ad cA K) args s 0 0 (AA ad)) D ad cA 3 q.1 (opOf K q.2) := List.forall_mem_cons.mpr ⟨s_bipush C0 dX8_append_0 (by decide +kernel), List.forall_mem_cons.mpr ⟨s_istore_n C0 dX8_append_2 rfl (by decide), List.forall_mem_cons.mpr ⟨s_iload_n C0 dX8_append_3 rfl, List.forall_mem_cons.mpr ⟨s_if_lt C0 dX8_append_4 rfl, List.forall_mem_cons.mpr ⟨s_aload_n C0 dX8_append_7 rfl, List.forall_mem_cons.mpr ⟨s_get (ci := 8) (k := 1) C0 dX8_append_8 inX8 rfl (by decide) tw1_38, List.forall_mem_cons.mpr ⟨s_sipush C0 dX8_append_11 (by decide +kernel), List.forall_mem_cons.mpr ⟨s_icmp_ge C0 dX8_append_14 rfl, List.forall_mem_cons.mpr ⟨s_aload_n C0 dX8_append_17 rfl, List.forall_mem_cons.mpr ⟨s_get (ci := 8) (k := 0) C0 dX8_append_18 inX8 rfl (by decide) tw1_37, List.forall_mem_cons.mpr ⟨s_aload_n C0 dX8_append_21 rfl, List.forall_mem_cons.mpr ⟨s_get (ci := 8) (k := 1) C0 dX8_append_22 inX8 rfl (by decide) tw1_38, List.forall_mem_cons.mpr ⟨s_iload_n C0 dX8_append_25 rfl, List.forall_mem_cons.mpr ⟨s_iload_n C0 dX8_append_26 rfl, List.forall_mem_cons.mpr ⟨s_iushr C0 dX8_append_27, List.forall_mem_cons.mpr ⟨s_i2b C0 dX8_append_28, List.forall_mem_cons.mpr ⟨s_bast C0 dX8_append_29, List.forall_mem_cons.mpr ⟨s_aload_n C0 dX8_append_30 rfl, List.forall_mem_cons.mpr ⟨s_dup C0 dX8_append_31, List.forall_mem_cons.mpr ⟨s_get (ci := 8) (k := 1) C0 dX8_append_32 inX8 rfl (by decide) tw1_38, List.forall_mem_cons.mpr ⟨s_iconst C0 dX8_append_35 rfl, List.forall_mem_cons.mpr ⟨s_iadd C0 dX8_append_36, List.forall_mem_cons.mpr ⟨s_putI (ci := 8) (k := 1) C0 dX8_append_37 inX8 tyX8_ok nmX8 rfl (by decide) rfl rfl tw1_38, List.forall_mem_cons.mpr ⟨s_iinc C0 dX8_append_40 rfl (by decide), List.forall_mem_cons.mpr ⟨s_goto C0 dX8_append_43 rfl, List.forall_mem_cons.mpr ⟨s_vret C0 hr dX8_append_46, fun _ h => absurd h List.not_mem_nil⟩⟩⟩⟩⟩⟩⟩⟩⟩⟩⟩⟩⟩⟩⟩⟩⟩⟩⟩⟩⟩⟩⟩⟩⟩⟩
def fX8_append : Mf := mf 3 (fun K => tl K lX8_append)
theorem kX8_append (l : Launch) : Okm l yX8_append cX8_append 3 none 0 fX8_append := Okm_tl (own := RX8) (by decide +kernel) rfl (fun C0 hr => hX8_append_0 l C0 hr)
theorem dX8_onlyWord_0 : decode cX8_onlyWord 0 = .ok (.aload_n 0, 1) := by decide +kernel
theorem dX8_onlyWord_1 : decode cX8_onlyWord 1 = .ok (.iload_n 1, 1) := by decide +kernel
theorem dX8_onlyWord_2 : decode cX8_onlyWord 2 = .ok (.invokevirtual 69, 3) := by decide +kernel
theorem dX8_onlyWord_5 : decode cX8_onlyWord 5 = .ok (.aload_n 0, 1) := by decide +kernel
theorem dX8_onlyWord_6 : decode cX8_onlyWord 6 = .ok (.invokevirtual 73, 3) := by decide +kernel
theorem dX8_onlyWord_9 : decode cX8_onlyWord 9 = .ok (.aload_n 0, 1) := by decide +kernel
theorem dX8_onlyWord_10 : decode cX8_onlyWord 10 = .ok (.getfield 25, 3) := by decide +kernel
theorem dX8_onlyWord_13 : decode cX8_onlyWord 13 = .ok (.iconst 1, 1) := by decide +kernel
theorem dX8_onlyWord_14 : decode cX8_onlyWord 14 = .ok (.if_icmp .eq 5, 3) := by decide +kernel
theorem dX8_onlyWord_17 : decode cX8_onlyWord 17 = .ok (.lconst 0, 1) := by decide +kernel
theorem dX8_onlyWord_18 : decode cX8_onlyWord 18 = .ok (.lreturn, 1) := by decide +kernel
theorem dX8_onlyWord_19 : decode cX8_onlyWord 19 = .ok (.aload_n 0, 1) := by decide +kernel
theorem dX8_onlyWord_20 : decode cX8_onlyWord 20 = .ok (.getfield 34, 3) := by decide +kernel
theorem dX8_onlyWord_23 : decode cX8_onlyWord 23 = .ok (.lstore_n 2, 1) := by decide +kernel
theorem dX8_onlyWord_24 : decode cX8_onlyWord 24 = .ok (.aload_n 0, 1) := by decide +kernel
theorem dX8_onlyWord_25 : decode cX8_onlyWord 25 = .ok (.invokevirtual 73, 3) := by decide +kernel
theorem dX8_onlyWord_28 : decode cX8_onlyWord 28 = .ok (.aload_n 0, 1) := by decide +kernel
theorem dX8_onlyWord_29 : decode cX8_onlyWord 29 = .ok (.getfield 25, 3) := by decide +kernel
theorem dX8_onlyWord_32 : decode cX8_onlyWord 32 = .ok (.ifCond .ne 7, 3) := by decide +kernel
theorem dX8_onlyWord_35 : decode cX8_onlyWord 35 = .ok (.lload_n 2, 1) := by decide +kernel
theorem dX8_onlyWord_36 : decode cX8_onlyWord 36 = .ok (.goto 4, 3) := by decide +kernel
theorem dX8_onlyWord_39 : decode cX8_onlyWord 39 = .ok (.lconst 0, 1) := by decide +kernel
theorem dX8_onlyWord_40 : decode cX8_onlyWord 40 = .ok (.lreturn, 1) := by decide +kernel
def lX8_onlyWord : List (Nat × (Op ⊕ Nat)) := [(0, .inl (o_aload 0 1)), (1, .inl (o_iload 1 2)), (2, .inl (o_callV fX8_beginTokens 1 8 5)), (5, .inl (o_aload 0 6)), (6, .inl (o_callV fX8_nextToken 0 8 9)), (9, .inl (o_aload 0 10)), (10, .inl (o_get 8 4 13)), (13, .inl (o_pushI (nI 1) 14)), (14, .inl (o_icmp_eq 19 17)), (17, .inl (o_pushL (lN 0) 18)), (18, .inr 2), (19, .inl (o_aload 0 20)), (20, .inl (o_get 8 7 23)), (23, .inl (o_lstore 2 24)), (24, .inl (o_aload 0 25)), (25, .inl (o_callV fX8_nextToken 0 8 28)), (28, .inl (o_aload 0 29)), (29, .inl (o_get 8 4 32)), (32, .inl (o_if_ne 39 35)), (35, .inl (o_lload 2 36)), (36, .inl (o_goto 40)), (39, .inl (o_pushL (lN 0) 40)), (40, .inr 2)]
theorem qX8_onlyWord : yX8_onlyWord.cls = RX8 ∧ yX8_onlyWord.cls ≠ "java/lang/invoke/MethodHandle" ∧ yX8_onlyWord.cls ≠ "java/lang/invoke/VarHandle" ∧ (parseMethodDescriptor yX8_onlyWord.desc).map (fun d => d.parameters.length) = some 1 := by decide +kernel
set_option maxRecDepth 10000 in
theorem hX8_onlyWord_0 (l : Launch) {p : Program} {e : Env} {s : State} {m : MethodId} {args : Array Value} {below : List Frame} {meth : Method} {c : Code} {D : va_G} {ad adV : Nat → Nat} {cA : Nat → ClassId} {K : Kt} (C0 : Cx p s m args meth c D ad adV cA cX8_onlyWord 4 RX8) (hr : meth.sig.returnType = (some .long)) : ∀ q ∈ lX8_onlyWord, Sd p l e (rmd 3) s m args below meth c (MQ below (QQ D ad cA K) args s 0 0 (AA ad)) D ad cA 4 q.1 (opOf K q.2) := List.forall_mem_cons.mpr ⟨s_aload_n C0 dX8_onlyWord_0 rfl, List.forall_mem_cons.mpr ⟨s_iload_n C0 dX8_onlyWord_1 rfl, List.forall_mem_cons.mpr ⟨s_callV (ci := 8) C0 (kX8_beginTokens l) dX8_onlyWord_2 rfl qX8_beginTokens tw5_177 tw2_191 tw2_192 tw1_2 tw2_193 rfl (by decide) (by decide), List.forall_mem_cons.mpr ⟨s_aload_n C0 dX8_onlyWord_5 rfl, List.forall_mem_cons.mpr ⟨s_callV (ci := 8) C0 (kX8_nextToken l) dX8_onlyWord_6 rfl qX8_nextToken tw5_178 tw2_205 tw2_206 tw1_2 tw2_207 rfl (by decide) (by decide), List.forall_mem_cons.mpr ⟨s_aload_n C0 dX8_onlyWord_9 rfl, List.forall_mem_cons.mpr ⟨s_get (ci := 8) (k := 4) C0 dX8_onlyWord_10 inX8 rfl (by decide) tw1_42, List.forall_mem_cons.mpr ⟨s_iconst C0 dX8_onlyWord_13 rfl, List.forall_mem_cons.mpr ⟨s_icmp_eq C0 dX8_onlyWord_14 rfl, List.forall_mem_cons.mpr ⟨s_lconst C0 dX8_onlyWord_17 rfl, List.forall_mem_cons.mpr ⟨s_lret C0 hr dX8_onlyWord_18, List.forall_mem_cons.mpr ⟨s_aload_n C0 dX8_onlyWord_19 rfl, List.forall_mem_cons.mpr ⟨s_get (ci := 8) (k := 7) C0 dX8_onlyWord_20 inX8 rfl (by decide) tw1_48, List.forall_mem_cons.mpr ⟨s_lstore_n C0 dX8_onlyWord_23 rfl (by decide), List.forall_mem_cons.mpr ⟨s_aload_n C0 dX8_onlyWord_24 rfl, List.forall_mem_cons.mpr ⟨s_callV (ci := 8) C0 (kX8_nextToken l) dX8_onlyWord_25 rfl qX8_nextToken tw5_178 tw2_205 tw2_206 tw1_2 tw2_207 rfl (by decide) (by decide), List.forall_mem_cons.mpr ⟨s_aload_n C0 dX8_onlyWord_28 rfl, List.forall_mem_cons.mpr ⟨s_get (ci := 8) (k := 4) C0 dX8_onlyWord_29 inX8 rfl (by decide) tw1_42, List.forall_mem_cons.mpr ⟨s_if_ne C0 dX8_onlyWord_32 rfl, List.forall_mem_cons.mpr ⟨s_lload_n C0 dX8_onlyWord_35 rfl, List.forall_mem_cons.mpr ⟨s_goto C0 dX8_onlyWord_36 rfl, List.forall_mem_cons.mpr ⟨s_lconst C0 dX8_onlyWord_39 rfl, List.forall_mem_cons.mpr ⟨s_lret C0 hr dX8_onlyWord_40, fun _ h => absurd h List.not_mem_nil⟩⟩⟩⟩⟩⟩⟩⟩⟩⟩⟩⟩⟩⟩⟩⟩⟩⟩⟩⟩⟩⟩⟩
def fX8_onlyWord : Mf := mf 4 (fun K => tl K lX8_onlyWord)
theorem kX8_onlyWord (l : Launch) : Okm l yX8_onlyWord cX8_onlyWord 4 (some .long) 3 fX8_onlyWord := Okm_tl (own := RX8) (by decide +kernel) rfl (fun C0 hr => hX8_onlyWord_0 l C0 hr)
theorem dX9_copyFrom_0 : decode cX9_copyFrom 0 = .ok (.aload_n 0, 1) := by decide +kernel
theorem dX9_copyFrom_1 : decode cX9_copyFrom 1 = .ok (.aload_n 1, 1) := by decide +kernel
theorem dX9_copyFrom_2 : decode cX9_copyFrom 2 = .ok (.getfield 9, 3) := by decide +kernel
theorem dX9_copyFrom_5 : decode cX9_copyFrom 5 = .ok (.putfield 9, 3) := by decide +kernel
theorem dX9_copyFrom_8 : decode cX9_copyFrom 8 = .ok (.aload_n 0, 1) := by decide +kernel
theorem dX9_copyFrom_9 : decode cX9_copyFrom 9 = .ok (.aload_n 1, 1) := by decide +kernel
theorem dX9_copyFrom_10 : decode cX9_copyFrom 10 = .ok (.getfield 26, 3) := by decide +kernel
theorem dX9_copyFrom_13 : decode cX9_copyFrom 13 = .ok (.putfield 26, 3) := by decide +kernel
theorem dX9_copyFrom_16 : decode cX9_copyFrom 16 = .ok (.aload_n 0, 1) := by decide +kernel
theorem dX9_copyFrom_17 : decode cX9_copyFrom 17 = .ok (.aload_n 1, 1) := by decide +kernel
theorem dX9_copyFrom_18 : decode cX9_copyFrom 18 = .ok (.getfield 35, 3) := by decide +kernel
theorem dX9_copyFrom_21 : decode cX9_copyFrom 21 = .ok (.putfield 35, 3) := by decide +kernel
theorem dX9_copyFrom_24 : decode cX9_copyFrom 24 = .ok (.aload_n 1, 1) := by decide +kernel
theorem dX9_copyFrom_25 : decode cX9_copyFrom 25 = .ok (.getfield 15, 3) := by decide +kernel
theorem dX9_copyFrom_28 : decode cX9_copyFrom 28 = .ok (.iconst 0, 1) := by decide +kernel
theorem dX9_copyFrom_29 : decode cX9_copyFrom 29 = .ok (.aload_n 0, 1) := by decide +kernel
theorem dX9_copyFrom_30 : decode cX9_copyFrom 30 = .ok (.getfield 15, 3) := by decide +kernel
theorem dX9_copyFrom_33 : decode cX9_copyFrom 33 = .ok (.iconst 0, 1) := by decide +kernel
theorem dX9_copyFrom_34 : decode cX9_copyFrom 34 = .ok (.bipush 8, 2) := by decide +kernel
theorem dX9_copyFrom_36 : decode cX9_copyFrom 36 = .ok (.invokestatic 47, 3) := by decide +kernel
theorem dX9_copyFrom_39 : decode cX9_copyFrom 39 = .ok (.aload_n 1, 1) := by decide +kernel
theorem dX9_copyFrom_40 : decode cX9_copyFrom 40 = .ok (.getfield 19, 3) := by decide +kernel
theorem dX9_copyFrom_43 : decode cX9_copyFrom 43 = .ok (.iconst 0, 1) := by decide +kernel
theorem dX9_copyFrom_44 : decode cX9_copyFrom 44 = .ok (.aload_n 0, 1) := by decide +kernel
theorem dX9_copyFrom_45 : decode cX9_copyFrom 45 = .ok (.getfield 19, 3) := by decide +kernel
theorem dX9_copyFrom_48 : decode cX9_copyFrom 48 = .ok (.iconst 0, 1) := by decide +kernel
theorem dX9_copyFrom_49 : decode cX9_copyFrom 49 = .ok (.bipush 8, 2) := by decide +kernel
theorem dX9_copyFrom_51 : decode cX9_copyFrom 51 = .ok (.invokestatic 47, 3) := by decide +kernel
theorem dX9_copyFrom_54 : decode cX9_copyFrom 54 = .ok (.aload_n 1, 1) := by decide +kernel
theorem dX9_copyFrom_55 : decode cX9_copyFrom 55 = .ok (.getfield 23, 3) := by decide +kernel
theorem dX9_copyFrom_58 : decode cX9_copyFrom 58 = .ok (.iconst 0, 1) := by decide +kernel
theorem dX9_copyFrom_59 : decode cX9_copyFrom 59 = .ok (.aload_n 0, 1) := by decide +kernel
theorem dX9_copyFrom_60 : decode cX9_copyFrom 60 = .ok (.getfield 23, 3) := by decide +kernel
theorem dX9_copyFrom_63 : decode cX9_copyFrom 63 = .ok (.iconst 0, 1) := by decide +kernel
theorem dX9_copyFrom_64 : decode cX9_copyFrom 64 = .ok (.bipush 32, 2) := by decide +kernel
theorem dX9_copyFrom_66 : decode cX9_copyFrom 66 = .ok (.invokestatic 47, 3) := by decide +kernel
theorem dX9_copyFrom_69 : decode cX9_copyFrom 69 = .ok (.aload_n 1, 1) := by decide +kernel
theorem dX9_copyFrom_70 : decode cX9_copyFrom 70 = .ok (.getfield 29, 3) := by decide +kernel
theorem dX9_copyFrom_73 : decode cX9_copyFrom 73 = .ok (.iconst 0, 1) := by decide +kernel
theorem dX9_copyFrom_74 : decode cX9_copyFrom 74 = .ok (.aload_n 0, 1) := by decide +kernel
theorem dX9_copyFrom_75 : decode cX9_copyFrom 75 = .ok (.getfield 29, 3) := by decide +kernel
theorem dX9_copyFrom_78 : decode cX9_copyFrom 78 = .ok (.iconst 0, 1) := by decide +kernel
theorem dX9_copyFrom_79 : decode cX9_copyFrom 79 = .ok (.bipush 60, 2) := by decide +kernel
theorem dX9_copyFrom_81 : decode cX9_copyFrom 81 = .ok (.invokestatic 47, 3) := by decide +kernel
theorem dX9_copyFrom_84 : decode cX9_copyFrom 84 = .ok (.aload_n 1, 1) := by decide +kernel
theorem dX9_copyFrom_85 : decode cX9_copyFrom 85 = .ok (.getfield 32, 3) := by decide +kernel
theorem dX9_copyFrom_88 : decode cX9_copyFrom 88 = .ok (.iconst 0, 1) := by decide +kernel
theorem dX9_copyFrom_89 : decode cX9_copyFrom 89 = .ok (.aload_n 0, 1) := by decide +kernel
theorem dX9_copyFrom_90 : decode cX9_copyFrom 90 = .ok (.getfield 32, 3) := by decide +kernel
theorem dX9_copyFrom_93 : decode cX9_copyFrom 93 = .ok (.iconst 0, 1) := by decide +kernel
theorem dX9_copyFrom_94 : decode cX9_copyFrom 94 = .ok (.iconst 3, 1) := by decide +kernel
theorem dX9_copyFrom_95 : decode cX9_copyFrom 95 = .ok (.invokestatic 47, 3) := by decide +kernel
theorem dX9_copyFrom_98 : decode cX9_copyFrom 98 = .ok (.aload_n 1, 1) := by decide +kernel
theorem dX9_copyFrom_99 : decode cX9_copyFrom 99 = .ok (.getfield 38, 3) := by decide +kernel
theorem dX9_copyFrom_102 : decode cX9_copyFrom 102 = .ok (.iconst 0, 1) := by decide +kernel
theorem dX9_copyFrom_103 : decode cX9_copyFrom 103 = .ok (.aload_n 0, 1) := by decide +kernel
theorem dX9_copyFrom_104 : decode cX9_copyFrom 104 = .ok (.getfield 38, 3) := by decide +kernel
theorem dX9_copyFrom_107 : decode cX9_copyFrom 107 = .ok (.iconst 0, 1) := by decide +kernel
theorem dX9_copyFrom_108 : decode cX9_copyFrom 108 = .ok (.iconst 5, 1) := by decide +kernel
theorem dX9_copyFrom_109 : decode cX9_copyFrom 109 = .ok (.invokestatic 47, 3) := by decide +kernel
theorem dX9_copyFrom_112 : decode cX9_copyFrom 112 = .ok (.aload_n 1, 1) := by decide +kernel
theorem dX9_copyFrom_113 : decode cX9_copyFrom 113 = .ok (.getfield 41, 3) := by decide +kernel
theorem dX9_copyFrom_116 : decode cX9_copyFrom 116 = .ok (.iconst 0, 1) := by decide +kernel
theorem dX9_copyFrom_117 : decode cX9_copyFrom 117 = .ok (.aload_n 0, 1) := by decide +kernel
theorem dX9_copyFrom_118 : decode cX9_copyFrom 118 = .ok (.getfield 41, 3) := by decide +kernel
theorem dX9_copyFrom_121 : decode cX9_copyFrom 121 = .ok (.iconst 0, 1) := by decide +kernel
theorem dX9_copyFrom_122 : decode cX9_copyFrom 122 = .ok (.iconst 5, 1) := by decide +kernel
theorem dX9_copyFrom_123 : decode cX9_copyFrom 123 = .ok (.invokestatic 47, 3) := by decide +kernel
theorem dX9_copyFrom_126 : decode cX9_copyFrom 126 = .ok (.return_, 1) := by decide +kernel
def lX9_copyFrom_0 : List (Nat × (Op ⊕ Nat)) := [(0, .inl (o_aload 0 1)), (1, .inl (o_aload 1 2)), (2, .inl (o_get 9 0 5)), (5, .inl (o_putI 9 0 8)), (8, .inl (o_aload 0 9)), (9, .inl (o_aload 1 10)), (10, .inl (o_get 9 4 13)), (13, .inl (o_putI 9 4 16)), (16, .inl (o_aload 0 17)), (17, .inl (o_aload 1 18)), (18, .inl (o_get 9 7 21)), (21, .inl (o_putI 9 7 24)), (24, .inl (o_aload 1 25)), (25, .inl (o_get 9 1 28)), (28, .inl (o_pushI (nI 0) 29)), (29, .inl (o_aload 0 30)), (30, .inl (o_get 9 1 33)), (33, .inl (o_pushI (nI 0) 34)), (34, .inl (o_pushI (nI 8) 36)), (36, .inl (o_copyL 39)), (39, .inl (o_aload 1 40)), (40, .inl (o_get 9 2 43)), (43, .inl (o_pushI (nI 0) 44)), (44, .inl (o_aload 0 45)), (45, .inl (o_get 9 2 48)), (48, .inl (o_pushI (nI 0) 49)), (49, .inl (o_pushI (nI 8) 51)), (51, .inl (o_copyI 54)), (54, .inl (o_aload 1 55)), (55, .inl (o_get 9 3 58)), (58, .inl (o_pushI (nI 0) 59)), (59, .inl (o_aload 0 60)), (60, .inl (o_get 9 3 63)), (63, .inl (o_pushI (nI 0) 64)), (64, .inl (o_pushI (nI 32) 66)), (66, .inl (o_copyI 69)), (69, .inl (o_aload 1 70)), (70, .inl (o_get 9 5 73)), (73, .inl (o_pushI (nI 0) 74)), (74, .inl (o_aload 0 75))]
def lX9_copyFrom_1 : List (Nat × (Op ⊕ Nat)) := [(75, .inl (o_get 9 5 78)), (78, .inl (o_pushI (nI 0) 79)), (79, .inl (o_pushI (nI 60) 81)), (81, .inl (o_copyI 84)), (84, .inl (o_aload 1 85)), (85, .inl (o_get 9 6 88)), (88, .inl (o_pushI (nI 0) 89)), (89, .inl (o_aload 0 90)), (90, .inl (o_get 9 6 93)), (93, .inl (o_pushI (nI 0) 94)), (94, .inl (o_pushI (nI 3) 95)), (95, .inl (o_copyI 98)), (98, .inl (o_aload 1 99)), (99, .inl (o_get 9 8 102)), (102, .inl (o_pushI (nI 0) 103)), (103, .inl (o_aload 0 104)), (104, .inl (o_get 9 8 107)), (107, .inl (o_pushI (nI 0) 108)), (108, .inl (o_pushI (nI 5) 109)), (109, .inl (o_copyI 112)), (112, .inl (o_aload 1 113)), (113, .inl (o_get 9 9 116)), (116, .inl (o_pushI (nI 0) 117)), (117, .inl (o_aload 0 118)), (118, .inl (o_get 9 9 121)), (121, .inl (o_pushI (nI 0) 122)), (122, .inl (o_pushI (nI 5) 123)), (123, .inl (o_copyI 126)), (126, .inr 3)]
def lX9_copyFrom : List (Nat × (Op ⊕ Nat)) := lX9_copyFrom_0 ++ (lX9_copyFrom_1)
theorem qX9_copyFrom : yX9_copyFrom.cls = RX9 ∧ yX9_copyFrom.cls ≠ "java/lang/invoke/MethodHandle" ∧ yX9_copyFrom.cls ≠ "java/lang/invoke/VarHandle" ∧ (parseMethodDescriptor yX9_copyFrom.desc).map (fun d => d.parameters.length) = some 1 := by decide +kernel
set_option maxRecDepth 10000 in
theorem hX9_copyFrom_0 (l : Launch) {p : Program} {e : Env} {s : State} {m : MethodId} {args : Array Value} {below : List Frame} {meth : Method} {c : Code} {D : va_G} {ad adV : Nat → Nat} {cA : Nat → ClassId} {K : Kt} (C0 : Cx p s m args meth c D ad adV cA cX9_copyFrom 2 RX9) (hr : meth.sig.returnType = none) : ∀ q ∈ lX9_copyFrom_0, Sd p l e (rmd 1) s m args below meth c (MQ below (QQ D ad cA K) args s 0 0 (AA ad)) D ad cA 2 q.1 (opOf K q.2) := List.forall_mem_cons.mpr ⟨s_aload_n C0 dX9_copyFrom_0 rfl, List.forall_mem_cons.mpr ⟨s_aload_n C0 dX9_copyFrom_1 rfl, List.forall_mem_cons.mpr ⟨s_get (ci := 9) (k := 0) C0 dX9_copyFrom_2 inX9 rfl (by decide) tw1_80, List.forall_mem_cons.mpr ⟨s_putI (ci := 9) (k := 0) C0 dX9_copyFrom_5 inX9 tyX9_ok nmX9 rfl (by decide) rfl rfl tw1_80, List.forall_mem_cons.mpr ⟨s_aload_n C0 dX9_copyFrom_8 rfl, List.forall_mem_cons.mpr ⟨s_aload_n C0 dX9_copyFrom_9 rfl, List.forall_mem_cons.mpr ⟨s_get (ci := 9) (k := 4) C0 dX9_copyFrom_10 inX9 rfl (by decide) tw1_92, List.forall_mem_cons.mpr ⟨s_putI (ci := 9) (k := 4) C0 dX9_copyFrom_13 inX9 tyX9_ok nmX9 rfl (by decide) rfl rfl tw1_92, List.forall_mem_cons.mpr ⟨s_aload_n C0 dX9_copyFrom_16 rfl, List.forall_mem_cons.mpr ⟨s_aload_n C0 dX9_copyFrom_17 rfl, List.forall_mem_cons.mpr ⟨s_get (ci := 9) (k := 7) C0 dX9_copyFrom_18 inX9 rfl (by decide) tw1_107, List.forall_mem_cons.mpr ⟨s_putI (ci := 9) (k := 7) C0 dX9_copyFrom_21 inX9 tyX9_ok nmX9 rfl (by decide) rfl rfl tw1_107, List.forall_mem_cons.mpr ⟨s_aload_n C0 dX9_copyFrom_24 rfl, List.forall_mem_cons.mpr ⟨s_get (ci := 9) (k := 1) C0 dX9_copyFrom_25 inX9 rfl (by decide) tw1_85, List.forall_mem_cons.mpr ⟨s_iconst C0 dX9_copyFrom_28 rfl, List.forall_mem_cons.mpr ⟨s_aload_n C0 dX9_copyFrom_29 rfl, List.forall_mem_cons.mpr ⟨s_get (ci := 9) (k := 1) C0 dX9_copyFrom_30 inX9 rfl (by decide) tw1_85, List.forall_mem_cons.mpr ⟨s_iconst C0 dX9_copyFrom_33 rfl, List.forall_mem_cons.mpr ⟨s_bipush C0 dX9_copyFrom_34 (by decide +kernel), List.forall_mem_cons.mpr ⟨s_copyL C0 dX9_copyFrom_36 tw2_187 tw2_189 tw2_188 tw1_13 rfl (by decide), List.forall_mem_cons.mpr ⟨s_aload_n C0 dX9_copyFrom_39 rfl, List.forall_mem_cons.mpr ⟨s_get (ci := 9) (k := 2) C0 dX9_copyFrom_40 inX9 rfl (by decide) tw1_87, List.forall_mem_cons.mpr ⟨s_iconst C0 dX9_copyFrom_43 rfl, List.forall_mem_cons.mpr ⟨s_aload_n C0 dX9_copyFrom_44 rfl, List.forall_mem_cons.mpr ⟨s_get (ci := 9) (k := 2) C0 dX9_copyFrom_45 inX9 rfl (by decide) tw1_87, List.forall_mem_cons.mpr ⟨s_iconst C0 dX9_copyFrom_48 rfl, List.forall_mem_cons.mpr ⟨s_bipush C0 dX9_copyFrom_49 (by decide +kernel), List.forall_mem_cons.mpr ⟨s_copyI C0 dX9_copyFrom_51 tw2_187 tw2_189 tw2_188 tw1_13 rfl (by decide), List.forall_mem_cons.mpr ⟨s_aload_n C0 dX9_copyFrom_54 rfl, List.forall_mem_cons.mpr ⟨s_get (ci := 9) (k := 3) C0 dX9_copyFrom_55 inX9 rfl (by decide) tw1_91, List.forall_mem_cons.mpr ⟨s_iconst C0 dX9_copyFrom_58 rfl, List.forall_mem_cons.mpr ⟨s_aload_n C0 dX9_copyFrom_59 rfl, List.forall_mem_cons.mpr ⟨s_get (ci := 9) (k := 3) C0 dX9_copyFrom_60 inX9 rfl (by decide) tw1_91, List.forall_mem_cons.mpr ⟨s_iconst C0 dX9_copyFrom_63 rfl, List.forall_mem_cons.mpr ⟨s_bipush C0 dX9_copyFrom_64 (by decide +kernel), List.forall_mem_cons.mpr ⟨s_copyI C0 dX9_copyFrom_66 tw2_187 tw2_189 tw2_188 tw1_13 rfl (by decide), List.forall_mem_cons.mpr ⟨s_aload_n C0 dX9_copyFrom_69 rfl, List.forall_mem_cons.mpr ⟨s_get (ci := 9) (k := 5) C0 dX9_copyFrom_70 inX9 rfl (by decide) tw1_99, List.forall_mem_cons.mpr ⟨s_iconst C0 dX9_copyFrom_73 rfl, List.forall_mem_cons.mpr ⟨s_aload_n C0 dX9_copyFrom_74 rfl, fun _ h => absurd h List.not_mem_nil⟩⟩⟩⟩⟩⟩⟩⟩⟩⟩⟩⟩⟩⟩⟩⟩⟩⟩⟩⟩⟩⟩⟩⟩⟩⟩⟩⟩⟩⟩⟩⟩⟩⟩⟩⟩⟩⟩⟩⟩
set_option maxRecDepth 10000 in
theorem hX9_copyFrom_1 (l : Launch) {p : Program} {e : Env} {s : State} {m : MethodId} {args : Array Value} {below : List Frame} {meth : Method} {c : Code} {D : va_G} {ad adV : Nat → Nat} {cA : Nat → ClassId} {K : Kt} (C0 : Cx p s m args meth c D ad adV cA cX9_copyFrom 2 RX9) (hr : meth.sig.returnType = none) : ∀ q ∈ lX9_copyFrom_1, Sd p l e (rmd 1) s m args below meth c (MQ below (QQ D ad cA K) args s 0 0 (AA ad)) D ad cA 2 q.1 (opOf K q.2) := List.forall_mem_cons.mpr ⟨s_get (ci := 9) (k := 5) C0 dX9_copyFrom_75 inX9 rfl (by decide) tw1_99, List.forall_mem_cons.mpr ⟨s_iconst C0 dX9_copyFrom_78 rfl, List.forall_mem_cons.mpr ⟨s_bipush C0 dX9_copyFrom_79 (by decide +kernel), List.forall_mem_cons.mpr ⟨s_copyI C0 dX9_copyFrom_81 tw2_187 tw2_189 tw2_188 tw1_13 rfl (by decide), List.forall_mem_cons.mpr ⟨s_aload_n C0 dX9_copyFrom_84 rfl, List.forall_mem_cons.mpr ⟨s_get (ci := 9) (k := 6) C0 dX9_copyFrom_85 inX9 rfl (by decide) tw1_101, List.forall_mem_cons.mpr ⟨s_iconst C0 dX9_copyFrom_88 rfl, List.forall_mem_cons.mpr ⟨s_aload_n C0 dX9_copyFrom_89 rfl, List.forall_mem_cons.mpr ⟨s_get (ci := 9) (k := 6) C0 dX9_copyFrom_90 inX9 rfl (by decide) tw1_101, List.forall_mem_cons.mpr ⟨s_iconst C0 dX9_copyFrom_93 rfl, List.forall_mem_cons.mpr ⟨s_iconst C0 dX9_copyFrom_94 rfl, List.forall_mem_cons.mpr ⟨s_copyI C0 dX9_copyFrom_95 tw2_187 tw2_189 tw2_188 tw1_13 rfl (by decide), List.forall_mem_cons.mpr ⟨s_aload_n C0 dX9_copyFrom_98 rfl, List.forall_mem_cons.mpr ⟨s_get (ci := 9) (k := 8) C0 dX9_copyFrom_99 inX9 rfl (by decide) tw1_110, List.forall_mem_cons.mpr ⟨s_iconst C0 dX9_copyFrom_102 rfl, List.forall_mem_cons.mpr ⟨s_aload_n C0 dX9_copyFrom_103 rfl, List.forall_mem_cons.mpr ⟨s_get (ci := 9) (k := 8) C0 dX9_copyFrom_104 inX9 rfl (by decide) tw1_110, List.forall_mem_cons.mpr ⟨s_iconst C0 dX9_copyFrom_107 rfl, List.forall_mem_cons.mpr ⟨s_iconst C0 dX9_copyFrom_108 rfl, List.forall_mem_cons.mpr ⟨s_copyI C0 dX9_copyFrom_109 tw2_187 tw2_189 tw2_188 tw1_13 rfl (by decide), List.forall_mem_cons.mpr ⟨s_aload_n C0 dX9_copyFrom_112 rfl, List.forall_mem_cons.mpr ⟨s_get (ci := 9) (k := 9) C0 dX9_copyFrom_113 inX9 rfl (by decide) tw1_112, List.forall_mem_cons.mpr ⟨s_iconst C0 dX9_copyFrom_116 rfl, List.forall_mem_cons.mpr ⟨s_aload_n C0 dX9_copyFrom_117 rfl, List.forall_mem_cons.mpr ⟨s_get (ci := 9) (k := 9) C0 dX9_copyFrom_118 inX9 rfl (by decide) tw1_112, List.forall_mem_cons.mpr ⟨s_iconst C0 dX9_copyFrom_121 rfl, List.forall_mem_cons.mpr ⟨s_iconst C0 dX9_copyFrom_122 rfl, List.forall_mem_cons.mpr ⟨s_copyI C0 dX9_copyFrom_123 tw2_187 tw2_189 tw2_188 tw1_13 rfl (by decide), List.forall_mem_cons.mpr ⟨s_vret C0 hr dX9_copyFrom_126, fun _ h => absurd h List.not_mem_nil⟩⟩⟩⟩⟩⟩⟩⟩⟩⟩⟩⟩⟩⟩⟩⟩⟩⟩⟩⟩⟩⟩⟩⟩⟩⟩⟩⟩⟩
def fX9_copyFrom : Mf := mf 2 (fun K => tl K lX9_copyFrom)
theorem kX9_copyFrom (l : Launch) : Okm l yX9_copyFrom cX9_copyFrom 2 none 1 fX9_copyFrom := Okm_tl (own := RX9) (by decide +kernel) rfl (fun C0 hr => List.forall_mem_append.mpr ⟨hX9_copyFrom_0 l C0 hr, hX9_copyFrom_1 l C0 hr⟩)
