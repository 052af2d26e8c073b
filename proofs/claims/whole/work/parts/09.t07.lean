theorem dX11_mostUpTo_0 : decode cX11_mostUpTo 0 = .ok (.aload_n 0, 1) := by decide +kernel
theorem dX11_mostUpTo_1 : decode cX11_mostUpTo 1 = .ok (.iload_n 1, 1) := by decide +kernel
theorem dX11_mostUpTo_2 : decode cX11_mostUpTo 2 = .ok (.iload_n 2, 1) := by decide +kernel
theorem dX11_mostUpTo_3 : decode cX11_mostUpTo 3 = .ok (.iconst 1, 1) := by decide +kernel
theorem dX11_mostUpTo_4 : decode cX11_mostUpTo 4 = .ok (.invokevirtual 232, 3) := by decide +kernel
theorem dX11_mostUpTo_7 : decode cX11_mostUpTo 7 = .ok (.iload_n 3, 1) := by decide +kernel
theorem dX11_mostUpTo_8 : decode cX11_mostUpTo 8 = .ok (.aload_n 0, 1) := by decide +kernel
theorem dX11_mostUpTo_9 : decode cX11_mostUpTo 9 = .ok (.getfield 17, 3) := by decide +kernel
theorem dX11_mostUpTo_12 : decode cX11_mostUpTo 12 = .ok (.bipush 22, 2) := by decide +kernel
theorem dX11_mostUpTo_14 : decode cX11_mostUpTo 14 = .ok (.iload_n 1, 1) := by decide +kernel
theorem dX11_mostUpTo_15 : decode cX11_mostUpTo 15 = .ok (.iadd, 1) := by decide +kernel
theorem dX11_mostUpTo_16 : decode cX11_mostUpTo 16 = .ok (.iaload, 1) := by decide +kernel
theorem dX11_mostUpTo_17 : decode cX11_mostUpTo 17 = .ok (.invokestatic 236, 3) := by decide +kernel
theorem dX11_mostUpTo_20 : decode cX11_mostUpTo 20 = .ok (.istore 4, 2) := by decide +kernel
theorem dX11_mostUpTo_22 : decode cX11_mostUpTo 22 = .ok (.iload 4, 2) := by decide +kernel
theorem dX11_mostUpTo_24 : decode cX11_mostUpTo 24 = .ok (.ifCond .le 28, 3) := by decide +kernel
theorem dX11_mostUpTo_27 : decode cX11_mostUpTo 27 = .ok (.aload_n 0, 1) := by decide +kernel
theorem dX11_mostUpTo_28 : decode cX11_mostUpTo 28 = .ok (.iload_n 1, 1) := by decide +kernel
theorem dX11_mostUpTo_29 : decode cX11_mostUpTo 29 = .ok (.aload_n 0, 1) := by decide +kernel
theorem dX11_mostUpTo_30 : decode cX11_mostUpTo 30 = .ok (.getfield 17, 3) := by decide +kernel
theorem dX11_mostUpTo_33 : decode cX11_mostUpTo 33 = .ok (.bipush 46, 2) := by decide +kernel
theorem dX11_mostUpTo_35 : decode cX11_mostUpTo 35 = .ok (.iload_n 2, 1) := by decide +kernel
theorem dX11_mostUpTo_36 : decode cX11_mostUpTo 36 = .ok (.iadd, 1) := by decide +kernel
theorem dX11_mostUpTo_37 : decode cX11_mostUpTo 37 = .ok (.iaload, 1) := by decide +kernel
theorem dX11_mostUpTo_38 : decode cX11_mostUpTo 38 = .ok (.iload 4, 2) := by decide +kernel
theorem dX11_mostUpTo_40 : decode cX11_mostUpTo 40 = .ok (.invokevirtual 239, 3) := by decide +kernel
theorem dX11_mostUpTo_43 : decode cX11_mostUpTo 43 = .ok (.ifCond .ne 9, 3) := by decide +kernel
theorem dX11_mostUpTo_46 : decode cX11_mostUpTo 46 = .ok (.iinc 4 (-1), 3) := by decide +kernel
theorem dX11_mostUpTo_49 : decode cX11_mostUpTo 49 = .ok (.goto (-27), 3) := by decide +kernel
theorem dX11_mostUpTo_52 : decode cX11_mostUpTo 52 = .ok (.iload 4, 2) := by decide +kernel
theorem dX11_mostUpTo_54 : decode cX11_mostUpTo 54 = .ok (.ifCond .ge 7, 3) := by decide +kernel
theorem dX11_mostUpTo_57 : decode cX11_mostUpTo 57 = .ok (.iconst 0, 1) := by decide +kernel
theorem dX11_mostUpTo_58 : decode cX11_mostUpTo 58 = .ok (.goto 5, 3) := by decide +kernel
theorem dX11_mostUpTo_61 : decode cX11_mostUpTo 61 = .ok (.iload 4, 2) := by decide +kernel
theorem dX11_mostUpTo_63 : decode cX11_mostUpTo 63 = .ok (.ireturn, 1) := by decide +kernel
def lX11_mostUpTo : List (Nat × (Op ⊕ Nat)) := [(0, .inl (o_aload 0 1)), (1, .inl (o_iload 1 2)), (2, .inl (o_iload 2 3)), (3, .inl (o_pushI (nI 1) 4)), (4, .inl (o_callV fX11_laysDays 3 11 7)), (7, .inl (o_iload 3 8)), (8, .inl (o_aload 0 9)), (9, .inl (o_get 11 7 12)), (12, .inl (o_pushI (nI 22) 14)), (14, .inl (o_iload 1 15)), (15, .inl (o_iadd 16)), (16, .inl (o_iald 17)), (17, .inl (o_callS fX11_lesser 2 20)), (20, .inl (o_istore 4 22)), (22, .inl (o_iload 4 24)), (24, .inl (o_if_le 52 27)), (27, .inl (o_aload 0 28)), (28, .inl (o_iload 1 29)), (29, .inl (o_aload 0 30)), (30, .inl (o_get 11 7 33)), (33, .inl (o_pushI (nI 46) 35)), (35, .inl (o_iload 2 36)), (36, .inl (o_iadd 37)), (37, .inl (o_iald 38)), (38, .inl (o_iload 4 40)), (40, .inl (o_callV fX11_isAllowed 3 11 43)), (43, .inl (o_if_ne 52 46)), (46, .inl (o_iinc 4 ((-1)) 49)), (49, .inl (o_goto 22)), (52, .inl (o_iload 4 54)), (54, .inl (o_if_ge 61 57)), (57, .inl (o_pushI (nI 0) 58)), (58, .inl (o_goto 63)), (61, .inl (o_iload 4 63)), (63, .inr 0)]
theorem qX11_mostUpTo : yX11_mostUpTo.cls = RX11 ∧ yX11_mostUpTo.cls ≠ "java/lang/invoke/MethodHandle" ∧ yX11_mostUpTo.cls ≠ "java/lang/invoke/VarHandle" ∧ (parseMethodDescriptor yX11_mostUpTo.desc).map (fun d => d.parameters.length) = some 3 := by decide +kernel
set_option maxRecDepth 10000 in
theorem hX11_mostUpTo_0 (l : Launch) {p : Program} {e : Env} {s : State} {m : MethodId} {args : Array Value} {below : List Frame} {meth : Method} {c : Code} {D : va_G} {ad adV : Nat → Nat} {cA : Nat → ClassId} {K : Kt} (C0 : Cx p s m args meth c D ad adV cA cX11_mostUpTo 5 RX11) (hr : meth.sig.returnType = (some .int)) : ∀ q ∈ lX11_mostUpTo, Sd p l e (rmd 3) s m args below meth c (MQ below (QQ D ad cA K) args s 0 0 (AA ad)) D ad cA 5 q.1 (opOf K q.2) := List.forall_mem_cons.mpr ⟨s_aload_n C0 dX11_mostUpTo_0 rfl, List.forall_mem_cons.mpr ⟨s_iload_n C0 dX11_mostUpTo_1 rfl, List.forall_mem_cons.mpr ⟨s_iload_n C0 dX11_mostUpTo_2 rfl, List.forall_mem_cons.mpr ⟨s_iconst C0 dX11_mostUpTo_3 rfl, List.forall_mem_cons.mpr ⟨s_callV (ci := 11) C0 (kX11_laysDays l) dX11_mostUpTo_4 rfl qX11_laysDays tw7_42 tw7_44 twp_71 tw1_12 tw7_45 rfl (by decide) (by decide), List.forall_mem_cons.mpr ⟨s_iload_n C0 dX11_mostUpTo_7 rfl, List.forall_mem_cons.mpr ⟨s_aload_n C0 dX11_mostUpTo_8 rfl, List.forall_mem_cons.mpr ⟨s_get (ci := 11) (k := 7) C0 dX11_mostUpTo_9 inX11 rfl (by decide) tw6_18, List.forall_mem_cons.mpr ⟨s_bipush C0 dX11_mostUpTo_12 (by decide +kernel), List.forall_mem_cons.mpr ⟨s_iload_n C0 dX11_mostUpTo_14 rfl, List.forall_mem_cons.mpr ⟨s_iadd C0 dX11_mostUpTo_15, List.forall_mem_cons.mpr ⟨s_iald C0 dX11_mostUpTo_16, List.forall_mem_cons.mpr ⟨s_callS C0 (kX11_lesser l) dX11_mostUpTo_17 qX11_lesser tw7_82 tw7_83 tw1_12 tw7_84 rfl (by decide) (by decide), List.forall_mem_cons.mpr ⟨s_istore C0 dX11_mostUpTo_20 (by decide), List.forall_mem_cons.mpr ⟨s_iload C0 dX11_mostUpTo_22, List.forall_mem_cons.mpr ⟨s_if_le C0 dX11_mostUpTo_24 rfl, List.forall_mem_cons.mpr ⟨s_aload_n C0 dX11_mostUpTo_27 rfl, List.forall_mem_cons.mpr ⟨s_iload_n C0 dX11_mostUpTo_28 rfl, List.forall_mem_cons.mpr ⟨s_aload_n C0 dX11_mostUpTo_29 rfl, List.forall_mem_cons.mpr ⟨s_get (ci := 11) (k := 7) C0 dX11_mostUpTo_30 inX11 rfl (by decide) tw6_18, List.forall_mem_cons.mpr ⟨s_bipush C0 dX11_mostUpTo_33 (by decide +kernel), List.forall_mem_cons.mpr ⟨s_iload_n C0 dX11_mostUpTo_35 rfl, List.forall_mem_cons.mpr ⟨s_iadd C0 dX11_mostUpTo_36, List.forall_mem_cons.mpr ⟨s_iald C0 dX11_mostUpTo_37, List.forall_mem_cons.mpr ⟨s_iload C0 dX11_mostUpTo_38, List.forall_mem_cons.mpr ⟨s_callV (ci := 11) C0 (kX11_isAllowed l) dX11_mostUpTo_40 rfl qX11_isAllowed tw7_46 tw7_48 twp_72 tw1_12 tw7_49 rfl (by decide) (by decide), List.forall_mem_cons.mpr ⟨s_if_ne C0 dX11_mostUpTo_43 rfl, List.forall_mem_cons.mpr ⟨s_iinc C0 dX11_mostUpTo_46 rfl (by decide), List.forall_mem_cons.mpr ⟨s_goto C0 dX11_mostUpTo_49 rfl, List.forall_mem_cons.mpr ⟨s_iload C0 dX11_mostUpTo_52, List.forall_mem_cons.mpr ⟨s_if_ge C0 dX11_mostUpTo_54 rfl, List.forall_mem_cons.mpr ⟨s_iconst C0 dX11_mostUpTo_57 rfl, List.forall_mem_cons.mpr ⟨s_goto C0 dX11_mostUpTo_58 rfl, List.forall_mem_cons.mpr ⟨s_iload C0 dX11_mostUpTo_61, List.forall_mem_cons.mpr ⟨s_iret C0 hr dX11_mostUpTo_63, fun _ h => absurd h List.not_mem_nil⟩⟩⟩⟩⟩⟩⟩⟩⟩⟩⟩⟩⟩⟩⟩⟩⟩⟩⟩⟩⟩⟩⟩⟩⟩⟩⟩⟩⟩⟩⟩⟩⟩⟩⟩
def fX11_mostUpTo : Mf := mf 5 (fun K => tl K lX11_mostUpTo)
theorem kX11_mostUpTo (l : Launch) : Okm l yX11_mostUpTo cX11_mostUpTo 5 (some .int) 3 fX11_mostUpTo := Okm_tl (own := RX11) (by decide +kernel) rfl (fun C0 hr => hX11_mostUpTo_0 l C0 hr)
theorem dX11_mostOf_0 : decode cX11_mostOf 0 = .ok (.aload_n 0, 1) := by decide +kernel
theorem dX11_mostOf_1 : decode cX11_mostOf 1 = .ok (.iload_n 1, 1) := by decide +kernel
theorem dX11_mostOf_2 : decode cX11_mostOf 2 = .ok (.iload_n 2, 1) := by decide +kernel
theorem dX11_mostOf_3 : decode cX11_mostOf 3 = .ok (.invokevirtual 242, 3) := by decide +kernel
theorem dX11_mostOf_6 : decode cX11_mostOf 6 = .ok (.ifCond .ne 16, 3) := by decide +kernel
theorem dX11_mostOf_9 : decode cX11_mostOf 9 = .ok (.aload_n 0, 1) := by decide +kernel
theorem dX11_mostOf_10 : decode cX11_mostOf 10 = .ok (.getfield 17, 3) := by decide +kernel
theorem dX11_mostOf_13 : decode cX11_mostOf 13 = .ok (.bipush 106, 2) := by decide +kernel
theorem dX11_mostOf_15 : decode cX11_mostOf 15 = .ok (.iload_n 2, 1) := by decide +kernel
theorem dX11_mostOf_16 : decode cX11_mostOf 16 = .ok (.iadd, 1) := by decide +kernel
theorem dX11_mostOf_17 : decode cX11_mostOf 17 = .ok (.iaload, 1) := by decide +kernel
theorem dX11_mostOf_18 : decode cX11_mostOf 18 = .ok (.iconst 3, 1) := by decide +kernel
theorem dX11_mostOf_19 : decode cX11_mostOf 19 = .ok (.if_icmp .ne 7, 3) := by decide +kernel
theorem dX11_mostOf_22 : decode cX11_mostOf 22 = .ok (.iconst 0, 1) := by decide +kernel
theorem dX11_mostOf_23 : decode cX11_mostOf 23 = .ok (.goto 14, 3) := by decide +kernel
theorem dX11_mostOf_26 : decode cX11_mostOf 26 = .ok (.aload_n 0, 1) := by decide +kernel
theorem dX11_mostOf_27 : decode cX11_mostOf 27 = .ok (.iload_n 1, 1) := by decide +kernel
theorem dX11_mostOf_28 : decode cX11_mostOf 28 = .ok (.iload_n 2, 1) := by decide +kernel
theorem dX11_mostOf_29 : decode cX11_mostOf 29 = .ok (.aload_n 0, 1) := by decide +kernel
theorem dX11_mostOf_30 : decode cX11_mostOf 30 = .ok (.iload_n 2, 1) := by decide +kernel
theorem dX11_mostOf_31 : decode cX11_mostOf 31 = .ok (.invokevirtual 220, 3) := by decide +kernel
theorem dX11_mostOf_34 : decode cX11_mostOf 34 = .ok (.invokevirtual 246, 3) := by decide +kernel
theorem dX11_mostOf_37 : decode cX11_mostOf 37 = .ok (.ireturn, 1) := by decide +kernel
def lX11_mostOf : List (Nat × (Op ⊕ Nat)) := [(0, .inl (o_aload 0 1)), (1, .inl (o_iload 1 2)), (2, .inl (o_iload 2 3)), (3, .inl (o_callV fX11_isIn 2 11 6)), (6, .inl (o_if_ne 22 9)), (9, .inl (o_aload 0 10)), (10, .inl (o_get 11 7 13)), (13, .inl (o_pushI (nI 106) 15)), (15, .inl (o_iload 2 16)), (16, .inl (o_iadd 17)), (17, .inl (o_iald 18)), (18, .inl (o_pushI (nI 3) 19)), (19, .inl (o_icmp_ne 26 22)), (22, .inl (o_pushI (nI 0) 23)), (23, .inl (o_goto 37)), (26, .inl (o_aload 0 27)), (27, .inl (o_iload 1 28)), (28, .inl (o_iload 2 29)), (29, .inl (o_aload 0 30)), (30, .inl (o_iload 2 31)), (31, .inl (o_callV fX11_leftOf 1 11 34)), (34, .inl (o_callV fX11_mostUpTo 3 11 37)), (37, .inr 0)]
theorem qX11_mostOf : yX11_mostOf.cls = RX11 ∧ yX11_mostOf.cls ≠ "java/lang/invoke/MethodHandle" ∧ yX11_mostOf.cls ≠ "java/lang/invoke/VarHandle" ∧ (parseMethodDescriptor yX11_mostOf.desc).map (fun d => d.parameters.length) = some 2 := by decide +kernel
set_option maxRecDepth 10000 in
theorem hX11_mostOf_0 (l : Launch) {p : Program} {e : Env} {s : State} {m : MethodId} {args : Array Value} {below : List Frame} {meth : Method} {c : Code} {D : va_G} {ad adV : Nat → Nat} {cA : Nat → ClassId} {K : Kt} (C0 : Cx p s m args meth c D ad adV cA cX11_mostOf 3 RX11) (hr : meth.sig.returnType = (some .int)) : ∀ q ∈ lX11_mostOf, Sd p l e (rmd 4) s m args below meth c (MQ below (QQ D ad cA K) args s 0 0 (AA ad)) D ad cA 3 q.1 (opOf K q.2) := List.forall_mem_cons.mpr ⟨s_aload_n C0 dX11_mostOf_0 rfl, List.forall_mem_cons.mpr ⟨s_iload_n C0 dX11_mostOf_1 rfl, List.forall_mem_cons.mpr ⟨s_iload_n C0 dX11_mostOf_2 rfl, List.forall_mem_cons.mpr ⟨s_callV (ci := 11) C0 (kX11_isIn l) dX11_mostOf_3 rfl qX11_isIn tw7_74 tw7_76 twp_75 tw1_12 tw7_77 rfl (by decide) (by decide), List.forall_mem_cons.mpr ⟨s_if_ne C0 dX11_mostOf_6 rfl, List.forall_mem_cons.mpr ⟨s_aload_n C0 dX11_mostOf_9 rfl, List.forall_mem_cons.mpr ⟨s_get (ci := 11) (k := 7) C0 dX11_mostOf_10 inX11 rfl (by decide) tw6_18, List.forall_mem_cons.mpr ⟨s_bipush C0 dX11_mostOf_13 (by decide +kernel), List.forall_mem_cons.mpr ⟨s_iload_n C0 dX11_mostOf_15 rfl, List.forall_mem_cons.mpr ⟨s_iadd C0 dX11_mostOf_16, List.forall_mem_cons.mpr ⟨s_iald C0 dX11_mostOf_17, List.forall_mem_cons.mpr ⟨s_iconst C0 dX11_mostOf_18 rfl, List.forall_mem_cons.mpr ⟨s_icmp_ne C0 dX11_mostOf_19 rfl, List.forall_mem_cons.mpr ⟨s_iconst C0 dX11_mostOf_22 rfl, List.forall_mem_cons.mpr ⟨s_goto C0 dX11_mostOf_23 rfl, List.forall_mem_cons.mpr ⟨s_aload_n C0 dX11_mostOf_26 rfl, List.forall_mem_cons.mpr ⟨s_iload_n C0 dX11_mostOf_27 rfl, List.forall_mem_cons.mpr ⟨s_iload_n C0 dX11_mostOf_28 rfl, List.forall_mem_cons.mpr ⟨s_aload_n C0 dX11_mostOf_29 rfl, List.forall_mem_cons.mpr ⟨s_iload_n C0 dX11_mostOf_30 rfl, List.forall_mem_cons.mpr ⟨s_callV (ci := 11) C0 (kX11_leftOf l) dX11_mostOf_31 rfl qX11_leftOf tw7_18 tw7_20 twp_67 tw1_12 tw7_21 rfl (by decide) (by decide), List.forall_mem_cons.mpr ⟨s_callV (ci := 11) C0 (kX11_mostUpTo l) dX11_mostOf_34 rfl qX11_mostUpTo tw7_78 tw7_80 twp_76 tw1_12 tw7_81 rfl (by decide) (by decide), List.forall_mem_cons.mpr ⟨s_iret C0 hr dX11_mostOf_37, fun _ h => absurd h List.not_mem_nil⟩⟩⟩⟩⟩⟩⟩⟩⟩⟩⟩⟩⟩⟩⟩⟩⟩⟩⟩⟩⟩⟩⟩
def fX11_mostOf : Mf := mf 3 (fun K => tl K lX11_mostOf)
theorem kX11_mostOf (l : Launch) : Okm l yX11_mostOf cX11_mostOf 3 (some .int) 4 fX11_mostOf := Okm_tl (own := RX11) (by decide +kernel) rfl (fun C0 hr => hX11_mostOf_0 l C0 hr)
theorem dX11_isAllowedAt_0 : decode cX11_isAllowedAt 0 = .ok (.aload_n 0, 1) := by decide +kernel
theorem dX11_isAllowedAt_1 : decode cX11_isAllowedAt 1 = .ok (.aload_n 0, 1) := by decide +kernel
theorem dX11_isAllowedAt_2 : decode cX11_isAllowedAt 2 = .ok (.iload_n 1, 1) := by decide +kernel
theorem dX11_isAllowedAt_3 : decode cX11_isAllowedAt 3 = .ok (.iload_n 2, 1) := by decide +kernel
theorem dX11_isAllowedAt_4 : decode cX11_isAllowedAt 4 = .ok (.invokevirtual 201, 3) := by decide +kernel
theorem dX11_isAllowedAt_7 : decode cX11_isAllowedAt 7 = .ok (.iload_n 1, 1) := by decide +kernel
theorem dX11_isAllowedAt_8 : decode cX11_isAllowedAt 8 = .ok (.iconst 1, 1) := by decide +kernel
theorem dX11_isAllowedAt_9 : decode cX11_isAllowedAt 9 = .ok (.invokevirtual 232, 3) := by decide +kernel
theorem dX11_isAllowedAt_12 : decode cX11_isAllowedAt 12 = .ok (.aload_n 0, 1) := by decide +kernel
theorem dX11_isAllowedAt_13 : decode cX11_isAllowedAt 13 = .ok (.aload_n 0, 1) := by decide +kernel
theorem dX11_isAllowedAt_14 : decode cX11_isAllowedAt 14 = .ok (.iload_n 1, 1) := by decide +kernel
theorem dX11_isAllowedAt_15 : decode cX11_isAllowedAt 15 = .ok (.iload_n 2, 1) := by decide +kernel
theorem dX11_isAllowedAt_16 : decode cX11_isAllowedAt 16 = .ok (.invokevirtual 201, 3) := by decide +kernel
theorem dX11_isAllowedAt_19 : decode cX11_isAllowedAt 19 = .ok (.aload_n 0, 1) := by decide +kernel
theorem dX11_isAllowedAt_20 : decode cX11_isAllowedAt 20 = .ok (.getfield 17, 3) := by decide +kernel
theorem dX11_isAllowedAt_23 : decode cX11_isAllowedAt 23 = .ok (.bipush 46, 2) := by decide +kernel
theorem dX11_isAllowedAt_25 : decode cX11_isAllowedAt 25 = .ok (.iload_n 1, 1) := by decide +kernel
theorem dX11_isAllowedAt_26 : decode cX11_isAllowedAt 26 = .ok (.iadd, 1) := by decide +kernel
theorem dX11_isAllowedAt_27 : decode cX11_isAllowedAt 27 = .ok (.iaload, 1) := by decide +kernel
theorem dX11_isAllowedAt_28 : decode cX11_isAllowedAt 28 = .ok (.aload_n 0, 1) := by decide +kernel
theorem dX11_isAllowedAt_29 : decode cX11_isAllowedAt 29 = .ok (.iload_n 1, 1) := by decide +kernel
theorem dX11_isAllowedAt_30 : decode cX11_isAllowedAt 30 = .ok (.iload_n 2, 1) := by decide +kernel
theorem dX11_isAllowedAt_31 : decode cX11_isAllowedAt 31 = .ok (.invokevirtual 198, 3) := by decide +kernel
theorem dX11_isAllowedAt_34 : decode cX11_isAllowedAt 34 = .ok (.invokevirtual 239, 3) := by decide +kernel
theorem dX11_isAllowedAt_37 : decode cX11_isAllowedAt 37 = .ok (.ireturn, 1) := by decide +kernel
def lX11_isAllowedAt : List (Nat × (Op ⊕ Nat)) := [(0, .inl (o_aload 0 1)), (1, .inl (o_aload 0 2)), (2, .inl (o_iload 1 3)), (3, .inl (o_iload 2 4)), (4, .inl (o_callV fX11_who 2 11 7)), (7, .inl (o_iload 1 8)), (8, .inl (o_pushI (nI 1) 9)), (9, .inl (o_callV fX11_laysDays 3 11 12)), (12, .inl (o_aload 0 13)), (13, .inl (o_aload 0 14)), (14, .inl (o_iload 1 15)), (15, .inl (o_iload 2 16)), (16, .inl (o_callV fX11_who 2 11 19)), (19, .inl (o_aload 0 20)), (20, .inl (o_get 11 7 23)), (23, .inl (o_pushI (nI 46) 25)), (25, .inl (o_iload 1 26)), (26, .inl (o_iadd 27)), (27, .inl (o_iald 28)), (28, .inl (o_aload 0 29)), (29, .inl (o_iload 1 30)), (30, .inl (o_iload 2 31)), (31, .inl (o_callV fX11_throwsAt 2 11 34)), (34, .inl (o_callV fX11_isAllowed 3 11 37)), (37, .inr 1)]
theorem qX11_isAllowedAt : yX11_isAllowedAt.cls = RX11 ∧ yX11_isAllowedAt.cls ≠ "java/lang/invoke/MethodHandle" ∧ yX11_isAllowedAt.cls ≠ "java/lang/invoke/VarHandle" ∧ (parseMethodDescriptor yX11_isAllowedAt.desc).map (fun d => d.parameters.length) = some 2 := by decide +kernel
set_option maxRecDepth 10000 in
theorem hX11_isAllowedAt_0 (l : Launch) {p : Program} {e : Env} {s : State} {m : MethodId} {args : Array Value} {below : List Frame} {meth : Method} {c : Code} {D : va_G} {ad adV : Nat → Nat} {cA : Nat → ClassId} {K : Kt} (C0 : Cx p s m args meth c D ad adV cA cX11_isAllowedAt 3 RX11) (hr : meth.sig.returnType = (some .boolean)) : ∀ q ∈ lX11_isAllowedAt, Sd p l e (rmd 3) s m args below meth c (MQ below (QQ D ad cA K) args s 0 0 (AA ad)) D ad cA 3 q.1 (opOf K q.2) := List.forall_mem_cons.mpr ⟨s_aload_n C0 dX11_isAllowedAt_0 rfl, List.forall_mem_cons.mpr ⟨s_aload_n C0 dX11_isAllowedAt_1 rfl, List.forall_mem_cons.mpr ⟨s_iload_n C0 dX11_isAllowedAt_2 rfl, List.forall_mem_cons.mpr ⟨s_iload_n C0 dX11_isAllowedAt_3 rfl, List.forall_mem_cons.mpr ⟨s_callV (ci := 11) C0 (kX11_who l) dX11_isAllowedAt_4 rfl qX11_who tw6_230 tw6_232 twp_61 tw1_12 tw6_233 rfl (by decide) (by decide), List.forall_mem_cons.mpr ⟨s_iload_n C0 dX11_isAllowedAt_7 rfl, List.forall_mem_cons.mpr ⟨s_iconst C0 dX11_isAllowedAt_8 rfl, List.forall_mem_cons.mpr ⟨s_callV (ci := 11) C0 (kX11_laysDays l) dX11_isAllowedAt_9 rfl qX11_laysDays tw7_42 tw7_44 twp_71 tw1_12 tw7_45 rfl (by decide) (by decide), List.forall_mem_cons.mpr ⟨s_aload_n C0 dX11_isAllowedAt_12 rfl, List.forall_mem_cons.mpr ⟨s_aload_n C0 dX11_isAllowedAt_13 rfl, List.forall_mem_cons.mpr ⟨s_iload_n C0 dX11_isAllowedAt_14 rfl, List.forall_mem_cons.mpr ⟨s_iload_n C0 dX11_isAllowedAt_15 rfl, List.forall_mem_cons.mpr ⟨s_callV (ci := 11) C0 (kX11_who l) dX11_isAllowedAt_16 rfl qX11_who tw6_230 tw6_232 twp_61 tw1_12 tw6_233 rfl (by decide) (by decide), List.forall_mem_cons.mpr ⟨s_aload_n C0 dX11_isAllowedAt_19 rfl, List.forall_mem_cons.mpr ⟨s_get (ci := 11) (k := 7) C0 dX11_isAllowedAt_20 inX11 rfl (by decide) tw6_18, List.forall_mem_cons.mpr ⟨s_bipush C0 dX11_isAllowedAt_23 (by decide +kernel), List.forall_mem_cons.mpr ⟨s_iload_n C0 dX11_isAllowedAt_25 rfl, List.forall_mem_cons.mpr ⟨s_iadd C0 dX11_isAllowedAt_26, List.forall_mem_cons.mpr ⟨s_iald C0 dX11_isAllowedAt_27, List.forall_mem_cons.mpr ⟨s_aload_n C0 dX11_isAllowedAt_28 rfl, List.forall_mem_cons.mpr ⟨s_iload_n C0 dX11_isAllowedAt_29 rfl, List.forall_mem_cons.mpr ⟨s_iload_n C0 dX11_isAllowedAt_30 rfl, List.forall_mem_cons.mpr ⟨s_callV (ci := 11) C0 (kX11_throwsAt l) dX11_isAllowedAt_31 rfl qX11_throwsAt tw6_222 tw6_224 twp_59 tw1_12 tw6_225 rfl (by decide) (by decide), List.forall_mem_cons.mpr ⟨s_callV (ci := 11) C0 (kX11_isAllowed l) dX11_isAllowedAt_34 rfl qX11_isAllowed tw7_46 tw7_48 twp_72 tw1_12 tw7_49 rfl (by decide) (by decide), List.forall_mem_cons.mpr ⟨s_zret C0 hr dX11_isAllowedAt_37, fun _ h => absurd h List.not_mem_nil⟩⟩⟩⟩⟩⟩⟩⟩⟩⟩⟩⟩⟩⟩⟩⟩⟩⟩⟩⟩⟩⟩⟩⟩⟩
def fX11_isAllowedAt : Mf := mf 3 (fun K => tl K lX11_isAllowedAt)
theorem kX11_isAllowedAt (l : Launch) : Okm l yX11_isAllowedAt cX11_isAllowedAt 3 (some .boolean) 3 fX11_isAllowedAt := Okm_tl (own := RX11) (by decide +kernel) rfl (fun C0 hr => hX11_isAllowedAt_0 l C0 hr)
theorem dX11_outing_0 : decode cX11_outing 0 = .ok (.aload_n 0, 1) := by decide +kernel
theorem dX11_outing_1 : decode cX11_outing 1 = .ok (.aload_n 0, 1) := by decide +kernel
theorem dX11_outing_2 : decode cX11_outing 2 = .ok (.iload_n 1, 1) := by decide +kernel
theorem dX11_outing_3 : decode cX11_outing 3 = .ok (.invokevirtual 217, 3) := by decide +kernel
theorem dX11_outing_6 : decode cX11_outing 6 = .ok (.ifCond .eq 35, 3) := by decide +kernel
theorem dX11_outing_9 : decode cX11_outing 9 = .ok (.iload_n 2, 1) := by decide +kernel
theorem dX11_outing_10 : decode cX11_outing 10 = .ok (.iconst 0, 1) := by decide +kernel
theorem dX11_outing_11 : decode cX11_outing 11 = .ok (.aload_n 0, 1) := by decide +kernel
theorem dX11_outing_12 : decode cX11_outing 12 = .ok (.getfield 17, 3) := by decide +kernel
theorem dX11_outing_15 : decode cX11_outing 15 = .ok (.bipush 106, 2) := by decide +kernel
theorem dX11_outing_17 : decode cX11_outing 17 = .ok (.iload_n 1, 1) := by decide +kernel
theorem dX11_outing_18 : decode cX11_outing 18 = .ok (.iadd, 1) := by decide +kernel
theorem dX11_outing_19 : decode cX11_outing 19 = .ok (.iaload, 1) := by decide +kernel
theorem dX11_outing_20 : decode cX11_outing 20 = .ok (.iconst 1, 1) := by decide +kernel
theorem dX11_outing_21 : decode cX11_outing 21 = .ok (.isub, 1) := by decide +kernel
theorem dX11_outing_22 : decode cX11_outing 22 = .ok (.invokestatic 76, 3) := by decide +kernel
theorem dX11_outing_25 : decode cX11_outing 25 = .ok (.ifCond .eq 16, 3) := by decide +kernel
theorem dX11_outing_28 : decode cX11_outing 28 = .ok (.iload_n 3, 1) := by decide +kernel
theorem dX11_outing_29 : decode cX11_outing 29 = .ok (.iconst 0, 1) := by decide +kernel
theorem dX11_outing_30 : decode cX11_outing 30 = .ok (.iconst 4, 1) := by decide +kernel
theorem dX11_outing_31 : decode cX11_outing 31 = .ok (.invokestatic 76, 3) := by decide +kernel
theorem dX11_outing_34 : decode cX11_outing 34 = .ok (.ifCond .eq 7, 3) := by decide +kernel
theorem dX11_outing_37 : decode cX11_outing 37 = .ok (.iconst 1, 1) := by decide +kernel
theorem dX11_outing_38 : decode cX11_outing 38 = .ok (.goto 4, 3) := by decide +kernel
theorem dX11_outing_41 : decode cX11_outing 41 = .ok (.iconst 0, 1) := by decide +kernel
theorem dX11_outing_42 : decode cX11_outing 42 = .ok (.invokestatic 182, 3) := by decide +kernel
theorem dX11_outing_45 : decode cX11_outing 45 = .ok (.invokevirtual 159, 3) := by decide +kernel
theorem dX11_outing_48 : decode cX11_outing 48 = .ok (.ifCond .eq 5, 3) := by decide +kernel
theorem dX11_outing_51 : decode cX11_outing 51 = .ok (.iconst (-1), 1) := by decide +kernel
theorem dX11_outing_52 : decode cX11_outing 52 = .ok (.ireturn, 1) := by decide +kernel
theorem dX11_outing_53 : decode cX11_outing 53 = .ok (.aload_n 0, 1) := by decide +kernel
theorem dX11_outing_54 : decode cX11_outing 54 = .ok (.iload_n 1, 1) := by decide +kernel
theorem dX11_outing_55 : decode cX11_outing 55 = .ok (.iload_n 2, 1) := by decide +kernel
theorem dX11_outing_56 : decode cX11_outing 56 = .ok (.invokevirtual 201, 3) := by decide +kernel
theorem dX11_outing_59 : decode cX11_outing 59 = .ok (.istore 4, 2) := by decide +kernel
theorem dX11_outing_61 : decode cX11_outing 61 = .ok (.aload_n 0, 1) := by decide +kernel
theorem dX11_outing_62 : decode cX11_outing 62 = .ok (.iload_n 1, 1) := by decide +kernel
theorem dX11_outing_63 : decode cX11_outing 63 = .ok (.iload_n 2, 1) := by decide +kernel
theorem dX11_outing_64 : decode cX11_outing 64 = .ok (.invokevirtual 198, 3) := by decide +kernel
theorem dX11_outing_67 : decode cX11_outing 67 = .ok (.istore 5, 2) := by decide +kernel
theorem dX11_outing_69 : decode cX11_outing 69 = .ok (.iload_n 3, 1) := by decide +kernel
theorem dX11_outing_70 : decode cX11_outing 70 = .ok (.tableswitch 55 0 3 #[30, 33, 36, 46], 30) := by decide +kernel
theorem dX11_outing_100 : decode cX11_outing 100 = .ok (.iload 4, 2) := by decide +kernel
theorem dX11_outing_102 : decode cX11_outing 102 = .ok (.ireturn, 1) := by decide +kernel
theorem dX11_outing_103 : decode cX11_outing 103 = .ok (.iload 5, 2) := by decide +kernel
theorem dX11_outing_105 : decode cX11_outing 105 = .ok (.ireturn, 1) := by decide +kernel
theorem dX11_outing_106 : decode cX11_outing 106 = .ok (.aload_n 0, 1) := by decide +kernel
theorem dX11_outing_107 : decode cX11_outing 107 = .ok (.iload 4, 2) := by decide +kernel
theorem dX11_outing_109 : decode cX11_outing 109 = .ok (.iload_n 1, 1) := by decide +kernel
theorem dX11_outing_110 : decode cX11_outing 110 = .ok (.iload 5, 2) := by decide +kernel
theorem dX11_outing_112 : decode cX11_outing 112 = .ok (.invokevirtual 204, 3) := by decide +kernel
theorem dX11_outing_115 : decode cX11_outing 115 = .ok (.ireturn, 1) := by decide +kernel
theorem dX11_outing_116 : decode cX11_outing 116 = .ok (.aload_n 0, 1) := by decide +kernel
theorem dX11_outing_117 : decode cX11_outing 117 = .ok (.iload 4, 2) := by decide +kernel
theorem dX11_outing_119 : decode cX11_outing 119 = .ok (.iload 5, 2) := by decide +kernel
theorem dX11_outing_121 : decode cX11_outing 121 = .ok (.invokevirtual 208, 3) := by decide +kernel
theorem dX11_outing_124 : decode cX11_outing 124 = .ok (.ireturn, 1) := by decide +kernel
theorem dX11_outing_125 : decode cX11_outing 125 = .ok (.aload_n 0, 1) := by decide +kernel
theorem dX11_outing_126 : decode cX11_outing 126 = .ok (.iload_n 1, 1) := by decide +kernel
theorem dX11_outing_127 : decode cX11_outing 127 = .ok (.iload_n 2, 1) := by decide +kernel
theorem dX11_outing_128 : decode cX11_outing 128 = .ok (.invokevirtual 249, 3) := by decide +kernel
theorem dX11_outing_131 : decode cX11_outing 131 = .ok (.ifCond .eq 7, 3) := by decide +kernel
theorem dX11_outing_134 : decode cX11_outing 134 = .ok (.iconst 1, 1) := by decide +kernel
theorem dX11_outing_135 : decode cX11_outing 135 = .ok (.goto 4, 3) := by decide +kernel
theorem dX11_outing_138 : decode cX11_outing 138 = .ok (.iconst 0, 1) := by decide +kernel
theorem dX11_outing_139 : decode cX11_outing 139 = .ok (.ireturn, 1) := by decide +kernel
def lX11_outing_0 : List (Nat × (Op ⊕ Nat)) := [(0, .inl (o_aload 0 1)), (1, .inl (o_aload 0 2)), (2, .inl (o_iload 1 3)), (3, .inl (o_callV fX11_isGame 1 11 6)), (6, .inl (o_if_eq 41 9)), (9, .inl (o_iload 2 10)), (10, .inl (o_pushI (nI 0) 11)), (11, .inl (o_aload 0 12)), (12, .inl (o_get 11 7 15)), (15, .inl (o_pushI (nI 106) 17)), (17, .inl (o_iload 1 18)), (18, .inl (o_iadd 19)), (19, .inl (o_iald 20)), (20, .inl (o_pushI (nI 1) 21)), (21, .inl (o_isub 22)), (22, .inl (o_callS fX11_in 3 25)), (25, .inl (o_if_eq 41 28)), (28, .inl (o_iload 3 29)), (29, .inl (o_pushI (nI 0) 30)), (30, .inl (o_pushI (nI 4) 31)), (31, .inl (o_callS fX11_in 3 34)), (34, .inl (o_if_eq 41 37)), (37, .inl (o_pushI (nI 1) 38)), (38, .inl (o_goto 42)), (41, .inl (o_pushI (nI 0) 42)), (42, .inl (o_callS fX11_unless 1 45)), (45, .inl (o_callV fX11_isRefused 1 11 48)), (48, .inl (o_if_eq 53 51)), (51, .inl (o_pushI ((-1)) 52)), (52, .inr 0), (53, .inl (o_aload 0 54)), (54, .inl (o_iload 1 55)), (55, .inl (o_iload 2 56)), (56, .inl (o_callV fX11_who 2 11 59)), (59, .inl (o_istore 4 61)), (61, .inl (o_aload 0 62)), (62, .inl (o_iload 1 63)), (63, .inl (o_iload 2 64)), (64, .inl (o_callV fX11_throwsAt 2 11 67)), (67, .inl (o_istore 5 69))]
def lX11_outing_1 : List (Nat × (Op ⊕ Nat)) := [(69, .inl (o_iload 3 70)), (70, .inl (o_table 0 3 125 [100, 103, 106, 116])), (100, .inl (o_iload 4 102)), (102, .inr 0), (103, .inl (o_iload 5 105)), (105, .inr 0), (106, .inl (o_aload 0 107)), (107, .inl (o_iload 4 109)), (109, .inl (o_iload 1 110)), (110, .inl (o_iload 5 112)), (112, .inl (o_callV fX11_worthOf 3 11 115)), (115, .inr 0), (116, .inl (o_aload 0 117)), (117, .inl (o_iload 4 119)), (119, .inl (o_iload 5 121)), (121, .inl (o_callV fX11_riskOf 2 11 124)), (124, .inr 0), (125, .inl (o_aload 0 126)), (126, .inl (o_iload 1 127)), (127, .inl (o_iload 2 128)), (128, .inl (o_callV fX11_isAllowedAt 2 11 131)), (131, .inl (o_if_eq 138 134)), (134, .inl (o_pushI (nI 1) 135)), (135, .inl (o_goto 139)), (138, .inl (o_pushI (nI 0) 139)), (139, .inr 0)]
def lX11_outing : List (Nat × (Op ⊕ Nat)) := lX11_outing_0 ++ (lX11_outing_1)
theorem qX11_outing : yX11_outing.cls = RX11 ∧ yX11_outing.cls ≠ "java/lang/invoke/MethodHandle" ∧ yX11_outing.cls ≠ "java/lang/invoke/VarHandle" ∧ (parseMethodDescriptor yX11_outing.desc).map (fun d => d.parameters.length) = some 3 := by decide +kernel
set_option maxRecDepth 10000 in
theorem hX11_outing_0 (l : Launch) {p : Program} {e : Env} {s : State} {m : MethodId} {args : Array Value} {below : List Frame} {meth : Method} {c : Code} {D : va_G} {ad adV : Nat → Nat} {cA : Nat → ClassId} {K : Kt} (C0 : Cx p s m args meth c D ad adV cA cX11_outing 6 RX11) (hr : meth.sig.returnType = (some .int)) : ∀ q ∈ lX11_outing_0, Sd p l e (rmd 4) s m args below meth c (MQ below (QQ D ad cA K) args s 0 0 (AA ad)) D ad cA 6 q.1 (opOf K q.2) := List.forall_mem_cons.mpr ⟨s_aload_n C0 dX11_outing_0 rfl, List.forall_mem_cons.mpr ⟨s_aload_n C0 dX11_outing_1 rfl, List.forall_mem_cons.mpr ⟨s_iload_n C0 dX11_outing_2 rfl, List.forall_mem_cons.mpr ⟨s_callV (ci := 11) C0 (kX11_isGame l) dX11_outing_3 rfl qX11_isGame tw7_14 tw7_16 twp_66 tw1_12 tw7_17 rfl (by decide) (by decide), List.forall_mem_cons.mpr ⟨s_if_eq C0 dX11_outing_6 rfl, List.forall_mem_cons.mpr ⟨s_iload_n C0 dX11_outing_9 rfl, List.forall_mem_cons.mpr ⟨s_iconst C0 dX11_outing_10 rfl, List.forall_mem_cons.mpr ⟨s_aload_n C0 dX11_outing_11 rfl, List.forall_mem_cons.mpr ⟨s_get (ci := 11) (k := 7) C0 dX11_outing_12 inX11 rfl (by decide) tw6_18, List.forall_mem_cons.mpr ⟨s_bipush C0 dX11_outing_15 (by decide +kernel), List.forall_mem_cons.mpr ⟨s_iload_n C0 dX11_outing_17 rfl, List.forall_mem_cons.mpr ⟨s_iadd C0 dX11_outing_18, List.forall_mem_cons.mpr ⟨s_iald C0 dX11_outing_19, List.forall_mem_cons.mpr ⟨s_iconst C0 dX11_outing_20 rfl, List.forall_mem_cons.mpr ⟨s_isub C0 dX11_outing_21, List.forall_mem_cons.mpr ⟨s_callS C0 (kX11_in l) dX11_outing_22 qX11_in tw6_112 tw6_113 tw1_12 tw6_114 rfl (by decide) (by decide), List.forall_mem_cons.mpr ⟨s_if_eq C0 dX11_outing_25 rfl, List.forall_mem_cons.mpr ⟨s_iload_n C0 dX11_outing_28 rfl, List.forall_mem_cons.mpr ⟨s_iconst C0 dX11_outing_29 rfl, List.forall_mem_cons.mpr ⟨s_iconst C0 dX11_outing_30 rfl, List.forall_mem_cons.mpr ⟨s_callS C0 (kX11_in l) dX11_outing_31 qX11_in tw6_112 tw6_113 tw1_12 tw6_114 rfl (by decide) (by decide), List.forall_mem_cons.mpr ⟨s_if_eq C0 dX11_outing_34 rfl, List.forall_mem_cons.mpr ⟨s_iconst C0 dX11_outing_37 rfl, List.forall_mem_cons.mpr ⟨s_goto C0 dX11_outing_38 rfl, List.forall_mem_cons.mpr ⟨s_iconst C0 dX11_outing_41 rfl, List.forall_mem_cons.mpr ⟨s_callS C0 (kX11_unless l) dX11_outing_42 qX11_unless tw6_203 tw6_204 tw1_12 tw6_205 rfl (by decide) (by decide), List.forall_mem_cons.mpr ⟨s_callV (ci := 11) C0 (kX11_isRefused l) dX11_outing_45 rfl qX11_isRefused tw6_118 tw6_120 twp_41 tw1_12 tw6_121 rfl (by decide) (by decide), List.forall_mem_cons.mpr ⟨s_if_eq C0 dX11_outing_48 rfl, List.forall_mem_cons.mpr ⟨s_iconst C0 dX11_outing_51 rfl, List.forall_mem_cons.mpr ⟨s_iret C0 hr dX11_outing_52, List.forall_mem_cons.mpr ⟨s_aload_n C0 dX11_outing_53 rfl, List.forall_mem_cons.mpr ⟨s_iload_n C0 dX11_outing_54 rfl, List.forall_mem_cons.mpr ⟨s_iload_n C0 dX11_outing_55 rfl, List.forall_mem_cons.mpr ⟨s_callV (ci := 11) C0 (kX11_who l) dX11_outing_56 rfl qX11_who tw6_230 tw6_232 twp_61 tw1_12 tw6_233 rfl (by decide) (by decide), List.forall_mem_cons.mpr ⟨s_istore C0 dX11_outing_59 (by decide), List.forall_mem_cons.mpr ⟨s_aload_n C0 dX11_outing_61 rfl, List.forall_mem_cons.mpr ⟨s_iload_n C0 dX11_outing_62 rfl, List.forall_mem_cons.mpr ⟨s_iload_n C0 dX11_outing_63 rfl, List.forall_mem_cons.mpr ⟨s_callV (ci := 11) C0 (kX11_throwsAt l) dX11_outing_64 rfl qX11_throwsAt tw6_222 tw6_224 twp_59 tw1_12 tw6_225 rfl (by decide) (by decide), List.forall_mem_cons.mpr ⟨s_istore C0 dX11_outing_67 (by decide), fun _ h => absurd h List.not_mem_nil⟩⟩⟩⟩⟩⟩⟩⟩⟩⟩⟩⟩⟩⟩⟩⟩⟩⟩⟩⟩⟩⟩⟩⟩⟩⟩⟩⟩⟩⟩⟩⟩⟩⟩⟩⟩⟩⟩⟩⟩
set_option maxRecDepth 10000 in
theorem hX11_outing_1 (l : Launch) {p : Program} {e : Env} {s : State} {m : MethodId} {args : Array Value} {below : List Frame} {meth : Method} {c : Code} {D : va_G} {ad adV : Nat → Nat} {cA : Nat → ClassId} {K : Kt} (C0 : Cx p s m args meth c D ad adV cA cX11_outing 6 RX11) (hr : meth.sig.returnType = (some .int)) : ∀ q ∈ lX11_outing_1, Sd p l e (rmd 4) s m args below meth c (MQ below (QQ D ad cA K) args s 0 0 (AA ad)) D ad cA 6 q.1 (opOf K q.2) := List.forall_mem_cons.mpr ⟨s_iload_n C0 dX11_outing_69 rfl, List.forall_mem_cons.mpr ⟨s_table C0 dX11_outing_70 rfl rfl rfl, List.forall_mem_cons.mpr ⟨s_iload C0 dX11_outing_100, List.forall_mem_cons.mpr ⟨s_iret C0 hr dX11_outing_102, List.forall_mem_cons.mpr ⟨s_iload C0 dX11_outing_103, List.forall_mem_cons.mpr ⟨s_iret C0 hr dX11_outing_105, List.forall_mem_cons.mpr ⟨s_aload_n C0 dX11_outing_106 rfl, List.forall_mem_cons.mpr ⟨s_iload C0 dX11_outing_107, List.forall_mem_cons.mpr ⟨s_iload_n C0 dX11_outing_109 rfl, List.forall_mem_cons.mpr ⟨s_iload C0 dX11_outing_110, List.forall_mem_cons.mpr ⟨s_callV (ci := 11) C0 (kX11_worthOf l) dX11_outing_112 rfl qX11_worthOf tw6_234 tw6_236 twp_62 tw1_12 tw6_237 rfl (by decide) (by decide), List.forall_mem_cons.mpr ⟨s_iret C0 hr dX11_outing_115, List.forall_mem_cons.mpr ⟨s_aload_n C0 dX11_outing_116 rfl, List.forall_mem_cons.mpr ⟨s_iload C0 dX11_outing_117, List.forall_mem_cons.mpr ⟨s_iload C0 dX11_outing_119, List.forall_mem_cons.mpr ⟨s_callV (ci := 11) C0 (kX11_riskOf l) dX11_outing_121 rfl qX11_riskOf tw7_6 tw7_8 twp_65 tw1_12 tw7_9 rfl (by decide) (by decide), List.forall_mem_cons.mpr ⟨s_iret C0 hr dX11_outing_124, List.forall_mem_cons.mpr ⟨s_aload_n C0 dX11_outing_125 rfl, List.forall_mem_cons.mpr ⟨s_iload_n C0 dX11_outing_126 rfl, List.forall_mem_cons.mpr ⟨s_iload_n C0 dX11_outing_127 rfl, List.forall_mem_cons.mpr ⟨s_callV (ci := 11) C0 (kX11_isAllowedAt l) dX11_outing_128 rfl qX11_isAllowedAt tw7_38 tw7_40 twp_70 tw1_12 tw7_41 rfl (by decide) (by decide), List.forall_mem_cons.mpr ⟨s_if_eq C0 dX11_outing_131 rfl, List.forall_mem_cons.mpr ⟨s_iconst C0 dX11_outing_134 rfl, List.forall_mem_cons.mpr ⟨s_goto C0 dX11_outing_135 rfl, List.forall_mem_cons.mpr ⟨s_iconst C0 dX11_outing_138 rfl, List.forall_mem_cons.mpr ⟨s_iret C0 hr dX11_outing_139, fun _ h => absurd h List.not_mem_nil⟩⟩⟩⟩⟩⟩⟩⟩⟩⟩⟩⟩⟩⟩⟩⟩⟩⟩⟩⟩⟩⟩⟩⟩⟩⟩
def fX11_outing : Mf := mf 6 (fun K => tl K lX11_outing)
theorem kX11_outing (l : Launch) : Okm l yX11_outing cX11_outing 6 (some .int) 4 fX11_outing := Okm_tl (own := RX11) (by decide +kernel) rfl (fun C0 hr => List.forall_mem_append.mpr ⟨hX11_outing_0 l C0 hr, hX11_outing_1 l C0 hr⟩)
theorem dX11_value_0 : decode cX11_value 0 = .ok (.aload_n 0, 1) := by decide +kernel
theorem dX11_value_1 : decode cX11_value 1 = .ok (.aload_n 0, 1) := by decide +kernel
theorem dX11_value_2 : decode cX11_value 2 = .ok (.getfield 171, 3) := by decide +kernel
theorem dX11_value_5 : decode cX11_value 5 = .ok (.invokestatic 182, 3) := by decide +kernel
theorem dX11_value_8 : decode cX11_value 8 = .ok (.invokevirtual 159, 3) := by decide +kernel
theorem dX11_value_11 : decode cX11_value 11 = .ok (.ifCond .eq 5, 3) := by decide +kernel
theorem dX11_value_14 : decode cX11_value 14 = .ok (.iconst (-1), 1) := by decide +kernel
theorem dX11_value_15 : decode cX11_value 15 = .ok (.ireturn, 1) := by decide +kernel
theorem dX11_value_16 : decode cX11_value 16 = .ok (.iconst 0, 1) := by decide +kernel
theorem dX11_value_17 : decode cX11_value 17 = .ok (.istore_n 1, 1) := by decide +kernel
theorem dX11_value_18 : decode cX11_value 18 = .ok (.iconst 0, 1) := by decide +kernel
theorem dX11_value_19 : decode cX11_value 19 = .ok (.istore_n 2, 1) := by decide +kernel
theorem dX11_value_20 : decode cX11_value 20 = .ok (.iload_n 2, 1) := by decide +kernel
theorem dX11_value_21 : decode cX11_value 21 = .ok (.aload_n 0, 1) := by decide +kernel
theorem dX11_value_22 : decode cX11_value 22 = .ok (.getfield 17, 3) := by decide +kernel
theorem dX11_value_25 : decode cX11_value 25 = .ok (.iconst 1, 1) := by decide +kernel
theorem dX11_value_26 : decode cX11_value 26 = .ok (.iaload, 1) := by decide +kernel
theorem dX11_value_27 : decode cX11_value 27 = .ok (.if_icmp .ge 17, 3) := by decide +kernel
theorem dX11_value_30 : decode cX11_value 30 = .ok (.iload_n 1, 1) := by decide +kernel
theorem dX11_value_31 : decode cX11_value 31 = .ok (.aload_n 0, 1) := by decide +kernel
theorem dX11_value_32 : decode cX11_value 32 = .ok (.iload_n 2, 1) := by decide +kernel
theorem dX11_value_33 : decode cX11_value 33 = .ok (.invokevirtual 223, 3) := by decide +kernel
theorem dX11_value_36 : decode cX11_value 36 = .ok (.iadd, 1) := by decide +kernel
theorem dX11_value_37 : decode cX11_value 37 = .ok (.istore_n 1, 1) := by decide +kernel
theorem dX11_value_38 : decode cX11_value 38 = .ok (.iinc 2 1, 3) := by decide +kernel
theorem dX11_value_41 : decode cX11_value 41 = .ok (.goto (-21), 3) := by decide +kernel
theorem dX11_value_44 : decode cX11_value 44 = .ok (.iload_n 1, 1) := by decide +kernel
theorem dX11_value_45 : decode cX11_value 45 = .ok (.ireturn, 1) := by decide +kernel
def lX11_value : List (Nat × (Op ⊕ Nat)) := [(0, .inl (o_aload 0 1)), (1, .inl (o_aload 0 2)), (2, .inl (o_get 11 6 5)), (5, .inl (o_callS fX11_unless 1 8)), (8, .inl (o_callV fX11_isRefused 1 11 11)), (11, .inl (o_if_eq 16 14)), (14, .inl (o_pushI ((-1)) 15)), (15, .inr 0), (16, .inl (o_pushI (nI 0) 17)), (17, .inl (o_istore 1 18)), (18, .inl (o_pushI (nI 0) 19)), (19, .inl (o_istore 2 20)), (20, .inl (o_iload 2 21)), (21, .inl (o_aload 0 22)), (22, .inl (o_get 11 7 25)), (25, .inl (o_pushI (nI 1) 26)), (26, .inl (o_iald 27)), (27, .inl (o_icmp_ge 44 30)), (30, .inl (o_iload 1 31)), (31, .inl (o_aload 0 32)), (32, .inl (o_iload 2 33)), (33, .inl (o_callV fX11_valueOf 1 11 36)), (36, .inl (o_iadd 37)), (37, .inl (o_istore 1 38)), (38, .inl (o_iinc 2 (nI 1) 41)), (41, .inl (o_goto 20)), (44, .inl (o_iload 1 45)), (45, .inr 0)]
theorem qX11_value : yX11_value.cls = RX11 ∧ yX11_value.cls ≠ "java/lang/invoke/MethodHandle" ∧ yX11_value.cls ≠ "java/lang/invoke/VarHandle" ∧ (parseMethodDescriptor yX11_value.desc).map (fun d => d.parameters.length) = some 0 := by decide +kernel
set_option maxRecDepth 10000 in
theorem hX11_value_0 (l : Launch) {p : Program} {e : Env} {s : State} {m : MethodId} {args : Array Value} {below : List Frame} {meth : Method} {c : Code} {D : va_G} {ad adV : Nat → Nat} {cA : Nat → ClassId} {K : Kt} (C0 : Cx p s m args meth c D ad adV cA cX11_value 3 RX11) (hr : meth.sig.returnType = (some .int)) : ∀ q ∈ lX11_value, Sd p l e (rmd 3) s m args below meth c (MQ below (QQ D ad cA K) args s 0 0 (AA ad)) D ad cA 3 q.1 (opOf K q.2) := List.forall_mem_cons.mpr ⟨s_aload_n C0 dX11_value_0 rfl, List.forall_mem_cons.mpr ⟨s_aload_n C0 dX11_value_1 rfl, List.forall_mem_cons.mpr ⟨s_get (ci := 11) (k := 6) C0 dX11_value_2 inX11 rfl (by decide) tw6_17, List.forall_mem_cons.mpr ⟨s_callS C0 (kX11_unless l) dX11_value_5 qX11_unless tw6_203 tw6_204 tw1_12 tw6_205 rfl (by decide) (by decide), List.forall_mem_cons.mpr ⟨s_callV (ci := 11) C0 (kX11_isRefused l) dX11_value_8 rfl qX11_isRefused tw6_118 tw6_120 twp_41 tw1_12 tw6_121 rfl (by decide) (by decide), List.forall_mem_cons.mpr ⟨s_if_eq C0 dX11_value_11 rfl, List.forall_mem_cons.mpr ⟨s_iconst C0 dX11_value_14 rfl, List.forall_mem_cons.mpr ⟨s_iret C0 hr dX11_value_15, List.forall_mem_cons.mpr ⟨s_iconst C0 dX11_value_16 rfl, List.forall_mem_cons.mpr ⟨s_istore_n C0 dX11_value_17 rfl (by decide), List.forall_mem_cons.mpr ⟨s_iconst C0 dX11_value_18 rfl, List.forall_mem_cons.mpr ⟨s_istore_n C0 dX11_value_19 rfl (by decide), List.forall_mem_cons.mpr ⟨s_iload_n C0 dX11_value_20 rfl, List.forall_mem_cons.mpr ⟨s_aload_n C0 dX11_value_21 rfl, List.forall_mem_cons.mpr ⟨s_get (ci := 11) (k := 7) C0 dX11_value_22 inX11 rfl (by decide) tw6_18, List.forall_mem_cons.mpr ⟨s_iconst C0 dX11_value_25 rfl, List.forall_mem_cons.mpr ⟨s_iald C0 dX11_value_26, List.forall_mem_cons.mpr ⟨s_icmp_ge C0 dX11_value_27 rfl, List.forall_mem_cons.mpr ⟨s_iload_n C0 dX11_value_30 rfl, List.forall_mem_cons.mpr ⟨s_aload_n C0 dX11_value_31 rfl, List.forall_mem_cons.mpr ⟨s_iload_n C0 dX11_value_32 rfl, List.forall_mem_cons.mpr ⟨s_callV (ci := 11) C0 (kX11_valueOf l) dX11_value_33 rfl qX11_valueOf tw7_22 tw7_24 twp_68 tw1_12 tw7_25 rfl (by decide) (by decide), List.forall_mem_cons.mpr ⟨s_iadd C0 dX11_value_36, List.forall_mem_cons.mpr ⟨s_istore_n C0 dX11_value_37 rfl (by decide), List.forall_mem_cons.mpr ⟨s_iinc C0 dX11_value_38 rfl (by decide), List.forall_mem_cons.mpr ⟨s_goto C0 dX11_value_41 rfl, List.forall_mem_cons.mpr ⟨s_iload_n C0 dX11_value_44 rfl, List.forall_mem_cons.mpr ⟨s_iret C0 hr dX11_value_45, fun _ h => absurd h List.not_mem_nil⟩⟩⟩⟩⟩⟩⟩⟩⟩⟩⟩⟩⟩⟩⟩⟩⟩⟩⟩⟩⟩⟩⟩⟩⟩⟩⟩⟩
def fX11_value : Mf := mf 3 (fun K => tl K lX11_value)
theorem kX11_value (l : Launch) : Okm l yX11_value cX11_value 3 (some .int) 3 fX11_value := Okm_tl (own := RX11) (by decide +kernel) rfl (fun C0 hr => hX11_value_0 l C0 hr)
theorem dX11_points_0 : decode cX11_points 0 = .ok (.aload_n 0, 1) := by decide +kernel
theorem dX11_points_1 : decode cX11_points 1 = .ok (.aload_n 0, 1) := by decide +kernel
theorem dX11_points_2 : decode cX11_points 2 = .ok (.iload_n 1, 1) := by decide +kernel
theorem dX11_points_3 : decode cX11_points 3 = .ok (.invokevirtual 211, 3) := by decide +kernel
theorem dX11_points_6 : decode cX11_points 6 = .ok (.ifCond .eq 15, 3) := by decide +kernel
theorem dX11_points_9 : decode cX11_points 9 = .ok (.aload_n 0, 1) := by decide +kernel
theorem dX11_points_10 : decode cX11_points 10 = .ok (.iload_n 2, 1) := by decide +kernel
theorem dX11_points_11 : decode cX11_points 11 = .ok (.invokevirtual 217, 3) := by decide +kernel
theorem dX11_points_14 : decode cX11_points 14 = .ok (.ifCond .eq 7, 3) := by decide +kernel
theorem dX11_points_17 : decode cX11_points 17 = .ok (.iconst 1, 1) := by decide +kernel
theorem dX11_points_18 : decode cX11_points 18 = .ok (.goto 4, 3) := by decide +kernel
theorem dX11_points_21 : decode cX11_points 21 = .ok (.iconst 0, 1) := by decide +kernel
theorem dX11_points_22 : decode cX11_points 22 = .ok (.invokestatic 182, 3) := by decide +kernel
theorem dX11_points_25 : decode cX11_points 25 = .ok (.invokevirtual 159, 3) := by decide +kernel
theorem dX11_points_28 : decode cX11_points 28 = .ok (.ifCond .eq 7, 3) := by decide +kernel
theorem dX11_points_31 : decode cX11_points 31 = .ok (.iconst (-1), 1) := by decide +kernel
theorem dX11_points_32 : decode cX11_points 32 = .ok (.goto 9, 3) := by decide +kernel
theorem dX11_points_35 : decode cX11_points 35 = .ok (.aload_n 0, 1) := by decide +kernel
theorem dX11_points_36 : decode cX11_points 36 = .ok (.iload_n 1, 1) := by decide +kernel
theorem dX11_points_37 : decode cX11_points 37 = .ok (.iload_n 2, 1) := by decide +kernel
theorem dX11_points_38 : decode cX11_points 38 = .ok (.invokevirtual 192, 3) := by decide +kernel
theorem dX11_points_41 : decode cX11_points 41 = .ok (.ireturn, 1) := by decide +kernel
def lX11_points : List (Nat × (Op ⊕ Nat)) := [(0, .inl (o_aload 0 1)), (1, .inl (o_aload 0 2)), (2, .inl (o_iload 1 3)), (3, .inl (o_callV fX11_isArm 1 11 6)), (6, .inl (o_if_eq 21 9)), (9, .inl (o_aload 0 10)), (10, .inl (o_iload 2 11)), (11, .inl (o_callV fX11_isGame 1 11 14)), (14, .inl (o_if_eq 21 17)), (17, .inl (o_pushI (nI 1) 18)), (18, .inl (o_goto 22)), (21, .inl (o_pushI (nI 0) 22)), (22, .inl (o_callS fX11_unless 1 25)), (25, .inl (o_callV fX11_isRefused 1 11 28)), (28, .inl (o_if_eq 35 31)), (31, .inl (o_pushI ((-1)) 32)), (32, .inl (o_goto 41)), (35, .inl (o_aload 0 36)), (36, .inl (o_iload 1 37)), (37, .inl (o_iload 2 38)), (38, .inl (o_callV fX11_pointsOf 2 11 41)), (41, .inr 0)]
theorem qX11_points : yX11_points.cls = RX11 ∧ yX11_points.cls ≠ "java/lang/invoke/MethodHandle" ∧ yX11_points.cls ≠ "java/lang/invoke/VarHandle" ∧ (parseMethodDescriptor yX11_points.desc).map (fun d => d.parameters.length) = some 2 := by decide +kernel
set_option maxRecDepth 10000 in
theorem hX11_points_0 (l : Launch) {p : Program} {e : Env} {s : State} {m : MethodId} {args : Array Value} {below : List Frame} {meth : Method} {c : Code} {D : va_G} {ad adV : Nat → Nat} {cA : Nat → ClassId} {K : Kt} (C0 : Cx p s m args meth c D ad adV cA cX11_points 3 RX11) (hr : meth.sig.returnType = (some .int)) : ∀ q ∈ lX11_points, Sd p l e (rmd 2) s m args below meth c (MQ below (QQ D ad cA K) args s 0 0 (AA ad)) D ad cA 3 q.1 (opOf K q.2) := List.forall_mem_cons.mpr ⟨s_aload_n C0 dX11_points_0 rfl, List.forall_mem_cons.mpr ⟨s_aload_n C0 dX11_points_1 rfl, List.forall_mem_cons.mpr ⟨s_iload_n C0 dX11_points_2 rfl, List.forall_mem_cons.mpr ⟨s_callV (ci := 11) C0 (kX11_isArm l) dX11_points_3 rfl qX11_isArm tw6_214 tw6_216 twp_57 tw1_12 tw6_217 rfl (by decide) (by decide), List.forall_mem_cons.mpr ⟨s_if_eq C0 dX11_points_6 rfl, List.forall_mem_cons.mpr ⟨s_aload_n C0 dX11_points_9 rfl, List.forall_mem_cons.mpr ⟨s_iload_n C0 dX11_points_10 rfl, List.forall_mem_cons.mpr ⟨s_callV (ci := 11) C0 (kX11_isGame l) dX11_points_11 rfl qX11_isGame tw7_14 tw7_16 twp_66 tw1_12 tw7_17 rfl (by decide) (by decide), List.forall_mem_cons.mpr ⟨s_if_eq C0 dX11_points_14 rfl, List.forall_mem_cons.mpr ⟨s_iconst C0 dX11_points_17 rfl, List.forall_mem_cons.mpr ⟨s_goto C0 dX11_points_18 rfl, List.forall_mem_cons.mpr ⟨s_iconst C0 dX11_points_21 rfl, List.forall_mem_cons.mpr ⟨s_callS C0 (kX11_unless l) dX11_points_22 qX11_unless tw6_203 tw6_204 tw1_12 tw6_205 rfl (by decide) (by decide), List.forall_mem_cons.mpr ⟨s_callV (ci := 11) C0 (kX11_isRefused l) dX11_points_25 rfl qX11_isRefused tw6_118 tw6_120 twp_41 tw1_12 tw6_121 rfl (by decide) (by decide), List.forall_mem_cons.mpr ⟨s_if_eq C0 dX11_points_28 rfl, List.forall_mem_cons.mpr ⟨s_iconst C0 dX11_points_31 rfl, List.forall_mem_cons.mpr ⟨s_goto C0 dX11_points_32 rfl, List.forall_mem_cons.mpr ⟨s_aload_n C0 dX11_points_35 rfl, List.forall_mem_cons.mpr ⟨s_iload_n C0 dX11_points_36 rfl, List.forall_mem_cons.mpr ⟨s_iload_n C0 dX11_points_37 rfl, List.forall_mem_cons.mpr ⟨s_callV (ci := 11) C0 (kX11_pointsOf l) dX11_points_38 rfl qX11_pointsOf tw7_2 tw7_4 twp_64 tw1_12 tw7_5 rfl (by decide) (by decide), List.forall_mem_cons.mpr ⟨s_iret C0 hr dX11_points_41, fun _ h => absurd h List.not_mem_nil⟩⟩⟩⟩⟩⟩⟩⟩⟩⟩⟩⟩⟩⟩⟩⟩⟩⟩⟩⟩⟩⟩
def fX11_points : Mf := mf 3 (fun K => tl K lX11_points)
theorem kX11_points (l : Launch) : Okm l yX11_points cX11_points 3 (some .int) 2 fX11_points := Okm_tl (own := RX11) (by decide +kernel) rfl (fun C0 hr => hX11_points_0 l C0 hr)
theorem dX11_worth_0 : decode cX11_worth 0 = .ok (.aload_n 0, 1) := by decide +kernel
theorem dX11_worth_1 : decode cX11_worth 1 = .ok (.aload_n 0, 1) := by decide +kernel
theorem dX11_worth_2 : decode cX11_worth 2 = .ok (.iload_n 1, 1) := by decide +kernel
theorem dX11_worth_3 : decode cX11_worth 3 = .ok (.invokevirtual 211, 3) := by decide +kernel
theorem dX11_worth_6 : decode cX11_worth 6 = .ok (.ifCond .eq 15, 3) := by decide +kernel
theorem dX11_worth_9 : decode cX11_worth 9 = .ok (.aload_n 0, 1) := by decide +kernel
theorem dX11_worth_10 : decode cX11_worth 10 = .ok (.iload_n 2, 1) := by decide +kernel
theorem dX11_worth_11 : decode cX11_worth 11 = .ok (.invokevirtual 217, 3) := by decide +kernel
theorem dX11_worth_14 : decode cX11_worth 14 = .ok (.ifCond .eq 7, 3) := by decide +kernel
theorem dX11_worth_17 : decode cX11_worth 17 = .ok (.iconst 1, 1) := by decide +kernel
theorem dX11_worth_18 : decode cX11_worth 18 = .ok (.goto 4, 3) := by decide +kernel
theorem dX11_worth_21 : decode cX11_worth 21 = .ok (.iconst 0, 1) := by decide +kernel
theorem dX11_worth_22 : decode cX11_worth 22 = .ok (.iload_n 3, 1) := by decide +kernel
theorem dX11_worth_23 : decode cX11_worth 23 = .ok (.iconst 0, 1) := by decide +kernel
theorem dX11_worth_24 : decode cX11_worth 24 = .ok (.sipush 200, 3) := by decide +kernel
theorem dX11_worth_27 : decode cX11_worth 27 = .ok (.invokestatic 76, 3) := by decide +kernel
theorem dX11_worth_30 : decode cX11_worth 30 = .ok (.invokestatic 155, 3) := by decide +kernel
theorem dX11_worth_33 : decode cX11_worth 33 = .ok (.invokevirtual 159, 3) := by decide +kernel
theorem dX11_worth_36 : decode cX11_worth 36 = .ok (.ifCond .eq 7, 3) := by decide +kernel
theorem dX11_worth_39 : decode cX11_worth 39 = .ok (.iconst (-1), 1) := by decide +kernel
theorem dX11_worth_40 : decode cX11_worth 40 = .ok (.goto 10, 3) := by decide +kernel
theorem dX11_worth_43 : decode cX11_worth 43 = .ok (.aload_n 0, 1) := by decide +kernel
theorem dX11_worth_44 : decode cX11_worth 44 = .ok (.iload_n 1, 1) := by decide +kernel
theorem dX11_worth_45 : decode cX11_worth 45 = .ok (.iload_n 2, 1) := by decide +kernel
theorem dX11_worth_46 : decode cX11_worth 46 = .ok (.iload_n 3, 1) := by decide +kernel
theorem dX11_worth_47 : decode cX11_worth 47 = .ok (.invokevirtual 204, 3) := by decide +kernel
theorem dX11_worth_50 : decode cX11_worth 50 = .ok (.ireturn, 1) := by decide +kernel
def lX11_worth : List (Nat × (Op ⊕ Nat)) := [(0, .inl (o_aload 0 1)), (1, .inl (o_aload 0 2)), (2, .inl (o_iload 1 3)), (3, .inl (o_callV fX11_isArm 1 11 6)), (6, .inl (o_if_eq 21 9)), (9, .inl (o_aload 0 10)), (10, .inl (o_iload 2 11)), (11, .inl (o_callV fX11_isGame 1 11 14)), (14, .inl (o_if_eq 21 17)), (17, .inl (o_pushI (nI 1) 18)), (18, .inl (o_goto 22)), (21, .inl (o_pushI (nI 0) 22)), (22, .inl (o_iload 3 23)), (23, .inl (o_pushI (nI 0) 24)), (24, .inl (o_pushI (nI 200) 27)), (27, .inl (o_callS fX11_in 3 30)), (30, .inl (o_callS fX11_unless_ 2 33)), (33, .inl (o_callV fX11_isRefused 1 11 36)), (36, .inl (o_if_eq 43 39)), (39, .inl (o_pushI ((-1)) 40)), (40, .inl (o_goto 50)), (43, .inl (o_aload 0 44)), (44, .inl (o_iload 1 45)), (45, .inl (o_iload 2 46)), (46, .inl (o_iload 3 47)), (47, .inl (o_callV fX11_worthOf 3 11 50)), (50, .inr 0)]
theorem qX11_worth : yX11_worth.cls = RX11 ∧ yX11_worth.cls ≠ "java/lang/invoke/MethodHandle" ∧ yX11_worth.cls ≠ "java/lang/invoke/VarHandle" ∧ (parseMethodDescriptor yX11_worth.desc).map (fun d => d.parameters.length) = some 3 := by decide +kernel
set_option maxRecDepth 10000 in
theorem hX11_worth_0 (l : Launch) {p : Program} {e : Env} {s : State} {m : MethodId} {args : Array Value} {below : List Frame} {meth : Method} {c : Code} {D : va_G} {ad adV : Nat → Nat} {cA : Nat → ClassId} {K : Kt} (C0 : Cx p s m args meth c D ad adV cA cX11_worth 4 RX11) (hr : meth.sig.returnType = (some .int)) : ∀ q ∈ lX11_worth, Sd p l e (rmd 2) s m args below meth c (MQ below (QQ D ad cA K) args s 0 0 (AA ad)) D ad cA 4 q.1 (opOf K q.2) := List.forall_mem_cons.mpr ⟨s_aload_n C0 dX11_worth_0 rfl, List.forall_mem_cons.mpr ⟨s_aload_n C0 dX11_worth_1 rfl, List.forall_mem_cons.mpr ⟨s_iload_n C0 dX11_worth_2 rfl, List.forall_mem_cons.mpr ⟨s_callV (ci := 11) C0 (kX11_isArm l) dX11_worth_3 rfl qX11_isArm tw6_214 tw6_216 twp_57 tw1_12 tw6_217 rfl (by decide) (by decide), List.forall_mem_cons.mpr ⟨s_if_eq C0 dX11_worth_6 rfl, List.forall_mem_cons.mpr ⟨s_aload_n C0 dX11_worth_9 rfl, List.forall_mem_cons.mpr ⟨s_iload_n C0 dX11_worth_10 rfl, List.forall_mem_cons.mpr ⟨s_callV (ci := 11) C0 (kX11_isGame l) dX11_worth_11 rfl qX11_isGame tw7_14 tw7_16 twp_66 tw1_12 tw7_17 rfl (by decide) (by decide), List.forall_mem_cons.mpr ⟨s_if_eq C0 dX11_worth_14 rfl, List.forall_mem_cons.mpr ⟨s_iconst C0 dX11_worth_17 rfl, List.forall_mem_cons.mpr ⟨s_goto C0 dX11_worth_18 rfl, List.forall_mem_cons.mpr ⟨s_iconst C0 dX11_worth_21 rfl, List.forall_mem_cons.mpr ⟨s_iload_n C0 dX11_worth_22 rfl, List.forall_mem_cons.mpr ⟨s_iconst C0 dX11_worth_23 rfl, List.forall_mem_cons.mpr ⟨s_sipush C0 dX11_worth_24 (by decide +kernel), List.forall_mem_cons.mpr ⟨s_callS C0 (kX11_in l) dX11_worth_27 qX11_in tw6_112 tw6_113 tw1_12 tw6_114 rfl (by decide) (by decide), List.forall_mem_cons.mpr ⟨s_callS C0 (kX11_unless_ l) dX11_worth_30 qX11_unless_ tw6_115 tw6_116 tw1_12 tw6_117 rfl (by decide) (by decide), List.forall_mem_cons.mpr ⟨s_callV (ci := 11) C0 (kX11_isRefused l) dX11_worth_33 rfl qX11_isRefused tw6_118 tw6_120 twp_41 tw1_12 tw6_121 rfl (by decide) (by decide), List.forall_mem_cons.mpr ⟨s_if_eq C0 dX11_worth_36 rfl, List.forall_mem_cons.mpr ⟨s_iconst C0 dX11_worth_39 rfl, List.forall_mem_cons.mpr ⟨s_goto C0 dX11_worth_40 rfl, List.forall_mem_cons.mpr ⟨s_aload_n C0 dX11_worth_43 rfl, List.forall_mem_cons.mpr ⟨s_iload_n C0 dX11_worth_44 rfl, List.forall_mem_cons.mpr ⟨s_iload_n C0 dX11_worth_45 rfl, List.forall_mem_cons.mpr ⟨s_iload_n C0 dX11_worth_46 rfl, List.forall_mem_cons.mpr ⟨s_callV (ci := 11) C0 (kX11_worthOf l) dX11_worth_47 rfl qX11_worthOf tw6_234 tw6_236 twp_62 tw1_12 tw6_237 rfl (by decide) (by decide), List.forall_mem_cons.mpr ⟨s_iret C0 hr dX11_worth_50, fun _ h => absurd h List.not_mem_nil⟩⟩⟩⟩⟩⟩⟩⟩⟩⟩⟩⟩⟩⟩⟩⟩⟩⟩⟩⟩⟩⟩⟩⟩⟩⟩⟩
def fX11_worth : Mf := mf 4 (fun K => tl K lX11_worth)
theorem kX11_worth (l : Launch) : Okm l yX11_worth cX11_worth 4 (some .int) 2 fX11_worth := Okm_tl (own := RX11) (by decide +kernel) rfl (fun C0 hr => hX11_worth_0 l C0 hr)
theorem dX11_most_0 : decode cX11_most 0 = .ok (.aload_n 0, 1) := by decide +kernel
theorem dX11_most_1 : decode cX11_most 1 = .ok (.aload_n 0, 1) := by decide +kernel
theorem dX11_most_2 : decode cX11_most 2 = .ok (.iload_n 1, 1) := by decide +kernel
theorem dX11_most_3 : decode cX11_most 3 = .ok (.invokevirtual 211, 3) := by decide +kernel
theorem dX11_most_6 : decode cX11_most 6 = .ok (.ifCond .eq 15, 3) := by decide +kernel
theorem dX11_most_9 : decode cX11_most 9 = .ok (.aload_n 0, 1) := by decide +kernel
theorem dX11_most_10 : decode cX11_most 10 = .ok (.iload_n 2, 1) := by decide +kernel
theorem dX11_most_11 : decode cX11_most 11 = .ok (.invokevirtual 217, 3) := by decide +kernel
theorem dX11_most_14 : decode cX11_most 14 = .ok (.ifCond .eq 7, 3) := by decide +kernel
theorem dX11_most_17 : decode cX11_most 17 = .ok (.iconst 1, 1) := by decide +kernel
theorem dX11_most_18 : decode cX11_most 18 = .ok (.goto 4, 3) := by decide +kernel
theorem dX11_most_21 : decode cX11_most 21 = .ok (.iconst 0, 1) := by decide +kernel
theorem dX11_most_22 : decode cX11_most 22 = .ok (.invokestatic 182, 3) := by decide +kernel
theorem dX11_most_25 : decode cX11_most 25 = .ok (.invokevirtual 159, 3) := by decide +kernel
theorem dX11_most_28 : decode cX11_most 28 = .ok (.ifCond .eq 7, 3) := by decide +kernel
theorem dX11_most_31 : decode cX11_most 31 = .ok (.iconst (-1), 1) := by decide +kernel
theorem dX11_most_32 : decode cX11_most 32 = .ok (.goto 9, 3) := by decide +kernel
theorem dX11_most_35 : decode cX11_most 35 = .ok (.aload_n 0, 1) := by decide +kernel
theorem dX11_most_36 : decode cX11_most 36 = .ok (.iload_n 1, 1) := by decide +kernel
theorem dX11_most_37 : decode cX11_most 37 = .ok (.iload_n 2, 1) := by decide +kernel
theorem dX11_most_38 : decode cX11_most 38 = .ok (.invokevirtual 252, 3) := by decide +kernel
theorem dX11_most_41 : decode cX11_most 41 = .ok (.ireturn, 1) := by decide +kernel
def lX11_most : List (Nat × (Op ⊕ Nat)) := [(0, .inl (o_aload 0 1)), (1, .inl (o_aload 0 2)), (2, .inl (o_iload 1 3)), (3, .inl (o_callV fX11_isArm 1 11 6)), (6, .inl (o_if_eq 21 9)), (9, .inl (o_aload 0 10)), (10, .inl (o_iload 2 11)), (11, .inl (o_callV fX11_isGame 1 11 14)), (14, .inl (o_if_eq 21 17)), (17, .inl (o_pushI (nI 1) 18)), (18, .inl (o_goto 22)), (21, .inl (o_pushI (nI 0) 22)), (22, .inl (o_callS fX11_unless 1 25)), (25, .inl (o_callV fX11_isRefused 1 11 28)), (28, .inl (o_if_eq 35 31)), (31, .inl (o_pushI ((-1)) 32)), (32, .inl (o_goto 41)), (35, .inl (o_aload 0 36)), (36, .inl (o_iload 1 37)), (37, .inl (o_iload 2 38)), (38, .inl (o_callV fX11_mostOf 2 11 41)), (41, .inr 0)]
theorem qX11_most : yX11_most.cls = RX11 ∧ yX11_most.cls ≠ "java/lang/invoke/MethodHandle" ∧ yX11_most.cls ≠ "java/lang/invoke/VarHandle" ∧ (parseMethodDescriptor yX11_most.desc).map (fun d => d.parameters.length) = some 2 := by decide +kernel
set_option maxRecDepth 10000 in
theorem hX11_most_0 (l : Launch) {p : Program} {e : Env} {s : State} {m : MethodId} {args : Array Value} {below : List Frame} {meth : Method} {c : Code} {D : va_G} {ad adV : Nat → Nat} {cA : Nat → ClassId} {K : Kt} (C0 : Cx p s m args meth c D ad adV cA cX11_most 3 RX11) (hr : meth.sig.returnType = (some .int)) : ∀ q ∈ lX11_most, Sd p l e (rmd 5) s m args below meth c (MQ below (QQ D ad cA K) args s 0 0 (AA ad)) D ad cA 3 q.1 (opOf K q.2) := List.forall_mem_cons.mpr ⟨s_aload_n C0 dX11_most_0 rfl, List.forall_mem_cons.mpr ⟨s_aload_n C0 dX11_most_1 rfl, List.forall_mem_cons.mpr ⟨s_iload_n C0 dX11_most_2 rfl, List.forall_mem_cons.mpr ⟨s_callV (ci := 11) C0 (kX11_isArm l) dX11_most_3 rfl qX11_isArm tw6_214 tw6_216 twp_57 tw1_12 tw6_217 rfl (by decide) (by decide), List.forall_mem_cons.mpr ⟨s_if_eq C0 dX11_most_6 rfl, List.forall_mem_cons.mpr ⟨s_aload_n C0 dX11_most_9 rfl, List.forall_mem_cons.mpr ⟨s_iload_n C0 dX11_most_10 rfl, List.forall_mem_cons.mpr ⟨s_callV (ci := 11) C0 (kX11_isGame l) dX11_most_11 rfl qX11_isGame tw7_14 tw7_16 twp_66 tw1_12 tw7_17 rfl (by decide) (by decide), List.forall_mem_cons.mpr ⟨s_if_eq C0 dX11_most_14 rfl, List.forall_mem_cons.mpr ⟨s_iconst C0 dX11_most_17 rfl, List.forall_mem_cons.mpr ⟨s_goto C0 dX11_most_18 rfl, List.forall_mem_cons.mpr ⟨s_iconst C0 dX11_most_21 rfl, List.forall_mem_cons.mpr ⟨s_callS C0 (kX11_unless l) dX11_most_22 qX11_unless tw6_203 tw6_204 tw1_12 tw6_205 rfl (by decide) (by decide), List.forall_mem_cons.mpr ⟨s_callV (ci := 11) C0 (kX11_isRefused l) dX11_most_25 rfl qX11_isRefused tw6_118 tw6_120 twp_41 tw1_12 tw6_121 rfl (by decide) (by decide), List.forall_mem_cons.mpr ⟨s_if_eq C0 dX11_most_28 rfl, List.forall_mem_cons.mpr ⟨s_iconst C0 dX11_most_31 rfl, List.forall_mem_cons.mpr ⟨s_goto C0 dX11_most_32 rfl, List.forall_mem_cons.mpr ⟨s_aload_n C0 dX11_most_35 rfl, List.forall_mem_cons.mpr ⟨s_iload_n C0 dX11_most_36 rfl, List.forall_mem_cons.mpr ⟨s_iload_n C0 dX11_most_37 rfl, List.forall_mem_cons.mpr ⟨s_callV (ci := 11) C0 (kX11_mostOf l) dX11_most_38 rfl qX11_mostOf tw7_70 tw7_72 twp_74 tw1_12 tw7_73 rfl (by decide) (by decide), List.forall_mem_cons.mpr ⟨s_iret C0 hr dX11_most_41, fun _ h => absurd h List.not_mem_nil⟩⟩⟩⟩⟩⟩⟩⟩⟩⟩⟩⟩⟩⟩⟩⟩⟩⟩⟩⟩⟩⟩
def fX11_most : Mf := mf 3 (fun K => tl K lX11_most)
theorem kX11_most (l : Launch) : Okm l yX11_most cX11_most 3 (some .int) 5 fX11_most := Okm_tl (own := RX11) (by decide +kernel) rfl (fun C0 hr => hX11_most_0 l C0 hr)
theorem dX11_when_0 : decode cX11_when 0 = .ok (.aload_n 0, 1) := by decide +kernel
theorem dX11_when_1 : decode cX11_when 1 = .ok (.aload_n 0, 1) := by decide +kernel
theorem dX11_when_2 : decode cX11_when 2 = .ok (.iload_n 1, 1) := by decide +kernel
theorem dX11_when_3 : decode cX11_when 3 = .ok (.invokevirtual 211, 3) := by decide +kernel
theorem dX11_when_6 : decode cX11_when 6 = .ok (.ifCond .eq 15, 3) := by decide +kernel
theorem dX11_when_9 : decode cX11_when 9 = .ok (.aload_n 0, 1) := by decide +kernel
theorem dX11_when_10 : decode cX11_when 10 = .ok (.iload_n 2, 1) := by decide +kernel
theorem dX11_when_11 : decode cX11_when 11 = .ok (.invokevirtual 217, 3) := by decide +kernel
theorem dX11_when_14 : decode cX11_when 14 = .ok (.ifCond .eq 7, 3) := by decide +kernel
theorem dX11_when_17 : decode cX11_when 17 = .ok (.iconst 1, 1) := by decide +kernel
theorem dX11_when_18 : decode cX11_when 18 = .ok (.goto 4, 3) := by decide +kernel
theorem dX11_when_21 : decode cX11_when 21 = .ok (.iconst 0, 1) := by decide +kernel
theorem dX11_when_22 : decode cX11_when 22 = .ok (.iload_n 3, 1) := by decide +kernel
theorem dX11_when_23 : decode cX11_when 23 = .ok (.iconst 1, 1) := by decide +kernel
theorem dX11_when_24 : decode cX11_when 24 = .ok (.bipush 120, 2) := by decide +kernel
theorem dX11_when_26 : decode cX11_when 26 = .ok (.invokestatic 76, 3) := by decide +kernel
theorem dX11_when_29 : decode cX11_when 29 = .ok (.invokestatic 155, 3) := by decide +kernel
theorem dX11_when_32 : decode cX11_when 32 = .ok (.invokevirtual 159, 3) := by decide +kernel
theorem dX11_when_35 : decode cX11_when 35 = .ok (.ifCond .eq 5, 3) := by decide +kernel
theorem dX11_when_38 : decode cX11_when 38 = .ok (.iconst (-1), 1) := by decide +kernel
theorem dX11_when_39 : decode cX11_when 39 = .ok (.ireturn, 1) := by decide +kernel
theorem dX11_when_40 : decode cX11_when 40 = .ok (.iload_n 2, 1) := by decide +kernel
theorem dX11_when_41 : decode cX11_when 41 = .ok (.istore 4, 2) := by decide +kernel
theorem dX11_when_43 : decode cX11_when 43 = .ok (.iload 4, 2) := by decide +kernel
theorem dX11_when_45 : decode cX11_when 45 = .ok (.aload_n 0, 1) := by decide +kernel
theorem dX11_when_46 : decode cX11_when 46 = .ok (.getfield 17, 3) := by decide +kernel
theorem dX11_when_49 : decode cX11_when 49 = .ok (.iconst 1, 1) := by decide +kernel
theorem dX11_when_50 : decode cX11_when 50 = .ok (.iaload, 1) := by decide +kernel
theorem dX11_when_51 : decode cX11_when 51 = .ok (.if_icmp .ge 23, 3) := by decide +kernel
theorem dX11_when_54 : decode cX11_when 54 = .ok (.aload_n 0, 1) := by decide +kernel
theorem dX11_when_55 : decode cX11_when 55 = .ok (.iload_n 1, 1) := by decide +kernel
theorem dX11_when_56 : decode cX11_when 56 = .ok (.iload 4, 2) := by decide +kernel
theorem dX11_when_58 : decode cX11_when 58 = .ok (.invokevirtual 252, 3) := by decide +kernel
theorem dX11_when_61 : decode cX11_when 61 = .ok (.iload_n 3, 1) := by decide +kernel
theorem dX11_when_62 : decode cX11_when 62 = .ok (.if_icmp .lt 6, 3) := by decide +kernel
theorem dX11_when_65 : decode cX11_when 65 = .ok (.iload 4, 2) := by decide +kernel
theorem dX11_when_67 : decode cX11_when 67 = .ok (.ireturn, 1) := by decide +kernel
theorem dX11_when_68 : decode cX11_when 68 = .ok (.iinc 4 1, 3) := by decide +kernel
theorem dX11_when_71 : decode cX11_when 71 = .ok (.goto (-28), 3) := by decide +kernel
theorem dX11_when_74 : decode cX11_when 74 = .ok (.bipush (-2), 2) := by decide +kernel
theorem dX11_when_76 : decode cX11_when 76 = .ok (.ireturn, 1) := by decide +kernel
def lX11_when_0 : List (Nat × (Op ⊕ Nat)) := [(0, .inl (o_aload 0 1)), (1, .inl (o_aload 0 2)), (2, .inl (o_iload 1 3)), (3, .inl (o_callV fX11_isArm 1 11 6)), (6, .inl (o_if_eq 21 9)), (9, .inl (o_aload 0 10)), (10, .inl (o_iload 2 11)), (11, .inl (o_callV fX11_isGame 1 11 14)), (14, .inl (o_if_eq 21 17)), (17, .inl (o_pushI (nI 1) 18)), (18, .inl (o_goto 22)), (21, .inl (o_pushI (nI 0) 22)), (22, .inl (o_iload 3 23)), (23, .inl (o_pushI (nI 1) 24)), (24, .inl (o_pushI (nI 120) 26)), (26, .inl (o_callS fX11_in 3 29)), (29, .inl (o_callS fX11_unless_ 2 32)), (32, .inl (o_callV fX11_isRefused 1 11 35)), (35, .inl (o_if_eq 40 38)), (38, .inl (o_pushI ((-1)) 39)), (39, .inr 0), (40, .inl (o_iload 2 41)), (41, .inl (o_istore 4 43)), (43, .inl (o_iload 4 45)), (45, .inl (o_aload 0 46)), (46, .inl (o_get 11 7 49)), (49, .inl (o_pushI (nI 1) 50)), (50, .inl (o_iald 51)), (51, .inl (o_icmp_ge 74 54)), (54, .inl (o_aload 0 55)), (55, .inl (o_iload 1 56)), (56, .inl (o_iload 4 58)), (58, .inl (o_callV fX11_mostOf 2 11 61)), (61, .inl (o_iload 3 62)), (62, .inl (o_icmp_lt 68 65)), (65, .inl (o_iload 4 67)), (67, .inr 0), (68, .inl (o_iinc 4 (nI 1) 71)), (71, .inl (o_goto 43)), (74, .inl (o_pushI ((-2)) 76))]
def lX11_when_1 : List (Nat × (Op ⊕ Nat)) := [(76, .inr 0)]
def lX11_when : List (Nat × (Op ⊕ Nat)) := lX11_when_0 ++ (lX11_when_1)
theorem qX11_when : yX11_when.cls = RX11 ∧ yX11_when.cls ≠ "java/lang/invoke/MethodHandle" ∧ yX11_when.cls ≠ "java/lang/invoke/VarHandle" ∧ (parseMethodDescriptor yX11_when.desc).map (fun d => d.parameters.length) = some 3 := by decide +kernel
set_option maxRecDepth 10000 in
theorem hX11_when_0 (l : Launch) {p : Program} {e : Env} {s : State} {m : MethodId} {args : Array Value} {below : List Frame} {meth : Method} {c : Code} {D : va_G} {ad adV : Nat → Nat} {cA : Nat → ClassId} {K : Kt} (C0 : Cx p s m args meth c D ad adV cA cX11_when 5 RX11) (hr : meth.sig.returnType = (some .int)) : ∀ q ∈ lX11_when_0, Sd p l e (rmd 5) s m args below meth c (MQ below (QQ D ad cA K) args s 0 0 (AA ad)) D ad cA 5 q.1 (opOf K q.2) := List.forall_mem_cons.mpr ⟨s_aload_n C0 dX11_when_0 rfl, List.forall_mem_cons.mpr ⟨s_aload_n C0 dX11_when_1 rfl, List.forall_mem_cons.mpr ⟨s_iload_n C0 dX11_when_2 rfl, List.forall_mem_cons.mpr ⟨s_callV (ci := 11) C0 (kX11_isArm l) dX11_when_3 rfl qX11_isArm tw6_214 tw6_216 twp_57 tw1_12 tw6_217 rfl (by decide) (by decide), List.forall_mem_cons.mpr ⟨s_if_eq C0 dX11_when_6 rfl, List.forall_mem_cons.mpr ⟨s_aload_n C0 dX11_when_9 rfl, List.forall_mem_cons.mpr ⟨s_iload_n C0 dX11_when_10 rfl, List.forall_mem_cons.mpr ⟨s_callV (ci := 11) C0 (kX11_isGame l) dX11_when_11 rfl qX11_isGame tw7_14 tw7_16 twp_66 tw1_12 tw7_17 rfl (by decide) (by decide), List.forall_mem_cons.mpr ⟨s_if_eq C0 dX11_when_14 rfl, List.forall_mem_cons.mpr ⟨s_iconst C0 dX11_when_17 rfl, List.forall_mem_cons.mpr ⟨s_goto C0 dX11_when_18 rfl, List.forall_mem_cons.mpr ⟨s_iconst C0 dX11_when_21 rfl, List.forall_mem_cons.mpr ⟨s_iload_n C0 dX11_when_22 rfl, List.forall_mem_cons.mpr ⟨s_iconst C0 dX11_when_23 rfl, List.forall_mem_cons.mpr ⟨s_bipush C0 dX11_when_24 (by decide +kernel), List.forall_mem_cons.mpr ⟨s_callS C0 (kX11_in l) dX11_when_26 qX11_in tw6_112 tw6_113 tw1_12 tw6_114 rfl (by decide) (by decide), List.forall_mem_cons.mpr ⟨s_callS C0 (kX11_unless_ l) dX11_when_29 qX11_unless_ tw6_115 tw6_116 tw1_12 tw6_117 rfl (by decide) (by decide), List.forall_mem_cons.mpr ⟨s_callV (ci := 11) C0 (kX11_isRefused l) dX11_when_32 rfl qX11_isRefused tw6_118 tw6_120 twp_41 tw1_12 tw6_121 rfl (by decide) (by decide), List.forall_mem_cons.mpr ⟨s_if_eq C0 dX11_when_35 rfl, List.forall_mem_cons.mpr ⟨s_iconst C0 dX11_when_38 rfl, List.forall_mem_cons.mpr ⟨s_iret C0 hr dX11_when_39, List.forall_mem_cons.mpr ⟨s_iload_n C0 dX11_when_40 rfl, List.forall_mem_cons.mpr ⟨s_istore C0 dX11_when_41 (by decide), List.forall_mem_cons.mpr ⟨s_iload C0 dX11_when_43, List.forall_mem_cons.mpr ⟨s_aload_n C0 dX11_when_45 rfl, List.forall_mem_cons.mpr ⟨s_get (ci := 11) (k := 7) C0 dX11_when_46 inX11 rfl (by decide) tw6_18, List.forall_mem_cons.mpr ⟨s_iconst C0 dX11_when_49 rfl, List.forall_mem_cons.mpr ⟨s_iald C0 dX11_when_50, List.forall_mem_cons.mpr ⟨s_icmp_ge C0 dX11_when_51 rfl, List.forall_mem_cons.mpr ⟨s_aload_n C0 dX11_when_54 rfl, List.forall_mem_cons.mpr ⟨s_iload_n C0 dX11_when_55 rfl, List.forall_mem_cons.mpr ⟨s_iload C0 dX11_when_56, List.forall_mem_cons.mpr ⟨s_callV (ci := 11) C0 (kX11_mostOf l) dX11_when_58 rfl qX11_mostOf tw7_70 tw7_72 twp_74 tw1_12 tw7_73 rfl (by decide) (by decide), List.forall_mem_cons.mpr ⟨s_iload_n C0 dX11_when_61 rfl, List.forall_mem_cons.mpr ⟨s_icmp_lt C0 dX11_when_62 rfl, List.forall_mem_cons.mpr ⟨s_iload C0 dX11_when_65, List.forall_mem_cons.mpr ⟨s_iret C0 hr dX11_when_67, List.forall_mem_cons.mpr ⟨s_iinc C0 dX11_when_68 rfl (by decide), List.forall_mem_cons.mpr ⟨s_goto C0 dX11_when_71 rfl, List.forall_mem_cons.mpr ⟨s_bipush C0 dX11_when_74 (by decide +kernel), fun _ h => absurd h List.not_mem_nil⟩⟩⟩⟩⟩⟩⟩⟩⟩⟩⟩⟩⟩⟩⟩⟩⟩⟩⟩⟩⟩⟩⟩⟩⟩⟩⟩⟩⟩⟩⟩⟩⟩⟩⟩⟩⟩⟩⟩⟩
set_option maxRecDepth 10000 in
theorem hX11_when_1 (l : Launch) {p : Program} {e : Env} {s : State} {m : MethodId} {args : Array Value} {below : List Frame} {meth : Method} {c : Code} {D : va_G} {ad adV : Nat → Nat} {cA : Nat → ClassId} {K : Kt} (C0 : Cx p s m args meth c D ad adV cA cX11_when 5 RX11) (hr : meth.sig.returnType = (some .int)) : ∀ q ∈ lX11_when_1, Sd p l e (rmd 5) s m args below meth c (MQ below (QQ D ad cA K) args s 0 0 (AA ad)) D ad cA 5 q.1 (opOf K q.2) := List.forall_mem_cons.mpr ⟨s_iret C0 hr dX11_when_76, fun _ h => absurd h List.not_mem_nil⟩
def fX11_when : Mf := mf 5 (fun K => tl K lX11_when)
theorem kX11_when (l : Launch) : Okm l yX11_when cX11_when 5 (some .int) 5 fX11_when := Okm_tl (own := RX11) (by decide +kernel) rfl (fun C0 hr => List.forall_mem_append.mpr ⟨hX11_when_0 l C0 hr, hX11_when_1 l C0 hr⟩)
theorem dX11_fullOf_0 : decode cX11_fullOf 0 = .ok (.aload_n 0, 1) := by decide +kernel
theorem dX11_fullOf_1 : decode cX11_fullOf 1 = .ok (.getfield 17, 3) := by decide +kernel
theorem dX11_fullOf_4 : decode cX11_fullOf 4 = .ok (.bipush 22, 2) := by decide +kernel
theorem dX11_fullOf_6 : decode cX11_fullOf 6 = .ok (.iload_n 1, 1) := by decide +kernel
theorem dX11_fullOf_7 : decode cX11_fullOf 7 = .ok (.iadd, 1) := by decide +kernel
theorem dX11_fullOf_8 : decode cX11_fullOf 8 = .ok (.iaload, 1) := by decide +kernel
theorem dX11_fullOf_9 : decode cX11_fullOf 9 = .ok (.aload_n 0, 1) := by decide +kernel
theorem dX11_fullOf_10 : decode cX11_fullOf 10 = .ok (.getfield 17, 3) := by decide +kernel
theorem dX11_fullOf_13 : decode cX11_fullOf 13 = .ok (.bipush 86, 2) := by decide +kernel
theorem dX11_fullOf_15 : decode cX11_fullOf 15 = .ok (.iload_n 2, 1) := by decide +kernel
theorem dX11_fullOf_16 : decode cX11_fullOf 16 = .ok (.iadd, 1) := by decide +kernel
theorem dX11_fullOf_17 : decode cX11_fullOf 17 = .ok (.iaload, 1) := by decide +kernel
theorem dX11_fullOf_18 : decode cX11_fullOf 18 = .ok (.invokestatic 236, 3) := by decide +kernel
theorem dX11_fullOf_21 : decode cX11_fullOf 21 = .ok (.ireturn, 1) := by decide +kernel
def lX11_fullOf : List (Nat × (Op ⊕ Nat)) := [(0, .inl (o_aload 0 1)), (1, .inl (o_get 11 7 4)), (4, .inl (o_pushI (nI 22) 6)), (6, .inl (o_iload 1 7)), (7, .inl (o_iadd 8)), (8, .inl (o_iald 9)), (9, .inl (o_aload 0 10)), (10, .inl (o_get 11 7 13)), (13, .inl (o_pushI (nI 86) 15)), (15, .inl (o_iload 2 16)), (16, .inl (o_iadd 17)), (17, .inl (o_iald 18)), (18, .inl (o_callS fX11_lesser 2 21)), (21, .inr 0)]
theorem qX11_fullOf : yX11_fullOf.cls = RX11 ∧ yX11_fullOf.cls ≠ "java/lang/invoke/MethodHandle" ∧ yX11_fullOf.cls ≠ "java/lang/invoke/VarHandle" ∧ (parseMethodDescriptor yX11_fullOf.desc).map (fun d => d.parameters.length) = some 2 := by decide +kernel
set_option maxRecDepth 10000 in
theorem hX11_fullOf_0 (l : Launch) {p : Program} {e : Env} {s : State} {m : MethodId} {args : Array Value} {below : List Frame} {meth : Method} {c : Code} {D : va_G} {ad adV : Nat → Nat} {cA : Nat → ClassId} {K : Kt} (C0 : Cx p s m args meth c D ad adV cA cX11_fullOf 3 RX11) (hr : meth.sig.returnType = (some .int)) : ∀ q ∈ lX11_fullOf, Sd p l e (rmd 1) s m args below meth c (MQ below (QQ D ad cA K) args s 0 0 (AA ad)) D ad cA 3 q.1 (opOf K q.2) := List.forall_mem_cons.mpr ⟨s_aload_n C0 dX11_fullOf_0 rfl, List.forall_mem_cons.mpr ⟨s_get (ci := 11) (k := 7) C0 dX11_fullOf_1 inX11 rfl (by decide) tw6_18, List.forall_mem_cons.mpr ⟨s_bipush C0 dX11_fullOf_4 (by decide +kernel), List.forall_mem_cons.mpr ⟨s_iload_n C0 dX11_fullOf_6 rfl, List.forall_mem_cons.mpr ⟨s_iadd C0 dX11_fullOf_7, List.forall_mem_cons.mpr ⟨s_iald C0 dX11_fullOf_8, List.forall_mem_cons.mpr ⟨s_aload_n C0 dX11_fullOf_9 rfl, List.forall_mem_cons.mpr ⟨s_get (ci := 11) (k := 7) C0 dX11_fullOf_10 inX11 rfl (by decide) tw6_18, List.forall_mem_cons.mpr ⟨s_bipush C0 dX11_fullOf_13 (by decide +kernel), List.forall_mem_cons.mpr ⟨s_iload_n C0 dX11_fullOf_15 rfl, List.forall_mem_cons.mpr ⟨s_iadd C0 dX11_fullOf_16, List.forall_mem_cons.mpr ⟨s_iald C0 dX11_fullOf_17, List.forall_mem_cons.mpr ⟨s_callS C0 (kX11_lesser l) dX11_fullOf_18 qX11_lesser tw7_82 tw7_83 tw1_12 tw7_84 rfl (by decide) (by decide), List.forall_mem_cons.mpr ⟨s_iret C0 hr dX11_fullOf_21, fun _ h => absurd h List.not_mem_nil⟩⟩⟩⟩⟩⟩⟩⟩⟩⟩⟩⟩⟩⟩
def fX11_fullOf : Mf := mf 3 (fun K => tl K lX11_fullOf)
theorem kX11_fullOf (l : Launch) : Okm l yX11_fullOf cX11_fullOf 3 (some .int) 1 fX11_fullOf := Okm_tl (own := RX11) (by decide +kernel) rfl (fun C0 hr => hX11_fullOf_0 l C0 hr)
theorem dX11_clash_0 : decode cX11_clash 0 = .ok (.aload_n 0, 1) := by decide +kernel
theorem dX11_clash_1 : decode cX11_clash 1 = .ok (.aload_n 0, 1) := by decide +kernel
theorem dX11_clash_2 : decode cX11_clash 2 = .ok (.iload_n 1, 1) := by decide +kernel
theorem dX11_clash_3 : decode cX11_clash 3 = .ok (.invokevirtual 211, 3) := by decide +kernel
theorem dX11_clash_6 : decode cX11_clash 6 = .ok (.ifCond .eq 15, 3) := by decide +kernel
theorem dX11_clash_9 : decode cX11_clash 9 = .ok (.aload_n 0, 1) := by decide +kernel
theorem dX11_clash_10 : decode cX11_clash 10 = .ok (.iload_n 2, 1) := by decide +kernel
theorem dX11_clash_11 : decode cX11_clash 11 = .ok (.invokevirtual 217, 3) := by decide +kernel
theorem dX11_clash_14 : decode cX11_clash 14 = .ok (.ifCond .eq 7, 3) := by decide +kernel
theorem dX11_clash_17 : decode cX11_clash 17 = .ok (.iconst 1, 1) := by decide +kernel
theorem dX11_clash_18 : decode cX11_clash 18 = .ok (.goto 4, 3) := by decide +kernel
theorem dX11_clash_21 : decode cX11_clash 21 = .ok (.iconst 0, 1) := by decide +kernel
theorem dX11_clash_22 : decode cX11_clash 22 = .ok (.iload_n 3, 1) := by decide +kernel
theorem dX11_clash_23 : decode cX11_clash 23 = .ok (.iconst 1, 1) := by decide +kernel
theorem dX11_clash_24 : decode cX11_clash 24 = .ok (.bipush 120, 2) := by decide +kernel
theorem dX11_clash_26 : decode cX11_clash 26 = .ok (.invokestatic 76, 3) := by decide +kernel
theorem dX11_clash_29 : decode cX11_clash 29 = .ok (.invokestatic 155, 3) := by decide +kernel
theorem dX11_clash_32 : decode cX11_clash 32 = .ok (.invokevirtual 159, 3) := by decide +kernel
theorem dX11_clash_35 : decode cX11_clash 35 = .ok (.ifCond .eq 5, 3) := by decide +kernel
theorem dX11_clash_38 : decode cX11_clash 38 = .ok (.iconst (-1), 1) := by decide +kernel
theorem dX11_clash_39 : decode cX11_clash 39 = .ok (.ireturn, 1) := by decide +kernel
theorem dX11_clash_40 : decode cX11_clash 40 = .ok (.aload_n 0, 1) := by decide +kernel
theorem dX11_clash_41 : decode cX11_clash 41 = .ok (.iload_n 1, 1) := by decide +kernel
theorem dX11_clash_42 : decode cX11_clash 42 = .ok (.iload_n 2, 1) := by decide +kernel
theorem dX11_clash_43 : decode cX11_clash 43 = .ok (.iconst 1, 1) := by decide +kernel
theorem dX11_clash_44 : decode cX11_clash 44 = .ok (.invokevirtual 232, 3) := by decide +kernel
theorem dX11_clash_47 : decode cX11_clash 47 = .ok (.aload_n 0, 1) := by decide +kernel
theorem dX11_clash_48 : decode cX11_clash 48 = .ok (.getfield 17, 3) := by decide +kernel
theorem dX11_clash_51 : decode cX11_clash 51 = .ok (.bipush 46, 2) := by decide +kernel
theorem dX11_clash_53 : decode cX11_clash 53 = .ok (.iload_n 2, 1) := by decide +kernel
theorem dX11_clash_54 : decode cX11_clash 54 = .ok (.iadd, 1) := by decide +kernel
theorem dX11_clash_55 : decode cX11_clash 55 = .ok (.iaload, 1) := by decide +kernel
theorem dX11_clash_56 : decode cX11_clash 56 = .ok (.istore 4, 2) := by decide +kernel
theorem dX11_clash_58 : decode cX11_clash 58 = .ok (.iload_n 3, 1) := by decide +kernel
theorem dX11_clash_59 : decode cX11_clash 59 = .ok (.aload_n 0, 1) := by decide +kernel
theorem dX11_clash_60 : decode cX11_clash 60 = .ok (.getfield 17, 3) := by decide +kernel
theorem dX11_clash_63 : decode cX11_clash 63 = .ok (.bipush 22, 2) := by decide +kernel
theorem dX11_clash_65 : decode cX11_clash 65 = .ok (.iload_n 1, 1) := by decide +kernel
theorem dX11_clash_66 : decode cX11_clash 66 = .ok (.iadd, 1) := by decide +kernel
theorem dX11_clash_67 : decode cX11_clash 67 = .ok (.iaload, 1) := by decide +kernel
theorem dX11_clash_68 : decode cX11_clash 68 = .ok (.if_icmp .le 7, 3) := by decide +kernel
theorem dX11_clash_71 : decode cX11_clash 71 = .ok (.iconst 1, 1) := by decide +kernel
theorem dX11_clash_72 : decode cX11_clash 72 = .ok (.goto 4, 3) := by decide +kernel
theorem dX11_clash_75 : decode cX11_clash 75 = .ok (.iconst 0, 1) := by decide +kernel
theorem dX11_clash_76 : decode cX11_clash 76 = .ok (.istore 5, 2) := by decide +kernel
theorem dX11_clash_78 : decode cX11_clash 78 = .ok (.iconst 0, 1) := by decide +kernel
theorem dX11_clash_79 : decode cX11_clash 79 = .ok (.istore 6, 2) := by decide +kernel
theorem dX11_clash_81 : decode cX11_clash 81 = .ok (.iload 6, 2) := by decide +kernel
theorem dX11_clash_83 : decode cX11_clash 83 = .ok (.bipush 60, 2) := by decide +kernel
theorem dX11_clash_85 : decode cX11_clash 85 = .ok (.if_icmp .ge 95, 3) := by decide +kernel
theorem dX11_clash_88 : decode cX11_clash 88 = .ok (.iload 5, 2) := by decide +kernel
theorem dX11_clash_90 : decode cX11_clash 90 = .ok (.iload 6, 2) := by decide +kernel
theorem dX11_clash_92 : decode cX11_clash 92 = .ok (.iload 4, 2) := by decide +kernel
theorem dX11_clash_94 : decode cX11_clash 94 = .ok (.if_icmp .ge 36, 3) := by decide +kernel
theorem dX11_clash_97 : decode cX11_clash 97 = .ok (.aload_n 0, 1) := by decide +kernel
theorem dX11_clash_98 : decode cX11_clash 98 = .ok (.getfield 29, 3) := by decide +kernel
theorem dX11_clash_101 : decode cX11_clash 101 = .ok (.iload 6, 2) := by decide +kernel
theorem dX11_clash_103 : decode cX11_clash 103 = .ok (.iaload, 1) := by decide +kernel
theorem dX11_clash_104 : decode cX11_clash 104 = .ok (.ifCond .le 26, 3) := by decide +kernel
theorem dX11_clash_107 : decode cX11_clash 107 = .ok (.iload 4, 2) := by decide +kernel
theorem dX11_clash_109 : decode cX11_clash 109 = .ok (.iload 6, 2) := by decide +kernel
theorem dX11_clash_111 : decode cX11_clash 111 = .ok (.isub, 1) := by decide +kernel
theorem dX11_clash_112 : decode cX11_clash 112 = .ok (.aload_n 0, 1) := by decide +kernel
theorem dX11_clash_113 : decode cX11_clash 113 = .ok (.aload_n 0, 1) := by decide +kernel
theorem dX11_clash_114 : decode cX11_clash 114 = .ok (.getfield 29, 3) := by decide +kernel
theorem dX11_clash_117 : decode cX11_clash 117 = .ok (.iload 6, 2) := by decide +kernel
theorem dX11_clash_119 : decode cX11_clash 119 = .ok (.iaload, 1) := by decide +kernel
theorem dX11_clash_120 : decode cX11_clash 120 = .ok (.invokevirtual 226, 3) := by decide +kernel
theorem dX11_clash_123 : decode cX11_clash 123 = .ok (.if_icmp .gt 7, 3) := by decide +kernel
theorem dX11_clash_126 : decode cX11_clash 126 = .ok (.iconst 2, 1) := by decide +kernel
theorem dX11_clash_127 : decode cX11_clash 127 = .ok (.goto 4, 3) := by decide +kernel
theorem dX11_clash_130 : decode cX11_clash 130 = .ok (.iconst 0, 1) := by decide +kernel
theorem dX11_clash_131 : decode cX11_clash 131 = .ok (.ior, 1) := by decide +kernel
theorem dX11_clash_132 : decode cX11_clash 132 = .ok (.istore 5, 2) := by decide +kernel
theorem dX11_clash_134 : decode cX11_clash 134 = .ok (.iload 5, 2) := by decide +kernel
theorem dX11_clash_136 : decode cX11_clash 136 = .ok (.iload 6, 2) := by decide +kernel
theorem dX11_clash_138 : decode cX11_clash 138 = .ok (.iload 4, 2) := by decide +kernel
theorem dX11_clash_140 : decode cX11_clash 140 = .ok (.if_icmp .le 30, 3) := by decide +kernel
theorem dX11_clash_143 : decode cX11_clash 143 = .ok (.aload_n 0, 1) := by decide +kernel
theorem dX11_clash_144 : decode cX11_clash 144 = .ok (.getfield 29, 3) := by decide +kernel
theorem dX11_clash_147 : decode cX11_clash 147 = .ok (.iload 6, 2) := by decide +kernel
theorem dX11_clash_149 : decode cX11_clash 149 = .ok (.iaload, 1) := by decide +kernel
theorem dX11_clash_150 : decode cX11_clash 150 = .ok (.ifCond .le 20, 3) := by decide +kernel
theorem dX11_clash_153 : decode cX11_clash 153 = .ok (.iload 6, 2) := by decide +kernel
theorem dX11_clash_155 : decode cX11_clash 155 = .ok (.iload 4, 2) := by decide +kernel
theorem dX11_clash_157 : decode cX11_clash 157 = .ok (.isub, 1) := by decide +kernel
theorem dX11_clash_158 : decode cX11_clash 158 = .ok (.aload_n 0, 1) := by decide +kernel
theorem dX11_clash_159 : decode cX11_clash 159 = .ok (.iload_n 3, 1) := by decide +kernel
theorem dX11_clash_160 : decode cX11_clash 160 = .ok (.invokevirtual 226, 3) := by decide +kernel
theorem dX11_clash_163 : decode cX11_clash 163 = .ok (.if_icmp .gt 7, 3) := by decide +kernel
theorem dX11_clash_166 : decode cX11_clash 166 = .ok (.iconst 4, 1) := by decide +kernel
theorem dX11_clash_167 : decode cX11_clash 167 = .ok (.goto 4, 3) := by decide +kernel
theorem dX11_clash_170 : decode cX11_clash 170 = .ok (.iconst 0, 1) := by decide +kernel
theorem dX11_clash_171 : decode cX11_clash 171 = .ok (.ior, 1) := by decide +kernel
theorem dX11_clash_172 : decode cX11_clash 172 = .ok (.istore 5, 2) := by decide +kernel
theorem dX11_clash_174 : decode cX11_clash 174 = .ok (.iinc 6 1, 3) := by decide +kernel
theorem dX11_clash_177 : decode cX11_clash 177 = .ok (.goto (-96), 3) := by decide +kernel
theorem dX11_clash_180 : decode cX11_clash 180 = .ok (.aload_n 0, 1) := by decide +kernel
theorem dX11_clash_181 : decode cX11_clash 181 = .ok (.getfield 29, 3) := by decide +kernel
theorem dX11_clash_184 : decode cX11_clash 184 = .ok (.iload 4, 2) := by decide +kernel
theorem dX11_clash_186 : decode cX11_clash 186 = .ok (.iload_n 3, 1) := by decide +kernel
theorem dX11_clash_187 : decode cX11_clash 187 = .ok (.iastore, 1) := by decide +kernel
theorem dX11_clash_188 : decode cX11_clash 188 = .ok (.iload 4, 2) := by decide +kernel
theorem dX11_clash_190 : decode cX11_clash 190 = .ok (.istore 6, 2) := by decide +kernel
theorem dX11_clash_192 : decode cX11_clash 192 = .ok (.iload 6, 2) := by decide +kernel
theorem dX11_clash_194 : decode cX11_clash 194 = .ok (.iload 4, 2) := by decide +kernel
theorem dX11_clash_196 : decode cX11_clash 196 = .ok (.bipush 7, 2) := by decide +kernel
theorem dX11_clash_198 : decode cX11_clash 198 = .ok (.iadd, 1) := by decide +kernel
theorem dX11_clash_199 : decode cX11_clash 199 = .ok (.if_icmp .ge 44, 3) := by decide +kernel
theorem dX11_clash_202 : decode cX11_clash 202 = .ok (.aload_n 0, 1) := by decide +kernel
theorem dX11_clash_203 : decode cX11_clash 203 = .ok (.getfield 17, 3) := by decide +kernel
theorem dX11_clash_206 : decode cX11_clash 206 = .ok (.iconst 3, 1) := by decide +kernel
theorem dX11_clash_207 : decode cX11_clash 207 = .ok (.iaload, 1) := by decide +kernel
theorem dX11_clash_208 : decode cX11_clash 208 = .ok (.ifCond .le 35, 3) := by decide +kernel
theorem dX11_clash_211 : decode cX11_clash 211 = .ok (.iload 5, 2) := by decide +kernel
theorem dX11_clash_213 : decode cX11_clash 213 = .ok (.aload_n 0, 1) := by decide +kernel
theorem dX11_clash_214 : decode cX11_clash 214 = .ok (.iload 6, 2) := by decide +kernel
theorem dX11_clash_216 : decode cX11_clash 216 = .ok (.invokevirtual 229, 3) := by decide +kernel
theorem dX11_clash_219 : decode cX11_clash 219 = .ok (.aload_n 0, 1) := by decide +kernel
theorem dX11_clash_220 : decode cX11_clash 220 = .ok (.getfield 17, 3) := by decide +kernel
theorem dX11_clash_223 : decode cX11_clash 223 = .ok (.iconst 3, 1) := by decide +kernel
theorem dX11_clash_224 : decode cX11_clash 224 = .ok (.iaload, 1) := by decide +kernel
theorem dX11_clash_225 : decode cX11_clash 225 = .ok (.if_icmp .le 8, 3) := by decide +kernel
theorem dX11_clash_228 : decode cX11_clash 228 = .ok (.bipush 8, 2) := by decide +kernel
theorem dX11_clash_230 : decode cX11_clash 230 = .ok (.goto 4, 3) := by decide +kernel
theorem dX11_clash_233 : decode cX11_clash 233 = .ok (.iconst 0, 1) := by decide +kernel
theorem dX11_clash_234 : decode cX11_clash 234 = .ok (.ior, 1) := by decide +kernel
theorem dX11_clash_235 : decode cX11_clash 235 = .ok (.istore 5, 2) := by decide +kernel
theorem dX11_clash_237 : decode cX11_clash 237 = .ok (.iinc 6 1, 3) := by decide +kernel
theorem dX11_clash_240 : decode cX11_clash 240 = .ok (.goto (-48), 3) := by decide +kernel
theorem dX11_clash_243 : decode cX11_clash 243 = .ok (.iload 5, 2) := by decide +kernel
theorem dX11_clash_245 : decode cX11_clash 245 = .ok (.ireturn, 1) := by decide +kernel
def lX11_clash_0 : List (Nat × (Op ⊕ Nat)) := [(0, .inl (o_aload 0 1)), (1, .inl (o_aload 0 2)), (2, .inl (o_iload 1 3)), (3, .inl (o_callV fX11_isArm 1 11 6)), (6, .inl (o_if_eq 21 9)), (9, .inl (o_aload 0 10)), (10, .inl (o_iload 2 11)), (11, .inl (o_callV fX11_isGame 1 11 14)), (14, .inl (o_if_eq 21 17)), (17, .inl (o_pushI (nI 1) 18)), (18, .inl (o_goto 22)), (21, .inl (o_pushI (nI 0) 22)), (22, .inl (o_iload 3 23)), (23, .inl (o_pushI (nI 1) 24)), (24, .inl (o_pushI (nI 120) 26)), (26, .inl (o_callS fX11_in 3 29)), (29, .inl (o_callS fX11_unless_ 2 32)), (32, .inl (o_callV fX11_isRefused 1 11 35)), (35, .inl (o_if_eq 40 38)), (38, .inl (o_pushI ((-1)) 39)), (39, .inr 0), (40, .inl (o_aload 0 41)), (41, .inl (o_iload 1 42)), (42, .inl (o_iload 2 43)), (43, .inl (o_pushI (nI 1) 44)), (44, .inl (o_callV fX11_laysDays 3 11 47)), (47, .inl (o_aload 0 48)), (48, .inl (o_get 11 7 51)), (51, .inl (o_pushI (nI 46) 53)), (53, .inl (o_iload 2 54)), (54, .inl (o_iadd 55)), (55, .inl (o_iald 56)), (56, .inl (o_istore 4 58)), (58, .inl (o_iload 3 59)), (59, .inl (o_aload 0 60)), (60, .inl (o_get 11 7 63)), (63, .inl (o_pushI (nI 22) 65)), (65, .inl (o_iload 1 66)), (66, .inl (o_iadd 67)), (67, .inl (o_iald 68))]
def lX11_clash_1 : List (Nat × (Op ⊕ Nat)) := [(68, .inl (o_icmp_le 75 71)), (71, .inl (o_pushI (nI 1) 72)), (72, .inl (o_goto 76)), (75, .inl (o_pushI (nI 0) 76)), (76, .inl (o_istore 5 78)), (78, .inl (o_pushI (nI 0) 79)), (79, .inl (o_istore 6 81)), (81, .inl (o_iload 6 83)), (83, .inl (o_pushI (nI 60) 85)), (85, .inl (o_icmp_ge 180 88)), (88, .inl (o_iload 5 90)), (90, .inl (o_iload 6 92)), (92, .inl (o_iload 4 94)), (94, .inl (o_icmp_ge 130 97)), (97, .inl (o_aload 0 98)), (98, .inl (o_get 11 19 101)), (101, .inl (o_iload 6 103)), (103, .inl (o_iald 104)), (104, .inl (o_if_le 130 107)), (107, .inl (o_iload 4 109)), (109, .inl (o_iload 6 111)), (111, .inl (o_isub 112)), (112, .inl (o_aload 0 113)), (113, .inl (o_aload 0 114)), (114, .inl (o_get 11 19 117)), (117, .inl (o_iload 6 119)), (119, .inl (o_iald 120)), (120, .inl (o_callV fX11_restOf 1 11 123)), (123, .inl (o_icmp_gt 130 126)), (126, .inl (o_pushI (nI 2) 127)), (127, .inl (o_goto 131)), (130, .inl (o_pushI (nI 0) 131)), (131, .inl (o_ior 132)), (132, .inl (o_istore 5 134)), (134, .inl (o_iload 5 136)), (136, .inl (o_iload 6 138)), (138, .inl (o_iload 4 140)), (140, .inl (o_icmp_le 170 143)), (143, .inl (o_aload 0 144)), (144, .inl (o_get 11 19 147))]
def lX11_clash_2 : List (Nat × (Op ⊕ Nat)) := [(147, .inl (o_iload 6 149)), (149, .inl (o_iald 150)), (150, .inl (o_if_le 170 153)), (153, .inl (o_iload 6 155)), (155, .inl (o_iload 4 157)), (157, .inl (o_isub 158)), (158, .inl (o_aload 0 159)), (159, .inl (o_iload 3 160)), (160, .inl (o_callV fX11_restOf 1 11 163)), (163, .inl (o_icmp_gt 170 166)), (166, .inl (o_pushI (nI 4) 167)), (167, .inl (o_goto 171)), (170, .inl (o_pushI (nI 0) 171)), (171, .inl (o_ior 172)), (172, .inl (o_istore 5 174)), (174, .inl (o_iinc 6 (nI 1) 177)), (177, .inl (o_goto 81)), (180, .inl (o_aload 0 181)), (181, .inl (o_get 11 19 184)), (184, .inl (o_iload 4 186)), (186, .inl (o_iload 3 187)), (187, .inl (o_iast 188)), (188, .inl (o_iload 4 190)), (190, .inl (o_istore 6 192)), (192, .inl (o_iload 6 194)), (194, .inl (o_iload 4 196)), (196, .inl (o_pushI (nI 7) 198)), (198, .inl (o_iadd 199)), (199, .inl (o_icmp_ge 243 202)), (202, .inl (o_aload 0 203)), (203, .inl (o_get 11 7 206)), (206, .inl (o_pushI (nI 3) 207)), (207, .inl (o_iald 208)), (208, .inl (o_if_le 243 211)), (211, .inl (o_iload 5 213)), (213, .inl (o_aload 0 214)), (214, .inl (o_iload 6 216)), (216, .inl (o_callV fX11_lately 1 11 219)), (219, .inl (o_aload 0 220)), (220, .inl (o_get 11 7 223))]
def lX11_clash_3 : List (Nat × (Op ⊕ Nat)) := [(223, .inl (o_pushI (nI 3) 224)), (224, .inl (o_iald 225)), (225, .inl (o_icmp_le 233 228)), (228, .inl (o_pushI (nI 8) 230)), (230, .inl (o_goto 234)), (233, .inl (o_pushI (nI 0) 234)), (234, .inl (o_ior 235)), (235, .inl (o_istore 5 237)), (237, .inl (o_iinc 6 (nI 1) 240)), (240, .inl (o_goto 192)), (243, .inl (o_iload 5 245)), (245, .inr 0)]
def lX11_clash : List (Nat × (Op ⊕ Nat)) := lX11_clash_0 ++ (lX11_clash_1 ++ (lX11_clash_2 ++ (lX11_clash_3)))
theorem qX11_clash : yX11_clash.cls = RX11 ∧ yX11_clash.cls ≠ "java/lang/invoke/MethodHandle" ∧ yX11_clash.cls ≠ "java/lang/invoke/VarHandle" ∧ (parseMethodDescriptor yX11_clash.desc).map (fun d => d.parameters.length) = some 3 := by decide +kernel
set_option maxRecDepth 10000 in
theorem hX11_clash_0 (l : Launch) {p : Program} {e : Env} {s : State} {m : MethodId} {args : Array Value} {below : List Frame} {meth : Method} {c : Code} {D : va_G} {ad adV : Nat → Nat} {cA : Nat → ClassId} {K : Kt} (C0 : Cx p s m args meth c D ad adV cA cX11_clash 7 RX11) (hr : meth.sig.returnType = (some .int)) : ∀ q ∈ lX11_clash_0, Sd p l e (rmd 3) s m args below meth c (MQ below (QQ D ad cA K) args s 0 0 (AA ad)) D ad cA 7 q.1 (opOf K q.2) := List.forall_mem_cons.mpr ⟨s_aload_n C0 dX11_clash_0 rfl, List.forall_mem_cons.mpr ⟨s_aload_n C0 dX11_clash_1 rfl, List.forall_mem_cons.mpr ⟨s_iload_n C0 dX11_clash_2 rfl, List.forall_mem_cons.mpr ⟨s_callV (ci := 11) C0 (kX11_isArm l) dX11_clash_3 rfl qX11_isArm tw6_214 tw6_216 twp_57 tw1_12 tw6_217 rfl (by decide) (by decide), List.forall_mem_cons.mpr ⟨s_if_eq C0 dX11_clash_6 rfl, List.forall_mem_cons.mpr ⟨s_aload_n C0 dX11_clash_9 rfl, List.forall_mem_cons.mpr ⟨s_iload_n C0 dX11_clash_10 rfl, List.forall_mem_cons.mpr ⟨s_callV (ci := 11) C0 (kX11_isGame l) dX11_clash_11 rfl qX11_isGame tw7_14 tw7_16 twp_66 tw1_12 tw7_17 rfl (by decide) (by decide), List.forall_mem_cons.mpr ⟨s_if_eq C0 dX11_clash_14 rfl, List.forall_mem_cons.mpr ⟨s_iconst C0 dX11_clash_17 rfl, List.forall_mem_cons.mpr ⟨s_goto C0 dX11_clash_18 rfl, List.forall_mem_cons.mpr ⟨s_iconst C0 dX11_clash_21 rfl, List.forall_mem_cons.mpr ⟨s_iload_n C0 dX11_clash_22 rfl, List.forall_mem_cons.mpr ⟨s_iconst C0 dX11_clash_23 rfl, List.forall_mem_cons.mpr ⟨s_bipush C0 dX11_clash_24 (by decide +kernel), List.forall_mem_cons.mpr ⟨s_callS C0 (kX11_in l) dX11_clash_26 qX11_in tw6_112 tw6_113 tw1_12 tw6_114 rfl (by decide) (by decide), List.forall_mem_cons.mpr ⟨s_callS C0 (kX11_unless_ l) dX11_clash_29 qX11_unless_ tw6_115 tw6_116 tw1_12 tw6_117 rfl (by decide) (by decide), List.forall_mem_cons.mpr ⟨s_callV (ci := 11) C0 (kX11_isRefused l) dX11_clash_32 rfl qX11_isRefused tw6_118 tw6_120 twp_41 tw1_12 tw6_121 rfl (by decide) (by decide), List.forall_mem_cons.mpr ⟨s_if_eq C0 dX11_clash_35 rfl, List.forall_mem_cons.mpr ⟨s_iconst C0 dX11_clash_38 rfl, List.forall_mem_cons.mpr ⟨s_iret C0 hr dX11_clash_39, List.forall_mem_cons.mpr ⟨s_aload_n C0 dX11_clash_40 rfl, List.forall_mem_cons.mpr ⟨s_iload_n C0 dX11_clash_41 rfl, List.forall_mem_cons.mpr ⟨s_iload_n C0 dX11_clash_42 rfl, List.forall_mem_cons.mpr ⟨s_iconst C0 dX11_clash_43 rfl, List.forall_mem_cons.mpr ⟨s_callV (ci := 11) C0 (kX11_laysDays l) dX11_clash_44 rfl qX11_laysDays tw7_42 tw7_44 twp_71 tw1_12 tw7_45 rfl (by decide) (by decide), List.forall_mem_cons.mpr ⟨s_aload_n C0 dX11_clash_47 rfl, List.forall_mem_cons.mpr ⟨s_get (ci := 11) (k := 7) C0 dX11_clash_48 inX11 rfl (by decide) tw6_18, List.forall_mem_cons.mpr ⟨s_bipush C0 dX11_clash_51 (by decide +kernel), List.forall_mem_cons.mpr ⟨s_iload_n C0 dX11_clash_53 rfl, List.forall_mem_cons.mpr ⟨s_iadd C0 dX11_clash_54, List.forall_mem_cons.mpr ⟨s_iald C0 dX11_clash_55, List.forall_mem_cons.mpr ⟨s_istore C0 dX11_clash_56 (by decide), List.forall_mem_cons.mpr ⟨s_iload_n C0 dX11_clash_58 rfl, List.forall_mem_cons.mpr ⟨s_aload_n C0 dX11_clash_59 rfl, List.forall_mem_cons.mpr ⟨s_get (ci := 11) (k := 7) C0 dX11_clash_60 inX11 rfl (by decide) tw6_18, List.forall_mem_cons.mpr ⟨s_bipush C0 dX11_clash_63 (by decide +kernel), List.forall_mem_cons.mpr ⟨s_iload_n C0 dX11_clash_65 rfl, List.forall_mem_cons.mpr ⟨s_iadd C0 dX11_clash_66, List.forall_mem_cons.mpr ⟨s_iald C0 dX11_clash_67, fun _ h => absurd h List.not_mem_nil⟩⟩⟩⟩⟩⟩⟩⟩⟩⟩⟩⟩⟩⟩⟩⟩⟩⟩⟩⟩⟩⟩⟩⟩⟩⟩⟩⟩⟩⟩⟩⟩⟩⟩⟩⟩⟩⟩⟩⟩
set_option maxRecDepth 10000 in
theorem hX11_clash_1 (l : Launch) {p : Program} {e : Env} {s : State} {m : MethodId} {args : Array Value} {below : List Frame} {meth : Method} {c : Code} {D : va_G} {ad adV : Nat → Nat} {cA : Nat → ClassId} {K : Kt} (C0 : Cx p s m args meth c D ad adV cA cX11_clash 7 RX11) (hr : meth.sig.returnType = (some .int)) : ∀ q ∈ lX11_clash_1, Sd p l e (rmd 3) s m args below meth c (MQ below (QQ D ad cA K) args s 0 0 (AA ad)) D ad cA 7 q.1 (opOf K q.2) := List.forall_mem_cons.mpr ⟨s_icmp_le C0 dX11_clash_68 rfl, List.forall_mem_cons.mpr ⟨s_iconst C0 dX11_clash_71 rfl, List.forall_mem_cons.mpr ⟨s_goto C0 dX11_clash_72 rfl, List.forall_mem_cons.mpr ⟨s_iconst C0 dX11_clash_75 rfl, List.forall_mem_cons.mpr ⟨s_istore C0 dX11_clash_76 (by decide), List.forall_mem_cons.mpr ⟨s_iconst C0 dX11_clash_78 rfl, List.forall_mem_cons.mpr ⟨s_istore C0 dX11_clash_79 (by decide), List.forall_mem_cons.mpr ⟨s_iload C0 dX11_clash_81, List.forall_mem_cons.mpr ⟨s_bipush C0 dX11_clash_83 (by decide +kernel), List.forall_mem_cons.mpr ⟨s_icmp_ge C0 dX11_clash_85 rfl, List.forall_mem_cons.mpr ⟨s_iload C0 dX11_clash_88, List.forall_mem_cons.mpr ⟨s_iload C0 dX11_clash_90, List.forall_mem_cons.mpr ⟨s_iload C0 dX11_clash_92, List.forall_mem_cons.mpr ⟨s_icmp_ge C0 dX11_clash_94 rfl, List.forall_mem_cons.mpr ⟨s_aload_n C0 dX11_clash_97 rfl, List.forall_mem_cons.mpr ⟨s_get (ci := 11) (k := 19) C0 dX11_clash_98 inX11 rfl (by decide) tw6_30, List.forall_mem_cons.mpr ⟨s_iload C0 dX11_clash_101, List.forall_mem_cons.mpr ⟨s_iald C0 dX11_clash_103, List.forall_mem_cons.mpr ⟨s_if_le C0 dX11_clash_104 rfl, List.forall_mem_cons.mpr ⟨s_iload C0 dX11_clash_107, List.forall_mem_cons.mpr ⟨s_iload C0 dX11_clash_109, List.forall_mem_cons.mpr ⟨s_isub C0 dX11_clash_111, List.forall_mem_cons.mpr ⟨s_aload_n C0 dX11_clash_112 rfl, List.forall_mem_cons.mpr ⟨s_aload_n C0 dX11_clash_113 rfl, List.forall_mem_cons.mpr ⟨s_get (ci := 11) (k := 19) C0 dX11_clash_114 inX11 rfl (by decide) tw6_30, List.forall_mem_cons.mpr ⟨s_iload C0 dX11_clash_117, List.forall_mem_cons.mpr ⟨s_iald C0 dX11_clash_119, List.forall_mem_cons.mpr ⟨s_callV (ci := 11) C0 (kX11_restOf l) dX11_clash_120 rfl qX11_restOf tw7_30 tw7_32 twp_69 tw1_12 tw7_33 rfl (by decide) (by decide), List.forall_mem_cons.mpr ⟨s_icmp_gt C0 dX11_clash_123 rfl, List.forall_mem_cons.mpr ⟨s_iconst C0 dX11_clash_126 rfl, List.forall_mem_cons.mpr ⟨s_goto C0 dX11_clash_127 rfl, List.forall_mem_cons.mpr ⟨s_iconst C0 dX11_clash_130 rfl, List.forall_mem_cons.mpr ⟨s_ior C0 dX11_clash_131, List.forall_mem_cons.mpr ⟨s_istore C0 dX11_clash_132 (by decide), List.forall_mem_cons.mpr ⟨s_iload C0 dX11_clash_134, List.forall_mem_cons.mpr ⟨s_iload C0 dX11_clash_136, List.forall_mem_cons.mpr ⟨s_iload C0 dX11_clash_138, List.forall_mem_cons.mpr ⟨s_icmp_le C0 dX11_clash_140 rfl, List.forall_mem_cons.mpr ⟨s_aload_n C0 dX11_clash_143 rfl, List.forall_mem_cons.mpr ⟨s_get (ci := 11) (k := 19) C0 dX11_clash_144 inX11 rfl (by decide) tw6_30, fun _ h => absurd h List.not_mem_nil⟩⟩⟩⟩⟩⟩⟩⟩⟩⟩⟩⟩⟩⟩⟩⟩⟩⟩⟩⟩⟩⟩⟩⟩⟩⟩⟩⟩⟩⟩⟩⟩⟩⟩⟩⟩⟩⟩⟩⟩
set_option maxRecDepth 10000 in
theorem hX11_clash_2 (l : Launch) {p : Program} {e : Env} {s : State} {m : MethodId} {args : Array Value} {below : List Frame} {meth : Method} {c : Code} {D : va_G} {ad adV : Nat → Nat} {cA : Nat → ClassId} {K : Kt} (C0 : Cx p s m args meth c D ad adV cA cX11_clash 7 RX11) (hr : meth.sig.returnType = (some .int)) : ∀ q ∈ lX11_clash_2, Sd p l e (rmd 3) s m args below meth c (MQ below (QQ D ad cA K) args s 0 0 (AA ad)) D ad cA 7 q.1 (opOf K q.2) := List.forall_mem_cons.mpr ⟨s_iload C0 dX11_clash_147, List.forall_mem_cons.mpr ⟨s_iald C0 dX11_clash_149, List.forall_mem_cons.mpr ⟨s_if_le C0 dX11_clash_150 rfl, List.forall_mem_cons.mpr ⟨s_iload C0 dX11_clash_153, List.forall_mem_cons.mpr ⟨s_iload C0 dX11_clash_155, List.forall_mem_cons.mpr ⟨s_isub C0 dX11_clash_157, List.forall_mem_cons.mpr ⟨s_aload_n C0 dX11_clash_158 rfl, List.forall_mem_cons.mpr ⟨s_iload_n C0 dX11_clash_159 rfl, List.forall_mem_cons.mpr ⟨s_callV (ci := 11) C0 (kX11_restOf l) dX11_clash_160 rfl qX11_restOf tw7_30 tw7_32 twp_69 tw1_12 tw7_33 rfl (by decide) (by decide), List.forall_mem_cons.mpr ⟨s_icmp_gt C0 dX11_clash_163 rfl, List.forall_mem_cons.mpr ⟨s_iconst C0 dX11_clash_166 rfl, List.forall_mem_cons.mpr ⟨s_goto C0 dX11_clash_167 rfl, List.forall_mem_cons.mpr ⟨s_iconst C0 dX11_clash_170 rfl, List.forall_mem_cons.mpr ⟨s_ior C0 dX11_clash_171, List.forall_mem_cons.mpr ⟨s_istore C0 dX11_clash_172 (by decide), List.forall_mem_cons.mpr ⟨s_iinc C0 dX11_clash_174 rfl (by decide), List.forall_mem_cons.mpr ⟨s_goto C0 dX11_clash_177 rfl, List.forall_mem_cons.mpr ⟨s_aload_n C0 dX11_clash_180 rfl, List.forall_mem_cons.mpr ⟨s_get (ci := 11) (k := 19) C0 dX11_clash_181 inX11 rfl (by decide) tw6_30, List.forall_mem_cons.mpr ⟨s_iload C0 dX11_clash_184, List.forall_mem_cons.mpr ⟨s_iload_n C0 dX11_clash_186 rfl, List.forall_mem_cons.mpr ⟨s_iast C0 dX11_clash_187, List.forall_mem_cons.mpr ⟨s_iload C0 dX11_clash_188, List.forall_mem_cons.mpr ⟨s_istore C0 dX11_clash_190 (by decide), List.forall_mem_cons.mpr ⟨s_iload C0 dX11_clash_192, List.forall_mem_cons.mpr ⟨s_iload C0 dX11_clash_194, List.forall_mem_cons.mpr ⟨s_bipush C0 dX11_clash_196 (by decide +kernel), List.forall_mem_cons.mpr ⟨s_iadd C0 dX11_clash_198, List.forall_mem_cons.mpr ⟨s_icmp_ge C0 dX11_clash_199 rfl, List.forall_mem_cons.mpr ⟨s_aload_n C0 dX11_clash_202 rfl, List.forall_mem_cons.mpr ⟨s_get (ci := 11) (k := 7) C0 dX11_clash_203 inX11 rfl (by decide) tw6_18, List.forall_mem_cons.mpr ⟨s_iconst C0 dX11_clash_206 rfl, List.forall_mem_cons.mpr ⟨s_iald C0 dX11_clash_207, List.forall_mem_cons.mpr ⟨s_if_le C0 dX11_clash_208 rfl, List.forall_mem_cons.mpr ⟨s_iload C0 dX11_clash_211, List.forall_mem_cons.mpr ⟨s_aload_n C0 dX11_clash_213 rfl, List.forall_mem_cons.mpr ⟨s_iload C0 dX11_clash_214, List.forall_mem_cons.mpr ⟨s_callV (ci := 11) C0 (kX11_lately l) dX11_clash_216 rfl qX11_lately tw7_50 tw7_52 twp_73 tw1_12 tw7_53 rfl (by decide) (by decide), List.forall_mem_cons.mpr ⟨s_aload_n C0 dX11_clash_219 rfl, List.forall_mem_cons.mpr ⟨s_get (ci := 11) (k := 7) C0 dX11_clash_220 inX11 rfl (by decide) tw6_18, fun _ h => absurd h List.not_mem_nil⟩⟩⟩⟩⟩⟩⟩⟩⟩⟩⟩⟩⟩⟩⟩⟩⟩⟩⟩⟩⟩⟩⟩⟩⟩⟩⟩⟩⟩⟩⟩⟩⟩⟩⟩⟩⟩⟩⟩⟩
set_option maxRecDepth 10000 in
theorem hX11_clash_3 (l : Launch) {p : Program} {e : Env} {s : State} {m : MethodId} {args : Array Value} {below : List Frame} {meth : Method} {c : Code} {D : va_G} {ad adV : Nat → Nat} {cA : Nat → ClassId} {K : Kt} (C0 : Cx p s m args meth c D ad adV cA cX11_clash 7 RX11) (hr : meth.sig.returnType = (some .int)) : ∀ q ∈ lX11_clash_3, Sd p l e (rmd 3) s m args below meth c (MQ below (QQ D ad cA K) args s 0 0 (AA ad)) D ad cA 7 q.1 (opOf K q.2) := List.forall_mem_cons.mpr ⟨s_iconst C0 dX11_clash_223 rfl, List.forall_mem_cons.mpr ⟨s_iald C0 dX11_clash_224, List.forall_mem_cons.mpr ⟨s_icmp_le C0 dX11_clash_225 rfl, List.forall_mem_cons.mpr ⟨s_bipush C0 dX11_clash_228 (by decide +kernel), List.forall_mem_cons.mpr ⟨s_goto C0 dX11_clash_230 rfl, List.forall_mem_cons.mpr ⟨s_iconst C0 dX11_clash_233 rfl, List.forall_mem_cons.mpr ⟨s_ior C0 dX11_clash_234, List.forall_mem_cons.mpr ⟨s_istore C0 dX11_clash_235 (by decide), List.forall_mem_cons.mpr ⟨s_iinc C0 dX11_clash_237 rfl (by decide), List.forall_mem_cons.mpr ⟨s_goto C0 dX11_clash_240 rfl, List.forall_mem_cons.mpr ⟨s_iload C0 dX11_clash_243, List.forall_mem_cons.mpr ⟨s_iret C0 hr dX11_clash_245, fun _ h => absurd h List.not_mem_nil⟩⟩⟩⟩⟩⟩⟩⟩⟩⟩⟩⟩
def fX11_clash : Mf := mf 7 (fun K => tl K lX11_clash)
theorem kX11_clash (l : Launch) : Okm l yX11_clash cX11_clash 7 (some .int) 3 fX11_clash := Okm_tl (own := RX11) (by decide +kernel) rfl (fun C0 hr => List.forall_mem_append.mpr ⟨hX11_clash_0 l C0 hr, List.forall_mem_append.mpr ⟨hX11_clash_1 l C0 hr, List.forall_mem_append.mpr ⟨hX11_clash_2 l C0 hr, hX11_clash_3 l C0 hr⟩⟩⟩)
theorem dX11_ranked_0 : decode cX11_ranked 0 = .ok (.aload_n 0, 1) := by decide +kernel
theorem dX11_ranked_1 : decode cX11_ranked 1 = .ok (.aload_n 0, 1) := by decide +kernel
theorem dX11_ranked_2 : decode cX11_ranked 2 = .ok (.iload_n 1, 1) := by decide +kernel
theorem dX11_ranked_3 : decode cX11_ranked 3 = .ok (.invokevirtual 217, 3) := by decide +kernel
theorem dX11_ranked_6 : decode cX11_ranked 6 = .ok (.ifCond .eq 23, 3) := by decide +kernel
theorem dX11_ranked_9 : decode cX11_ranked 9 = .ok (.iload_n 2, 1) := by decide +kernel
theorem dX11_ranked_10 : decode cX11_ranked 10 = .ok (.iconst 0, 1) := by decide +kernel
theorem dX11_ranked_11 : decode cX11_ranked 11 = .ok (.aload_n 0, 1) := by decide +kernel
theorem dX11_ranked_12 : decode cX11_ranked 12 = .ok (.getfield 17, 3) := by decide +kernel
theorem dX11_ranked_15 : decode cX11_ranked 15 = .ok (.iconst 0, 1) := by decide +kernel
theorem dX11_ranked_16 : decode cX11_ranked 16 = .ok (.iaload, 1) := by decide +kernel
theorem dX11_ranked_17 : decode cX11_ranked 17 = .ok (.iconst 1, 1) := by decide +kernel
theorem dX11_ranked_18 : decode cX11_ranked 18 = .ok (.isub, 1) := by decide +kernel
theorem dX11_ranked_19 : decode cX11_ranked 19 = .ok (.invokestatic 76, 3) := by decide +kernel
theorem dX11_ranked_22 : decode cX11_ranked 22 = .ok (.ifCond .eq 7, 3) := by decide +kernel
theorem dX11_ranked_25 : decode cX11_ranked 25 = .ok (.iconst 1, 1) := by decide +kernel
theorem dX11_ranked_26 : decode cX11_ranked 26 = .ok (.goto 4, 3) := by decide +kernel
theorem dX11_ranked_29 : decode cX11_ranked 29 = .ok (.iconst 0, 1) := by decide +kernel
theorem dX11_ranked_30 : decode cX11_ranked 30 = .ok (.invokestatic 182, 3) := by decide +kernel
theorem dX11_ranked_33 : decode cX11_ranked 33 = .ok (.invokevirtual 159, 3) := by decide +kernel
theorem dX11_ranked_36 : decode cX11_ranked 36 = .ok (.ifCond .eq 5, 3) := by decide +kernel
theorem dX11_ranked_39 : decode cX11_ranked 39 = .ok (.iconst (-1), 1) := by decide +kernel
theorem dX11_ranked_40 : decode cX11_ranked 40 = .ok (.ireturn, 1) := by decide +kernel
theorem dX11_ranked_41 : decode cX11_ranked 41 = .ok (.iconst 0, 1) := by decide +kernel
theorem dX11_ranked_42 : decode cX11_ranked 42 = .ok (.istore_n 3, 1) := by decide +kernel
theorem dX11_ranked_43 : decode cX11_ranked 43 = .ok (.iload_n 3, 1) := by decide +kernel
theorem dX11_ranked_44 : decode cX11_ranked 44 = .ok (.aload_n 0, 1) := by decide +kernel
theorem dX11_ranked_45 : decode cX11_ranked 45 = .ok (.getfield 17, 3) := by decide +kernel
theorem dX11_ranked_48 : decode cX11_ranked 48 = .ok (.iconst 0, 1) := by decide +kernel
theorem dX11_ranked_49 : decode cX11_ranked 49 = .ok (.iaload, 1) := by decide +kernel
theorem dX11_ranked_50 : decode cX11_ranked 50 = .ok (.if_icmp .ge 100, 3) := by decide +kernel
theorem dX11_ranked_53 : decode cX11_ranked 53 = .ok (.iconst 0, 1) := by decide +kernel
theorem dX11_ranked_54 : decode cX11_ranked 54 = .ok (.istore 4, 2) := by decide +kernel
theorem dX11_ranked_56 : decode cX11_ranked 56 = .ok (.aload_n 0, 1) := by decide +kernel
theorem dX11_ranked_57 : decode cX11_ranked 57 = .ok (.iload_n 3, 1) := by decide +kernel
theorem dX11_ranked_58 : decode cX11_ranked 58 = .ok (.iload_n 1, 1) := by decide +kernel
theorem dX11_ranked_59 : decode cX11_ranked 59 = .ok (.aload_n 0, 1) := by decide +kernel
theorem dX11_ranked_60 : decode cX11_ranked 60 = .ok (.iload_n 3, 1) := by decide +kernel
theorem dX11_ranked_61 : decode cX11_ranked 61 = .ok (.iload_n 1, 1) := by decide +kernel
theorem dX11_ranked_62 : decode cX11_ranked 62 = .ok (.invokevirtual 255, 3) := by decide +kernel
theorem dX11_ranked_65 : decode cX11_ranked 65 = .ok (.invokevirtual 204, 3) := by decide +kernel
theorem dX11_ranked_68 : decode cX11_ranked 68 = .ok (.istore 5, 2) := by decide +kernel
theorem dX11_ranked_70 : decode cX11_ranked 70 = .ok (.iconst 0, 1) := by decide +kernel
theorem dX11_ranked_71 : decode cX11_ranked 71 = .ok (.istore 6, 2) := by decide +kernel
theorem dX11_ranked_73 : decode cX11_ranked 73 = .ok (.iload 6, 2) := by decide +kernel
theorem dX11_ranked_75 : decode cX11_ranked 75 = .ok (.aload_n 0, 1) := by decide +kernel
theorem dX11_ranked_76 : decode cX11_ranked 76 = .ok (.getfield 17, 3) := by decide +kernel
theorem dX11_ranked_79 : decode cX11_ranked 79 = .ok (.iconst 0, 1) := by decide +kernel
theorem dX11_ranked_80 : decode cX11_ranked 80 = .ok (.iaload, 1) := by decide +kernel
theorem dX11_ranked_81 : decode cX11_ranked 81 = .ok (.if_icmp .ge 55, 3) := by decide +kernel
theorem dX11_ranked_84 : decode cX11_ranked 84 = .ok (.aload_n 0, 1) := by decide +kernel
theorem dX11_ranked_85 : decode cX11_ranked 85 = .ok (.iload 6, 2) := by decide +kernel
theorem dX11_ranked_87 : decode cX11_ranked 87 = .ok (.iload_n 1, 1) := by decide +kernel
theorem dX11_ranked_88 : decode cX11_ranked 88 = .ok (.aload_n 0, 1) := by decide +kernel
theorem dX11_ranked_89 : decode cX11_ranked 89 = .ok (.iload 6, 2) := by decide +kernel
theorem dX11_ranked_91 : decode cX11_ranked 91 = .ok (.iload_n 1, 1) := by decide +kernel
theorem dX11_ranked_92 : decode cX11_ranked 92 = .ok (.invokevirtual 255, 3) := by decide +kernel
theorem dX11_ranked_95 : decode cX11_ranked 95 = .ok (.invokevirtual 204, 3) := by decide +kernel
theorem dX11_ranked_98 : decode cX11_ranked 98 = .ok (.istore 7, 2) := by decide +kernel
theorem dX11_ranked_100 : decode cX11_ranked 100 = .ok (.iload 4, 2) := by decide +kernel
theorem dX11_ranked_102 : decode cX11_ranked 102 = .ok (.iload 7, 2) := by decide +kernel
theorem dX11_ranked_104 : decode cX11_ranked 104 = .ok (.iload 5, 2) := by decide +kernel
theorem dX11_ranked_106 : decode cX11_ranked 106 = .ok (.if_icmp .gt 16, 3) := by decide +kernel
theorem dX11_ranked_109 : decode cX11_ranked 109 = .ok (.iload 7, 2) := by decide +kernel
theorem dX11_ranked_111 : decode cX11_ranked 111 = .ok (.iload 5, 2) := by decide +kernel
theorem dX11_ranked_113 : decode cX11_ranked 113 = .ok (.if_icmp .ne 13, 3) := by decide +kernel
theorem dX11_ranked_116 : decode cX11_ranked 116 = .ok (.iload 6, 2) := by decide +kernel
theorem dX11_ranked_118 : decode cX11_ranked 118 = .ok (.iload_n 3, 1) := by decide +kernel
theorem dX11_ranked_119 : decode cX11_ranked 119 = .ok (.if_icmp .ge 7, 3) := by decide +kernel
theorem dX11_ranked_122 : decode cX11_ranked 122 = .ok (.iconst 1, 1) := by decide +kernel
theorem dX11_ranked_123 : decode cX11_ranked 123 = .ok (.goto 4, 3) := by decide +kernel
theorem dX11_ranked_126 : decode cX11_ranked 126 = .ok (.iconst 0, 1) := by decide +kernel
theorem dX11_ranked_127 : decode cX11_ranked 127 = .ok (.iadd, 1) := by decide +kernel
theorem dX11_ranked_128 : decode cX11_ranked 128 = .ok (.istore 4, 2) := by decide +kernel
theorem dX11_ranked_130 : decode cX11_ranked 130 = .ok (.iinc 6 1, 3) := by decide +kernel
theorem dX11_ranked_133 : decode cX11_ranked 133 = .ok (.goto (-60), 3) := by decide +kernel
theorem dX11_ranked_136 : decode cX11_ranked 136 = .ok (.iload 4, 2) := by decide +kernel
theorem dX11_ranked_138 : decode cX11_ranked 138 = .ok (.iload_n 2, 1) := by decide +kernel
theorem dX11_ranked_139 : decode cX11_ranked 139 = .ok (.if_icmp .ne 5, 3) := by decide +kernel
theorem dX11_ranked_142 : decode cX11_ranked 142 = .ok (.iload_n 3, 1) := by decide +kernel
theorem dX11_ranked_143 : decode cX11_ranked 143 = .ok (.ireturn, 1) := by decide +kernel
theorem dX11_ranked_144 : decode cX11_ranked 144 = .ok (.iinc 3 1, 3) := by decide +kernel
theorem dX11_ranked_147 : decode cX11_ranked 147 = .ok (.goto (-104), 3) := by decide +kernel
theorem dX11_ranked_150 : decode cX11_ranked 150 = .ok (.iconst (-1), 1) := by decide +kernel
theorem dX11_ranked_151 : decode cX11_ranked 151 = .ok (.ireturn, 1) := by decide +kernel
def lX11_ranked_0 : List (Nat × (Op ⊕ Nat)) := [(0, .inl (o_aload 0 1)), (1, .inl (o_aload 0 2)), (2, .inl (o_iload 1 3)), (3, .inl (o_callV fX11_isGame 1 11 6)), (6, .inl (o_if_eq 29 9)), (9, .inl (o_iload 2 10)), (10, .inl (o_pushI (nI 0) 11)), (11, .inl (o_aload 0 12)), (12, .inl (o_get 11 7 15)), (15, .inl (o_pushI (nI 0) 16)), (16, .inl (o_iald 17)), (17, .inl (o_pushI (nI 1) 18)), (18, .inl (o_isub 19)), (19, .inl (o_callS fX11_in 3 22)), (22, .inl (o_if_eq 29 25)), (25, .inl (o_pushI (nI 1) 26)), (26, .inl (o_goto 30)), (29, .inl (o_pushI (nI 0) 30)), (30, .inl (o_callS fX11_unless 1 33)), (33, .inl (o_callV fX11_isRefused 1 11 36)), (36, .inl (o_if_eq 41 39)), (39, .inl (o_pushI ((-1)) 40)), (40, .inr 0), (41, .inl (o_pushI (nI 0) 42)), (42, .inl (o_istore 3 43)), (43, .inl (o_iload 3 44)), (44, .inl (o_aload 0 45)), (45, .inl (o_get 11 7 48)), (48, .inl (o_pushI (nI 0) 49)), (49, .inl (o_iald 50)), (50, .inl (o_icmp_ge 150 53)), (53, .inl (o_pushI (nI 0) 54)), (54, .inl (o_istore 4 56)), (56, .inl (o_aload 0 57)), (57, .inl (o_iload 3 58)), (58, .inl (o_iload 1 59)), (59, .inl (o_aload 0 60)), (60, .inl (o_iload 3 61)), (61, .inl (o_iload 1 62)), (62, .inl (o_callV fX11_fullOf 2 11 65))]
def lX11_ranked_1 : List (Nat × (Op ⊕ Nat)) := [(65, .inl (o_callV fX11_worthOf 3 11 68)), (68, .inl (o_istore 5 70)), (70, .inl (o_pushI (nI 0) 71)), (71, .inl (o_istore 6 73)), (73, .inl (o_iload 6 75)), (75, .inl (o_aload 0 76)), (76, .inl (o_get 11 7 79)), (79, .inl (o_pushI (nI 0) 80)), (80, .inl (o_iald 81)), (81, .inl (o_icmp_ge 136 84)), (84, .inl (o_aload 0 85)), (85, .inl (o_iload 6 87)), (87, .inl (o_iload 1 88)), (88, .inl (o_aload 0 89)), (89, .inl (o_iload 6 91)), (91, .inl (o_iload 1 92)), (92, .inl (o_callV fX11_fullOf 2 11 95)), (95, .inl (o_callV fX11_worthOf 3 11 98)), (98, .inl (o_istore 7 100)), (100, .inl (o_iload 4 102)), (102, .inl (o_iload 7 104)), (104, .inl (o_iload 5 106)), (106, .inl (o_icmp_gt 122 109)), (109, .inl (o_iload 7 111)), (111, .inl (o_iload 5 113)), (113, .inl (o_icmp_ne 126 116)), (116, .inl (o_iload 6 118)), (118, .inl (o_iload 3 119)), (119, .inl (o_icmp_ge 126 122)), (122, .inl (o_pushI (nI 1) 123)), (123, .inl (o_goto 127)), (126, .inl (o_pushI (nI 0) 127)), (127, .inl (o_iadd 128)), (128, .inl (o_istore 4 130)), (130, .inl (o_iinc 6 (nI 1) 133)), (133, .inl (o_goto 73)), (136, .inl (o_iload 4 138)), (138, .inl (o_iload 2 139)), (139, .inl (o_icmp_ne 144 142)), (142, .inl (o_iload 3 143))]
def lX11_ranked_2 : List (Nat × (Op ⊕ Nat)) := [(143, .inr 0), (144, .inl (o_iinc 3 (nI 1) 147)), (147, .inl (o_goto 43)), (150, .inl (o_pushI ((-1)) 151)), (151, .inr 0)]
def lX11_ranked : List (Nat × (Op ⊕ Nat)) := lX11_ranked_0 ++ (lX11_ranked_1 ++ (lX11_ranked_2))
theorem qX11_ranked : yX11_ranked.cls = RX11 ∧ yX11_ranked.cls ≠ "java/lang/invoke/MethodHandle" ∧ yX11_ranked.cls ≠ "java/lang/invoke/VarHandle" ∧ (parseMethodDescriptor yX11_ranked.desc).map (fun d => d.parameters.length) = some 2 := by decide +kernel
set_option maxRecDepth 10000 in
theorem hX11_ranked_0 (l : Launch) {p : Program} {e : Env} {s : State} {m : MethodId} {args : Array Value} {below : List Frame} {meth : Method} {c : Code} {D : va_G} {ad adV : Nat → Nat} {cA : Nat → ClassId} {K : Kt} (C0 : Cx p s m args meth c D ad adV cA cX11_ranked 8 RX11) (hr : meth.sig.returnType = (some .int)) : ∀ q ∈ lX11_ranked_0, Sd p l e (rmd 2) s m args below meth c (MQ below (QQ D ad cA K) args s 0 0 (AA ad)) D ad cA 8 q.1 (opOf K q.2) := List.forall_mem_cons.mpr ⟨s_aload_n C0 dX11_ranked_0 rfl, List.forall_mem_cons.mpr ⟨s_aload_n C0 dX11_ranked_1 rfl, List.forall_mem_cons.mpr ⟨s_iload_n C0 dX11_ranked_2 rfl, List.forall_mem_cons.mpr ⟨s_callV (ci := 11) C0 (kX11_isGame l) dX11_ranked_3 rfl qX11_isGame tw7_14 tw7_16 twp_66 tw1_12 tw7_17 rfl (by decide) (by decide), List.forall_mem_cons.mpr ⟨s_if_eq C0 dX11_ranked_6 rfl, List.forall_mem_cons.mpr ⟨s_iload_n C0 dX11_ranked_9 rfl, List.forall_mem_cons.mpr ⟨s_iconst C0 dX11_ranked_10 rfl, List.forall_mem_cons.mpr ⟨s_aload_n C0 dX11_ranked_11 rfl, List.forall_mem_cons.mpr ⟨s_get (ci := 11) (k := 7) C0 dX11_ranked_12 inX11 rfl (by decide) tw6_18, List.forall_mem_cons.mpr ⟨s_iconst C0 dX11_ranked_15 rfl, List.forall_mem_cons.mpr ⟨s_iald C0 dX11_ranked_16, List.forall_mem_cons.mpr ⟨s_iconst C0 dX11_ranked_17 rfl, List.forall_mem_cons.mpr ⟨s_isub C0 dX11_ranked_18, List.forall_mem_cons.mpr ⟨s_callS C0 (kX11_in l) dX11_ranked_19 qX11_in tw6_112 tw6_113 tw1_12 tw6_114 rfl (by decide) (by decide), List.forall_mem_cons.mpr ⟨s_if_eq C0 dX11_ranked_22 rfl, List.forall_mem_cons.mpr ⟨s_iconst C0 dX11_ranked_25 rfl, List.forall_mem_cons.mpr ⟨s_goto C0 dX11_ranked_26 rfl, List.forall_mem_cons.mpr ⟨s_iconst C0 dX11_ranked_29 rfl, List.forall_mem_cons.mpr ⟨s_callS C0 (kX11_unless l) dX11_ranked_30 qX11_unless tw6_203 tw6_204 tw1_12 tw6_205 rfl (by decide) (by decide), List.forall_mem_cons.mpr ⟨s_callV (ci := 11) C0 (kX11_isRefused l) dX11_ranked_33 rfl qX11_isRefused tw6_118 tw6_120 twp_41 tw1_12 tw6_121 rfl (by decide) (by decide), List.forall_mem_cons.mpr ⟨s_if_eq C0 dX11_ranked_36 rfl, List.forall_mem_cons.mpr ⟨s_iconst C0 dX11_ranked_39 rfl, List.forall_mem_cons.mpr ⟨s_iret C0 hr dX11_ranked_40, List.forall_mem_cons.mpr ⟨s_iconst C0 dX11_ranked_41 rfl, List.forall_mem_cons.mpr ⟨s_istore_n C0 dX11_ranked_42 rfl (by decide), List.forall_mem_cons.mpr ⟨s_iload_n C0 dX11_ranked_43 rfl, List.forall_mem_cons.mpr ⟨s_aload_n C0 dX11_ranked_44 rfl, List.forall_mem_cons.mpr ⟨s_get (ci := 11) (k := 7) C0 dX11_ranked_45 inX11 rfl (by decide) tw6_18, List.forall_mem_cons.mpr ⟨s_iconst C0 dX11_ranked_48 rfl, List.forall_mem_cons.mpr ⟨s_iald C0 dX11_ranked_49, List.forall_mem_cons.mpr ⟨s_icmp_ge C0 dX11_ranked_50 rfl, List.forall_mem_cons.mpr ⟨s_iconst C0 dX11_ranked_53 rfl, List.forall_mem_cons.mpr ⟨s_istore C0 dX11_ranked_54 (by decide), List.forall_mem_cons.mpr ⟨s_aload_n C0 dX11_ranked_56 rfl, List.forall_mem_cons.mpr ⟨s_iload_n C0 dX11_ranked_57 rfl, List.forall_mem_cons.mpr ⟨s_iload_n C0 dX11_ranked_58 rfl, List.forall_mem_cons.mpr ⟨s_aload_n C0 dX11_ranked_59 rfl, List.forall_mem_cons.mpr ⟨s_iload_n C0 dX11_ranked_60 rfl, List.forall_mem_cons.mpr ⟨s_iload_n C0 dX11_ranked_61 rfl, List.forall_mem_cons.mpr ⟨s_callV (ci := 11) C0 (kX11_fullOf l) dX11_ranked_62 rfl qX11_fullOf tw7_97 tw7_99 twp_77 tw1_12 tw7_100 rfl (by decide) (by decide), fun _ h => absurd h List.not_mem_nil⟩⟩⟩⟩⟩⟩⟩⟩⟩⟩⟩⟩⟩⟩⟩⟩⟩⟩⟩⟩⟩⟩⟩⟩⟩⟩⟩⟩⟩⟩⟩⟩⟩⟩⟩⟩⟩⟩⟩⟩
set_option maxRecDepth 10000 in
theorem hX11_ranked_1 (l : Launch) {p : Program} {e : Env} {s : State} {m : MethodId} {args : Array Value} {below : List Frame} {meth : Method} {c : Code} {D : va_G} {ad adV : Nat → Nat} {cA : Nat → ClassId} {K : Kt} (C0 : Cx p s m args meth c D ad adV cA cX11_ranked 8 RX11) (hr : meth.sig.returnType = (some .int)) : ∀ q ∈ lX11_ranked_1, Sd p l e (rmd 2) s m args below meth c (MQ below (QQ D ad cA K) args s 0 0 (AA ad)) D ad cA 8 q.1 (opOf K q.2) := List.forall_mem_cons.mpr ⟨s_callV (ci := 11) C0 (kX11_worthOf l) dX11_ranked_65 rfl qX11_worthOf tw6_234 tw6_236 twp_62 tw1_12 tw6_237 rfl (by decide) (by decide), List.forall_mem_cons.mpr ⟨s_istore C0 dX11_ranked_68 (by decide), List.forall_mem_cons.mpr ⟨s_iconst C0 dX11_ranked_70 rfl, List.forall_mem_cons.mpr ⟨s_istore C0 dX11_ranked_71 (by decide), List.forall_mem_cons.mpr ⟨s_iload C0 dX11_ranked_73, List.forall_mem_cons.mpr ⟨s_aload_n C0 dX11_ranked_75 rfl, List.forall_mem_cons.mpr ⟨s_get (ci := 11) (k := 7) C0 dX11_ranked_76 inX11 rfl (by decide) tw6_18, List.forall_mem_cons.mpr ⟨s_iconst C0 dX11_ranked_79 rfl, List.forall_mem_cons.mpr ⟨s_iald C0 dX11_ranked_80, List.forall_mem_cons.mpr ⟨s_icmp_ge C0 dX11_ranked_81 rfl, List.forall_mem_cons.mpr ⟨s_aload_n C0 dX11_ranked_84 rfl, List.forall_mem_cons.mpr ⟨s_iload C0 dX11_ranked_85, List.forall_mem_cons.mpr ⟨s_iload_n C0 dX11_ranked_87 rfl, List.forall_mem_cons.mpr ⟨s_aload_n C0 dX11_ranked_88 rfl, List.forall_mem_cons.mpr ⟨s_iload C0 dX11_ranked_89, List.forall_mem_cons.mpr ⟨s_iload_n C0 dX11_ranked_91 rfl, List.forall_mem_cons.mpr ⟨s_callV (ci := 11) C0 (kX11_fullOf l) dX11_ranked_92 rfl qX11_fullOf tw7_97 tw7_99 twp_77 tw1_12 tw7_100 rfl (by decide) (by decide), List.forall_mem_cons.mpr ⟨s_callV (ci := 11) C0 (kX11_worthOf l) dX11_ranked_95 rfl qX11_worthOf tw6_234 tw6_236 twp_62 tw1_12 tw6_237 rfl (by decide) (by decide), List.forall_mem_cons.mpr ⟨s_istore C0 dX11_ranked_98 (by decide), List.forall_mem_cons.mpr ⟨s_iload C0 dX11_ranked_100, List.forall_mem_cons.mpr ⟨s_iload C0 dX11_ranked_102, List.forall_mem_cons.mpr ⟨s_iload C0 dX11_ranked_104, List.forall_mem_cons.mpr ⟨s_icmp_gt C0 dX11_ranked_106 rfl, List.forall_mem_cons.mpr ⟨s_iload C0 dX11_ranked_109, List.forall_mem_cons.mpr ⟨s_iload C0 dX11_ranked_111, List.forall_mem_cons.mpr ⟨s_icmp_ne C0 dX11_ranked_113 rfl, List.forall_mem_cons.mpr ⟨s_iload C0 dX11_ranked_116, List.forall_mem_cons.mpr ⟨s_iload_n C0 dX11_ranked_118 rfl, List.forall_mem_cons.mpr ⟨s_icmp_ge C0 dX11_ranked_119 rfl, List.forall_mem_cons.mpr ⟨s_iconst C0 dX11_ranked_122 rfl, List.forall_mem_cons.mpr ⟨s_goto C0 dX11_ranked_123 rfl, List.forall_mem_cons.mpr ⟨s_iconst C0 dX11_ranked_126 rfl, List.forall_mem_cons.mpr ⟨s_iadd C0 dX11_ranked_127, List.forall_mem_cons.mpr ⟨s_istore C0 dX11_ranked_128 (by decide), List.forall_mem_cons.mpr ⟨s_iinc C0 dX11_ranked_130 rfl (by decide), List.forall_mem_cons.mpr ⟨s_goto C0 dX11_ranked_133 rfl, List.forall_mem_cons.mpr ⟨s_iload C0 dX11_ranked_136, List.forall_mem_cons.mpr ⟨s_iload_n C0 dX11_ranked_138 rfl, List.forall_mem_cons.mpr ⟨s_icmp_ne C0 dX11_ranked_139 rfl, List.forall_mem_cons.mpr ⟨s_iload_n C0 dX11_ranked_142 rfl, fun _ h => absurd h List.not_mem_nil⟩⟩⟩⟩⟩⟩⟩⟩⟩⟩⟩⟩⟩⟩⟩⟩⟩⟩⟩⟩⟩⟩⟩⟩⟩⟩⟩⟩⟩⟩⟩⟩⟩⟩⟩⟩⟩⟩⟩⟩
set_option maxRecDepth 10000 in
theorem hX11_ranked_2 (l : Launch) {p : Program} {e : Env} {s : State} {m : MethodId} {args : Array Value} {below : List Frame} {meth : Method} {c : Code} {D : va_G} {ad adV : Nat → Nat} {cA : Nat → ClassId} {K : Kt} (C0 : Cx p s m args meth c D ad adV cA cX11_ranked 8 RX11) (hr : meth.sig.returnType = (some .int)) : ∀ q ∈ lX11_ranked_2, Sd p l e (rmd 2) s m args below meth c (MQ below (QQ D ad cA K) args s 0 0 (AA ad)) D ad cA 8 q.1 (opOf K q.2) := List.forall_mem_cons.mpr ⟨s_iret C0 hr dX11_ranked_143, List.forall_mem_cons.mpr ⟨s_iinc C0 dX11_ranked_144 rfl (by decide), List.forall_mem_cons.mpr ⟨s_goto C0 dX11_ranked_147 rfl, List.forall_mem_cons.mpr ⟨s_iconst C0 dX11_ranked_150 rfl, List.forall_mem_cons.mpr ⟨s_iret C0 hr dX11_ranked_151, fun _ h => absurd h List.not_mem_nil⟩⟩⟩⟩⟩
def fX11_ranked : Mf := mf 8 (fun K => tl K lX11_ranked)
theorem kX11_ranked (l : Launch) : Okm l yX11_ranked cX11_ranked 8 (some .int) 2 fX11_ranked := Okm_tl (own := RX11) (by decide +kernel) rfl (fun C0 hr => List.forall_mem_append.mpr ⟨hX11_ranked_0 l C0 hr, List.forall_mem_append.mpr ⟨hX11_ranked_1 l C0 hr, hX11_ranked_2 l C0 hr⟩⟩)
theorem dX11_extra_0 : decode cX11_extra 0 = .ok (.aload_n 0, 1) := by decide +kernel
theorem dX11_extra_1 : decode cX11_extra 1 = .ok (.aload_n 0, 1) := by decide +kernel
theorem dX11_extra_2 : decode cX11_extra 2 = .ok (.iload_n 1, 1) := by decide +kernel
theorem dX11_extra_3 : decode cX11_extra 3 = .ok (.invokevirtual 217, 3) := by decide +kernel
theorem dX11_extra_6 : decode cX11_extra 6 = .ok (.invokestatic 182, 3) := by decide +kernel
theorem dX11_extra_9 : decode cX11_extra 9 = .ok (.invokevirtual 159, 3) := by decide +kernel
theorem dX11_extra_12 : decode cX11_extra 12 = .ok (.ifCond .eq 5, 3) := by decide +kernel
theorem dX11_extra_15 : decode cX11_extra 15 = .ok (.iconst (-1), 1) := by decide +kernel
theorem dX11_extra_16 : decode cX11_extra 16 = .ok (.ireturn, 1) := by decide +kernel
theorem dX11_extra_17 : decode cX11_extra 17 = .ok (.iconst 0, 1) := by decide +kernel
theorem dX11_extra_18 : decode cX11_extra 18 = .ok (.istore_n 2, 1) := by decide +kernel
theorem dX11_extra_19 : decode cX11_extra 19 = .ok (.iconst 0, 1) := by decide +kernel
theorem dX11_extra_20 : decode cX11_extra 20 = .ok (.istore_n 3, 1) := by decide +kernel
theorem dX11_extra_21 : decode cX11_extra 21 = .ok (.iload_n 3, 1) := by decide +kernel
theorem dX11_extra_22 : decode cX11_extra 22 = .ok (.aload_n 0, 1) := by decide +kernel
theorem dX11_extra_23 : decode cX11_extra 23 = .ok (.getfield 17, 3) := by decide +kernel
theorem dX11_extra_26 : decode cX11_extra 26 = .ok (.iconst 0, 1) := by decide +kernel
theorem dX11_extra_27 : decode cX11_extra 27 = .ok (.iaload, 1) := by decide +kernel
theorem dX11_extra_28 : decode cX11_extra 28 = .ok (.if_icmp .ge 53, 3) := by decide +kernel
theorem dX11_extra_31 : decode cX11_extra 31 = .ok (.aload_n 0, 1) := by decide +kernel
theorem dX11_extra_32 : decode cX11_extra 32 = .ok (.getfield 17, 3) := by decide +kernel
theorem dX11_extra_35 : decode cX11_extra 35 = .ok (.bipush 106, 2) := by decide +kernel
theorem dX11_extra_37 : decode cX11_extra 37 = .ok (.iload_n 1, 1) := by decide +kernel
theorem dX11_extra_38 : decode cX11_extra 38 = .ok (.iadd, 1) := by decide +kernel
theorem dX11_extra_39 : decode cX11_extra 39 = .ok (.iaload, 1) := by decide +kernel
theorem dX11_extra_40 : decode cX11_extra 40 = .ok (.iconst 3, 1) := by decide +kernel
theorem dX11_extra_41 : decode cX11_extra 41 = .ok (.if_icmp .ge 40, 3) := by decide +kernel
theorem dX11_extra_44 : decode cX11_extra 44 = .ok (.iload_n 2, 1) := by decide +kernel
theorem dX11_extra_45 : decode cX11_extra 45 = .ok (.aload_n 0, 1) := by decide +kernel
theorem dX11_extra_46 : decode cX11_extra 46 = .ok (.iload_n 3, 1) := by decide +kernel
theorem dX11_extra_47 : decode cX11_extra 47 = .ok (.iload_n 1, 1) := by decide +kernel
theorem dX11_extra_48 : decode cX11_extra 48 = .ok (.invokevirtual 242, 3) := by decide +kernel
theorem dX11_extra_51 : decode cX11_extra 51 = .ok (.ifCond .eq 7, 3) := by decide +kernel
theorem dX11_extra_54 : decode cX11_extra 54 = .ok (.iconst 0, 1) := by decide +kernel
theorem dX11_extra_55 : decode cX11_extra 55 = .ok (.goto 18, 3) := by decide +kernel
theorem dX11_extra_58 : decode cX11_extra 58 = .ok (.aload_n 0, 1) := by decide +kernel
theorem dX11_extra_59 : decode cX11_extra 59 = .ok (.iload_n 3, 1) := by decide +kernel
theorem dX11_extra_60 : decode cX11_extra 60 = .ok (.iload_n 1, 1) := by decide +kernel
theorem dX11_extra_61 : decode cX11_extra 61 = .ok (.aload_n 0, 1) := by decide +kernel
theorem dX11_extra_62 : decode cX11_extra 62 = .ok (.iload_n 1, 1) := by decide +kernel
theorem dX11_extra_63 : decode cX11_extra 63 = .ok (.invokevirtual 220, 3) := by decide +kernel
theorem dX11_extra_66 : decode cX11_extra 66 = .ok (.sipush 200, 3) := by decide +kernel
theorem dX11_extra_69 : decode cX11_extra 69 = .ok (.iadd, 1) := by decide +kernel
theorem dX11_extra_70 : decode cX11_extra 70 = .ok (.invokevirtual 246, 3) := by decide +kernel
theorem dX11_extra_73 : decode cX11_extra 73 = .ok (.iadd, 1) := by decide +kernel
theorem dX11_extra_74 : decode cX11_extra 74 = .ok (.istore_n 2, 1) := by decide +kernel
theorem dX11_extra_75 : decode cX11_extra 75 = .ok (.iinc 3 1, 3) := by decide +kernel
theorem dX11_extra_78 : decode cX11_extra 78 = .ok (.goto (-57), 3) := by decide +kernel
theorem dX11_extra_81 : decode cX11_extra 81 = .ok (.iload_n 2, 1) := by decide +kernel
theorem dX11_extra_82 : decode cX11_extra 82 = .ok (.ireturn, 1) := by decide +kernel
def lX11_extra_0 : List (Nat × (Op ⊕ Nat)) := [(0, .inl (o_aload 0 1)), (1, .inl (o_aload 0 2)), (2, .inl (o_iload 1 3)), (3, .inl (o_callV fX11_isGame 1 11 6)), (6, .inl (o_callS fX11_unless 1 9)), (9, .inl (o_callV fX11_isRefused 1 11 12)), (12, .inl (o_if_eq 17 15)), (15, .inl (o_pushI ((-1)) 16)), (16, .inr 0), (17, .inl (o_pushI (nI 0) 18)), (18, .inl (o_istore 2 19)), (19, .inl (o_pushI (nI 0) 20)), (20, .inl (o_istore 3 21)), (21, .inl (o_iload 3 22)), (22, .inl (o_aload 0 23)), (23, .inl (o_get 11 7 26)), (26, .inl (o_pushI (nI 0) 27)), (27, .inl (o_iald 28)), (28, .inl (o_icmp_ge 81 31)), (31, .inl (o_aload 0 32)), (32, .inl (o_get 11 7 35)), (35, .inl (o_pushI (nI 106) 37)), (37, .inl (o_iload 1 38)), (38, .inl (o_iadd 39)), (39, .inl (o_iald 40)), (40, .inl (o_pushI (nI 3) 41)), (41, .inl (o_icmp_ge 81 44)), (44, .inl (o_iload 2 45)), (45, .inl (o_aload 0 46)), (46, .inl (o_iload 3 47)), (47, .inl (o_iload 1 48)), (48, .inl (o_callV fX11_isIn 2 11 51)), (51, .inl (o_if_eq 58 54)), (54, .inl (o_pushI (nI 0) 55)), (55, .inl (o_goto 73)), (58, .inl (o_aload 0 59)), (59, .inl (o_iload 3 60)), (60, .inl (o_iload 1 61)), (61, .inl (o_aload 0 62)), (62, .inl (o_iload 1 63))]
def lX11_extra_1 : List (Nat × (Op ⊕ Nat)) := [(63, .inl (o_callV fX11_leftOf 1 11 66)), (66, .inl (o_pushI (nI 200) 69)), (69, .inl (o_iadd 70)), (70, .inl (o_callV fX11_mostUpTo 3 11 73)), (73, .inl (o_iadd 74)), (74, .inl (o_istore 2 75)), (75, .inl (o_iinc 3 (nI 1) 78)), (78, .inl (o_goto 21)), (81, .inl (o_iload 2 82)), (82, .inr 0)]
def lX11_extra : List (Nat × (Op ⊕ Nat)) := lX11_extra_0 ++ (lX11_extra_1)
theorem qX11_extra : yX11_extra.cls = RX11 ∧ yX11_extra.cls ≠ "java/lang/invoke/MethodHandle" ∧ yX11_extra.cls ≠ "java/lang/invoke/VarHandle" ∧ (parseMethodDescriptor yX11_extra.desc).map (fun d => d.parameters.length) = some 1 := by decide +kernel
set_option maxRecDepth 10000 in
theorem hX11_extra_0 (l : Launch) {p : Program} {e : Env} {s : State} {m : MethodId} {args : Array Value} {below : List Frame} {meth : Method} {c : Code} {D : va_G} {ad adV : Nat → Nat} {cA : Nat → ClassId} {K : Kt} (C0 : Cx p s m args meth c D ad adV cA cX11_extra 4 RX11) (hr : meth.sig.returnType = (some .int)) : ∀ q ∈ lX11_extra_0, Sd p l e (rmd 4) s m args below meth c (MQ below (QQ D ad cA K) args s 0 0 (AA ad)) D ad cA 4 q.1 (opOf K q.2) := List.forall_mem_cons.mpr ⟨s_aload_n C0 dX11_extra_0 rfl, List.forall_mem_cons.mpr ⟨s_aload_n C0 dX11_extra_1 rfl, List.forall_mem_cons.mpr ⟨s_iload_n C0 dX11_extra_2 rfl, List.forall_mem_cons.mpr ⟨s_callV (ci := 11) C0 (kX11_isGame l) dX11_extra_3 rfl qX11_isGame tw7_14 tw7_16 twp_66 tw1_12 tw7_17 rfl (by decide) (by decide), List.forall_mem_cons.mpr ⟨s_callS C0 (kX11_unless l) dX11_extra_6 qX11_unless tw6_203 tw6_204 tw1_12 tw6_205 rfl (by decide) (by decide), List.forall_mem_cons.mpr ⟨s_callV (ci := 11) C0 (kX11_isRefused l) dX11_extra_9 rfl qX11_isRefused tw6_118 tw6_120 twp_41 tw1_12 tw6_121 rfl (by decide) (by decide), List.forall_mem_cons.mpr ⟨s_if_eq C0 dX11_extra_12 rfl, List.forall_mem_cons.mpr ⟨s_iconst C0 dX11_extra_15 rfl, List.forall_mem_cons.mpr ⟨s_iret C0 hr dX11_extra_16, List.forall_mem_cons.mpr ⟨s_iconst C0 dX11_extra_17 rfl, List.forall_mem_cons.mpr ⟨s_istore_n C0 dX11_extra_18 rfl (by decide), List.forall_mem_cons.mpr ⟨s_iconst C0 dX11_extra_19 rfl, List.forall_mem_cons.mpr ⟨s_istore_n C0 dX11_extra_20 rfl (by decide), List.forall_mem_cons.mpr ⟨s_iload_n C0 dX11_extra_21 rfl, List.forall_mem_cons.mpr ⟨s_aload_n C0 dX11_extra_22 rfl, List.forall_mem_cons.mpr ⟨s_get (ci := 11) (k := 7) C0 dX11_extra_23 inX11 rfl (by decide) tw6_18, List.forall_mem_cons.mpr ⟨s_iconst C0 dX11_extra_26 rfl, List.forall_mem_cons.mpr ⟨s_iald C0 dX11_extra_27, List.forall_mem_cons.mpr ⟨s_icmp_ge C0 dX11_extra_28 rfl, List.forall_mem_cons.mpr ⟨s_aload_n C0 dX11_extra_31 rfl, List.forall_mem_cons.mpr ⟨s_get (ci := 11) (k := 7) C0 dX11_extra_32 inX11 rfl (by decide) tw6_18, List.forall_mem_cons.mpr ⟨s_bipush C0 dX11_extra_35 (by decide +kernel), List.forall_mem_cons.mpr ⟨s_iload_n C0 dX11_extra_37 rfl, List.forall_mem_cons.mpr ⟨s_iadd C0 dX11_extra_38, List.forall_mem_cons.mpr ⟨s_iald C0 dX11_extra_39, List.forall_mem_cons.mpr ⟨s_iconst C0 dX11_extra_40 rfl, List.forall_mem_cons.mpr ⟨s_icmp_ge C0 dX11_extra_41 rfl, List.forall_mem_cons.mpr ⟨s_iload_n C0 dX11_extra_44 rfl, List.forall_mem_cons.mpr ⟨s_aload_n C0 dX11_extra_45 rfl, List.forall_mem_cons.mpr ⟨s_iload_n C0 dX11_extra_46 rfl, List.forall_mem_cons.mpr ⟨s_iload_n C0 dX11_extra_47 rfl, List.forall_mem_cons.mpr ⟨s_callV (ci := 11) C0 (kX11_isIn l) dX11_extra_48 rfl qX11_isIn tw7_74 tw7_76 twp_75 tw1_12 tw7_77 rfl (by decide) (by decide), List.forall_mem_cons.mpr ⟨s_if_eq C0 dX11_extra_51 rfl, List.forall_mem_cons.mpr ⟨s_iconst C0 dX11_extra_54 rfl, List.forall_mem_cons.mpr ⟨s_goto C0 dX11_extra_55 rfl, List.forall_mem_cons.mpr ⟨s_aload_n C0 dX11_extra_58 rfl, List.forall_mem_cons.mpr ⟨s_iload_n C0 dX11_extra_59 rfl, List.forall_mem_cons.mpr ⟨s_iload_n C0 dX11_extra_60 rfl, List.forall_mem_cons.mpr ⟨s_aload_n C0 dX11_extra_61 rfl, List.forall_mem_cons.mpr ⟨s_iload_n C0 dX11_extra_62 rfl, fun _ h => absurd h List.not_mem_nil⟩⟩⟩⟩⟩⟩⟩⟩⟩⟩⟩⟩⟩⟩⟩⟩⟩⟩⟩⟩⟩⟩⟩⟩⟩⟩⟩⟩⟩⟩⟩⟩⟩⟩⟩⟩⟩⟩⟩⟩
set_option maxRecDepth 10000 in
theorem hX11_extra_1 (l : Launch) {p : Program} {e : Env} {s : State} {m : MethodId} {args : Array Value} {below : List Frame} {meth : Method} {c : Code} {D : va_G} {ad adV : Nat → Nat} {cA : Nat → ClassId} {K : Kt} (C0 : Cx p s m args meth c D ad adV cA cX11_extra 4 RX11) (hr : meth.sig.returnType = (some .int)) : ∀ q ∈ lX11_extra_1, Sd p l e (rmd 4) s m args below meth c (MQ below (QQ D ad cA K) args s 0 0 (AA ad)) D ad cA 4 q.1 (opOf K q.2) := List.forall_mem_cons.mpr ⟨s_callV (ci := 11) C0 (kX11_leftOf l) dX11_extra_63 rfl qX11_leftOf tw7_18 tw7_20 twp_67 tw1_12 tw7_21 rfl (by decide) (by decide), List.forall_mem_cons.mpr ⟨s_sipush C0 dX11_extra_66 (by decide +kernel), List.forall_mem_cons.mpr ⟨s_iadd C0 dX11_extra_69, List.forall_mem_cons.mpr ⟨s_callV (ci := 11) C0 (kX11_mostUpTo l) dX11_extra_70 rfl qX11_mostUpTo tw7_78 tw7_80 twp_76 tw1_12 tw7_81 rfl (by decide) (by decide), List.forall_mem_cons.mpr ⟨s_iadd C0 dX11_extra_73, List.forall_mem_cons.mpr ⟨s_istore_n C0 dX11_extra_74 rfl (by decide), List.forall_mem_cons.mpr ⟨s_iinc C0 dX11_extra_75 rfl (by decide), List.forall_mem_cons.mpr ⟨s_goto C0 dX11_extra_78 rfl, List.forall_mem_cons.mpr ⟨s_iload_n C0 dX11_extra_81 rfl, List.forall_mem_cons.mpr ⟨s_iret C0 hr dX11_extra_82, fun _ h => absurd h List.not_mem_nil⟩⟩⟩⟩⟩⟩⟩⟩⟩⟩
def fX11_extra : Mf := mf 4 (fun K => tl K lX11_extra)
theorem kX11_extra (l : Launch) : Okm l yX11_extra cX11_extra 4 (some .int) 4 fX11_extra := Okm_tl (own := RX11) (by decide +kernel) rfl (fun C0 hr => List.forall_mem_append.mpr ⟨hX11_extra_0 l C0 hr, hX11_extra_1 l C0 hr⟩)
theorem dX11_isRowAllowed_0 : decode cX11_isRowAllowed 0 = .ok (.iconst 0, 1) := by decide +kernel
theorem dX11_isRowAllowed_1 : decode cX11_isRowAllowed 1 = .ok (.istore_n 3, 1) := by decide +kernel
theorem dX11_isRowAllowed_2 : decode cX11_isRowAllowed 2 = .ok (.iload_n 3, 1) := by decide +kernel
theorem dX11_isRowAllowed_3 : decode cX11_isRowAllowed 3 = .ok (.iload_n 2, 1) := by decide +kernel
theorem dX11_isRowAllowed_4 : decode cX11_isRowAllowed 4 = .ok (.if_icmp .ge 131, 3) := by decide +kernel
theorem dX11_isRowAllowed_7 : decode cX11_isRowAllowed 7 = .ok (.aload_n 0, 1) := by decide +kernel
theorem dX11_isRowAllowed_8 : decode cX11_isRowAllowed 8 = .ok (.getfield 32, 3) := by decide +kernel
theorem dX11_isRowAllowed_11 : decode cX11_isRowAllowed 11 = .ok (.iload_n 3, 1) := by decide +kernel
theorem dX11_isRowAllowed_12 : decode cX11_isRowAllowed 12 = .ok (.iaload, 1) := by decide +kernel
theorem dX11_isRowAllowed_13 : decode cX11_isRowAllowed 13 = .ok (.istore 4, 2) := by decide +kernel
theorem dX11_isRowAllowed_15 : decode cX11_isRowAllowed 15 = .ok (.iload 4, 2) := by decide +kernel
theorem dX11_isRowAllowed_17 : decode cX11_isRowAllowed 17 = .ok (.aload_n 0, 1) := by decide +kernel
theorem dX11_isRowAllowed_18 : decode cX11_isRowAllowed 18 = .ok (.getfield 17, 3) := by decide +kernel
theorem dX11_isRowAllowed_21 : decode cX11_isRowAllowed 21 = .ok (.iconst 0, 1) := by decide +kernel
theorem dX11_isRowAllowed_22 : decode cX11_isRowAllowed 22 = .ok (.iaload, 1) := by decide +kernel
theorem dX11_isRowAllowed_23 : decode cX11_isRowAllowed 23 = .ok (.if_icmp .ne 6, 3) := by decide +kernel
theorem dX11_isRowAllowed_26 : decode cX11_isRowAllowed 26 = .ok (.goto 103, 3) := by decide +kernel
theorem dX11_isRowAllowed_29 : decode cX11_isRowAllowed 29 = .ok (.aload_n 0, 1) := by decide +kernel
theorem dX11_isRowAllowed_30 : decode cX11_isRowAllowed 30 = .ok (.iload 4, 2) := by decide +kernel
theorem dX11_isRowAllowed_32 : decode cX11_isRowAllowed 32 = .ok (.iload_n 1, 1) := by decide +kernel
theorem dX11_isRowAllowed_33 : decode cX11_isRowAllowed 33 = .ok (.iload_n 2, 1) := by decide +kernel
theorem dX11_isRowAllowed_34 : decode cX11_isRowAllowed 34 = .ok (.invokevirtual 232, 3) := by decide +kernel
theorem dX11_isRowAllowed_37 : decode cX11_isRowAllowed 37 = .ok (.iconst 0, 1) := by decide +kernel
theorem dX11_isRowAllowed_38 : decode cX11_isRowAllowed 38 = .ok (.istore 5, 2) := by decide +kernel
theorem dX11_isRowAllowed_40 : decode cX11_isRowAllowed 40 = .ok (.iload 5, 2) := by decide +kernel
theorem dX11_isRowAllowed_42 : decode cX11_isRowAllowed 42 = .ok (.iload_n 2, 1) := by decide +kernel
theorem dX11_isRowAllowed_43 : decode cX11_isRowAllowed 43 = .ok (.if_icmp .ge 55, 3) := by decide +kernel
theorem dX11_isRowAllowed_46 : decode cX11_isRowAllowed 46 = .ok (.aload_n 0, 1) := by decide +kernel
theorem dX11_isRowAllowed_47 : decode cX11_isRowAllowed 47 = .ok (.getfield 29, 3) := by decide +kernel
theorem dX11_isRowAllowed_50 : decode cX11_isRowAllowed 50 = .ok (.aload_n 0, 1) := by decide +kernel
theorem dX11_isRowAllowed_51 : decode cX11_isRowAllowed 51 = .ok (.getfield 17, 3) := by decide +kernel
theorem dX11_isRowAllowed_54 : decode cX11_isRowAllowed 54 = .ok (.bipush 46, 2) := by decide +kernel
theorem dX11_isRowAllowed_56 : decode cX11_isRowAllowed 56 = .ok (.iload_n 1, 1) := by decide +kernel
theorem dX11_isRowAllowed_57 : decode cX11_isRowAllowed 57 = .ok (.iadd, 1) := by decide +kernel
theorem dX11_isRowAllowed_58 : decode cX11_isRowAllowed 58 = .ok (.iload 5, 2) := by decide +kernel
theorem dX11_isRowAllowed_60 : decode cX11_isRowAllowed 60 = .ok (.iadd, 1) := by decide +kernel
theorem dX11_isRowAllowed_61 : decode cX11_isRowAllowed 61 = .ok (.iaload, 1) := by decide +kernel
theorem dX11_isRowAllowed_62 : decode cX11_isRowAllowed 62 = .ok (.dup2, 1) := by decide +kernel
theorem dX11_isRowAllowed_63 : decode cX11_isRowAllowed 63 = .ok (.iaload, 1) := by decide +kernel
theorem dX11_isRowAllowed_64 : decode cX11_isRowAllowed 64 = .ok (.aload_n 0, 1) := by decide +kernel
theorem dX11_isRowAllowed_65 : decode cX11_isRowAllowed 65 = .ok (.getfield 32, 3) := by decide +kernel
theorem dX11_isRowAllowed_68 : decode cX11_isRowAllowed 68 = .ok (.iload 5, 2) := by decide +kernel
theorem dX11_isRowAllowed_70 : decode cX11_isRowAllowed 70 = .ok (.iaload, 1) := by decide +kernel
theorem dX11_isRowAllowed_71 : decode cX11_isRowAllowed 71 = .ok (.iload 4, 2) := by decide +kernel
theorem dX11_isRowAllowed_73 : decode cX11_isRowAllowed 73 = .ok (.if_icmp .ne 16, 3) := by decide +kernel
theorem dX11_isRowAllowed_76 : decode cX11_isRowAllowed 76 = .ok (.aload_n 0, 1) := by decide +kernel
theorem dX11_isRowAllowed_77 : decode cX11_isRowAllowed 77 = .ok (.iload 4, 2) := by decide +kernel
theorem dX11_isRowAllowed_79 : decode cX11_isRowAllowed 79 = .ok (.iload_n 1, 1) := by decide +kernel
theorem dX11_isRowAllowed_80 : decode cX11_isRowAllowed 80 = .ok (.iload 5, 2) := by decide +kernel
theorem dX11_isRowAllowed_82 : decode cX11_isRowAllowed 82 = .ok (.iadd, 1) := by decide +kernel
theorem dX11_isRowAllowed_83 : decode cX11_isRowAllowed 83 = .ok (.invokevirtual 255, 3) := by decide +kernel
theorem dX11_isRowAllowed_86 : decode cX11_isRowAllowed 86 = .ok (.goto 4, 3) := by decide +kernel
theorem dX11_isRowAllowed_89 : decode cX11_isRowAllowed 89 = .ok (.iconst 0, 1) := by decide +kernel
theorem dX11_isRowAllowed_90 : decode cX11_isRowAllowed 90 = .ok (.iadd, 1) := by decide +kernel
theorem dX11_isRowAllowed_91 : decode cX11_isRowAllowed 91 = .ok (.iastore, 1) := by decide +kernel
theorem dX11_isRowAllowed_92 : decode cX11_isRowAllowed 92 = .ok (.iinc 5 1, 3) := by decide +kernel
theorem dX11_isRowAllowed_95 : decode cX11_isRowAllowed 95 = .ok (.goto (-55), 3) := by decide +kernel
theorem dX11_isRowAllowed_98 : decode cX11_isRowAllowed 98 = .ok (.aload_n 0, 1) := by decide +kernel
theorem dX11_isRowAllowed_99 : decode cX11_isRowAllowed 99 = .ok (.iload 4, 2) := by decide +kernel
theorem dX11_isRowAllowed_101 : decode cX11_isRowAllowed 101 = .ok (.aload_n 0, 1) := by decide +kernel
theorem dX11_isRowAllowed_102 : decode cX11_isRowAllowed 102 = .ok (.getfield 17, 3) := by decide +kernel
theorem dX11_isRowAllowed_105 : decode cX11_isRowAllowed 105 = .ok (.bipush 46, 2) := by decide +kernel
theorem dX11_isRowAllowed_107 : decode cX11_isRowAllowed 107 = .ok (.iload_n 1, 1) := by decide +kernel
theorem dX11_isRowAllowed_108 : decode cX11_isRowAllowed 108 = .ok (.iadd, 1) := by decide +kernel
theorem dX11_isRowAllowed_109 : decode cX11_isRowAllowed 109 = .ok (.iload_n 3, 1) := by decide +kernel
theorem dX11_isRowAllowed_110 : decode cX11_isRowAllowed 110 = .ok (.iadd, 1) := by decide +kernel
theorem dX11_isRowAllowed_111 : decode cX11_isRowAllowed 111 = .ok (.iaload, 1) := by decide +kernel
theorem dX11_isRowAllowed_112 : decode cX11_isRowAllowed 112 = .ok (.aload_n 0, 1) := by decide +kernel
theorem dX11_isRowAllowed_113 : decode cX11_isRowAllowed 113 = .ok (.iload 4, 2) := by decide +kernel
theorem dX11_isRowAllowed_115 : decode cX11_isRowAllowed 115 = .ok (.iload_n 1, 1) := by decide +kernel
theorem dX11_isRowAllowed_116 : decode cX11_isRowAllowed 116 = .ok (.iload_n 3, 1) := by decide +kernel
theorem dX11_isRowAllowed_117 : decode cX11_isRowAllowed 117 = .ok (.iadd, 1) := by decide +kernel
theorem dX11_isRowAllowed_118 : decode cX11_isRowAllowed 118 = .ok (.invokevirtual 255, 3) := by decide +kernel
theorem dX11_isRowAllowed_121 : decode cX11_isRowAllowed 121 = .ok (.invokevirtual 239, 3) := by decide +kernel
theorem dX11_isRowAllowed_124 : decode cX11_isRowAllowed 124 = .ok (.ifCond .ne 5, 3) := by decide +kernel
theorem dX11_isRowAllowed_127 : decode cX11_isRowAllowed 127 = .ok (.iconst 0, 1) := by decide +kernel
theorem dX11_isRowAllowed_128 : decode cX11_isRowAllowed 128 = .ok (.ireturn, 1) := by decide +kernel
theorem dX11_isRowAllowed_129 : decode cX11_isRowAllowed 129 = .ok (.iinc 3 1, 3) := by decide +kernel
theorem dX11_isRowAllowed_132 : decode cX11_isRowAllowed 132 = .ok (.goto (-130), 3) := by decide +kernel
theorem dX11_isRowAllowed_135 : decode cX11_isRowAllowed 135 = .ok (.iconst 1, 1) := by decide +kernel
theorem dX11_isRowAllowed_136 : decode cX11_isRowAllowed 136 = .ok (.ireturn, 1) := by decide +kernel
def lX11_isRowAllowed_0 : List (Nat × (Op ⊕ Nat)) := [(0, .inl (o_pushI (nI 0) 1)), (1, .inl (o_istore 3 2)), (2, .inl (o_iload 3 3)), (3, .inl (o_iload 2 4)), (4, .inl (o_icmp_ge 135 7)), (7, .inl (o_aload 0 8)), (8, .inl (o_get 11 20 11)), (11, .inl (o_iload 3 12)), (12, .inl (o_iald 13)), (13, .inl (o_istore 4 15)), (15, .inl (o_iload 4 17)), (17, .inl (o_aload 0 18)), (18, .inl (o_get 11 7 21)), (21, .inl (o_pushI (nI 0) 22)), (22, .inl (o_iald 23)), (23, .inl (o_icmp_ne 29 26)), (26, .inl (o_goto 129)), (29, .inl (o_aload 0 30)), (30, .inl (o_iload 4 32)), (32, .inl (o_iload 1 33)), (33, .inl (o_iload 2 34)), (34, .inl (o_callV fX11_laysDays 3 11 37)), (37, .inl (o_pushI (nI 0) 38)), (38, .inl (o_istore 5 40)), (40, .inl (o_iload 5 42)), (42, .inl (o_iload 2 43)), (43, .inl (o_icmp_ge 98 46)), (46, .inl (o_aload 0 47)), (47, .inl (o_get 11 19 50)), (50, .inl (o_aload 0 51)), (51, .inl (o_get 11 7 54)), (54, .inl (o_pushI (nI 46) 56)), (56, .inl (o_iload 1 57)), (57, .inl (o_iadd 58)), (58, .inl (o_iload 5 60)), (60, .inl (o_iadd 61)), (61, .inl (o_iald 62)), (62, .inl (o_dup2 63)), (63, .inl (o_iald 64)), (64, .inl (o_aload 0 65))]
def lX11_isRowAllowed_1 : List (Nat × (Op ⊕ Nat)) := [(65, .inl (o_get 11 20 68)), (68, .inl (o_iload 5 70)), (70, .inl (o_iald 71)), (71, .inl (o_iload 4 73)), (73, .inl (o_icmp_ne 89 76)), (76, .inl (o_aload 0 77)), (77, .inl (o_iload 4 79)), (79, .inl (o_iload 1 80)), (80, .inl (o_iload 5 82)), (82, .inl (o_iadd 83)), (83, .inl (o_callV fX11_fullOf 2 11 86)), (86, .inl (o_goto 90)), (89, .inl (o_pushI (nI 0) 90)), (90, .inl (o_iadd 91)), (91, .inl (o_iast 92)), (92, .inl (o_iinc 5 (nI 1) 95)), (95, .inl (o_goto 40)), (98, .inl (o_aload 0 99)), (99, .inl (o_iload 4 101)), (101, .inl (o_aload 0 102)), (102, .inl (o_get 11 7 105)), (105, .inl (o_pushI (nI 46) 107)), (107, .inl (o_iload 1 108)), (108, .inl (o_iadd 109)), (109, .inl (o_iload 3 110)), (110, .inl (o_iadd 111)), (111, .inl (o_iald 112)), (112, .inl (o_aload 0 113)), (113, .inl (o_iload 4 115)), (115, .inl (o_iload 1 116)), (116, .inl (o_iload 3 117)), (117, .inl (o_iadd 118)), (118, .inl (o_callV fX11_fullOf 2 11 121)), (121, .inl (o_callV fX11_isAllowed 3 11 124)), (124, .inl (o_if_ne 129 127)), (127, .inl (o_pushI (nI 0) 128)), (128, .inr 1), (129, .inl (o_iinc 3 (nI 1) 132)), (132, .inl (o_goto 2)), (135, .inl (o_pushI (nI 1) 136))]
def lX11_isRowAllowed_2 : List (Nat × (Op ⊕ Nat)) := [(136, .inr 1)]
def lX11_isRowAllowed : List (Nat × (Op ⊕ Nat)) := lX11_isRowAllowed_0 ++ (lX11_isRowAllowed_1 ++ (lX11_isRowAllowed_2))
theorem qX11_isRowAllowed : yX11_isRowAllowed.cls = RX11 ∧ yX11_isRowAllowed.cls ≠ "java/lang/invoke/MethodHandle" ∧ yX11_isRowAllowed.cls ≠ "java/lang/invoke/VarHandle" ∧ (parseMethodDescriptor yX11_isRowAllowed.desc).map (fun d => d.parameters.length) = some 2 := by decide +kernel
set_option maxRecDepth 10000 in
theorem hX11_isRowAllowed_0 (l : Launch) {p : Program} {e : Env} {s : State} {m : MethodId} {args : Array Value} {below : List Frame} {meth : Method} {c : Code} {D : va_G} {ad adV : Nat → Nat} {cA : Nat → ClassId} {K : Kt} (C0 : Cx p s m args meth c D ad adV cA cX11_isRowAllowed 6 RX11) (hr : meth.sig.returnType = (some .boolean)) : ∀ q ∈ lX11_isRowAllowed_0, Sd p l e (rmd 3) s m args below meth c (MQ below (QQ D ad cA K) args s 0 0 (AA ad)) D ad cA 6 q.1 (opOf K q.2) := List.forall_mem_cons.mpr ⟨s_iconst C0 dX11_isRowAllowed_0 rfl, List.forall_mem_cons.mpr ⟨s_istore_n C0 dX11_isRowAllowed_1 rfl (by decide), List.forall_mem_cons.mpr ⟨s_iload_n C0 dX11_isRowAllowed_2 rfl, List.forall_mem_cons.mpr ⟨s_iload_n C0 dX11_isRowAllowed_3 rfl, List.forall_mem_cons.mpr ⟨s_icmp_ge C0 dX11_isRowAllowed_4 rfl, List.forall_mem_cons.mpr ⟨s_aload_n C0 dX11_isRowAllowed_7 rfl, List.forall_mem_cons.mpr ⟨s_get (ci := 11) (k := 20) C0 dX11_isRowAllowed_8 inX11 rfl (by decide) tw6_31, List.forall_mem_cons.mpr ⟨s_iload_n C0 dX11_isRowAllowed_11 rfl, List.forall_mem_cons.mpr ⟨s_iald C0 dX11_isRowAllowed_12, List.forall_mem_cons.mpr ⟨s_istore C0 dX11_isRowAllowed_13 (by decide), List.forall_mem_cons.mpr ⟨s_iload C0 dX11_isRowAllowed_15, List.forall_mem_cons.mpr ⟨s_aload_n C0 dX11_isRowAllowed_17 rfl, List.forall_mem_cons.mpr ⟨s_get (ci := 11) (k := 7) C0 dX11_isRowAllowed_18 inX11 rfl (by decide) tw6_18, List.forall_mem_cons.mpr ⟨s_iconst C0 dX11_isRowAllowed_21 rfl, List.forall_mem_cons.mpr ⟨s_iald C0 dX11_isRowAllowed_22, List.forall_mem_cons.mpr ⟨s_icmp_ne C0 dX11_isRowAllowed_23 rfl, List.forall_mem_cons.mpr ⟨s_goto C0 dX11_isRowAllowed_26 rfl, List.forall_mem_cons.mpr ⟨s_aload_n C0 dX11_isRowAllowed_29 rfl, List.forall_mem_cons.mpr ⟨s_iload C0 dX11_isRowAllowed_30, List.forall_mem_cons.mpr ⟨s_iload_n C0 dX11_isRowAllowed_32 rfl, List.forall_mem_cons.mpr ⟨s_iload_n C0 dX11_isRowAllowed_33 rfl, List.forall_mem_cons.mpr ⟨s_callV (ci := 11) C0 (kX11_laysDays l) dX11_isRowAllowed_34 rfl qX11_laysDays tw7_42 tw7_44 twp_71 tw1_12 tw7_45 rfl (by decide) (by decide), List.forall_mem_cons.mpr ⟨s_iconst C0 dX11_isRowAllowed_37 rfl, List.forall_mem_cons.mpr ⟨s_istore C0 dX11_isRowAllowed_38 (by decide), List.forall_mem_cons.mpr ⟨s_iload C0 dX11_isRowAllowed_40, List.forall_mem_cons.mpr ⟨s_iload_n C0 dX11_isRowAllowed_42 rfl, List.forall_mem_cons.mpr ⟨s_icmp_ge C0 dX11_isRowAllowed_43 rfl, List.forall_mem_cons.mpr ⟨s_aload_n C0 dX11_isRowAllowed_46 rfl, List.forall_mem_cons.mpr ⟨s_get (ci := 11) (k := 19) C0 dX11_isRowAllowed_47 inX11 rfl (by decide) tw6_30, List.forall_mem_cons.mpr ⟨s_aload_n C0 dX11_isRowAllowed_50 rfl, List.forall_mem_cons.mpr ⟨s_get (ci := 11) (k := 7) C0 dX11_isRowAllowed_51 inX11 rfl (by decide) tw6_18, List.forall_mem_cons.mpr ⟨s_bipush C0 dX11_isRowAllowed_54 (by decide +kernel), List.forall_mem_cons.mpr ⟨s_iload_n C0 dX11_isRowAllowed_56 rfl, List.forall_mem_cons.mpr ⟨s_iadd C0 dX11_isRowAllowed_57, List.forall_mem_cons.mpr ⟨s_iload C0 dX11_isRowAllowed_58, List.forall_mem_cons.mpr ⟨s_iadd C0 dX11_isRowAllowed_60, List.forall_mem_cons.mpr ⟨s_iald C0 dX11_isRowAllowed_61, List.forall_mem_cons.mpr ⟨s_dup2 C0 dX11_isRowAllowed_62, List.forall_mem_cons.mpr ⟨s_iald C0 dX11_isRowAllowed_63, List.forall_mem_cons.mpr ⟨s_aload_n C0 dX11_isRowAllowed_64 rfl, fun _ h => absurd h List.not_mem_nil⟩⟩⟩⟩⟩⟩⟩⟩⟩⟩⟩⟩⟩⟩⟩⟩⟩⟩⟩⟩⟩⟩⟩⟩⟩⟩⟩⟩⟩⟩⟩⟩⟩⟩⟩⟩⟩⟩⟩⟩
set_option maxRecDepth 10000 in
theorem hX11_isRowAllowed_1 (l : Launch) {p : Program} {e : Env} {s : State} {m : MethodId} {args : Array Value} {below : List Frame} {meth : Method} {c : Code} {D : va_G} {ad adV : Nat → Nat} {cA : Nat → ClassId} {K : Kt} (C0 : Cx p s m args meth c D ad adV cA cX11_isRowAllowed 6 RX11) (hr : meth.sig.returnType = (some .boolean)) : ∀ q ∈ lX11_isRowAllowed_1, Sd p l e (rmd 3) s m args below meth c (MQ below (QQ D ad cA K) args s 0 0 (AA ad)) D ad cA 6 q.1 (opOf K q.2) := List.forall_mem_cons.mpr ⟨s_get (ci := 11) (k := 20) C0 dX11_isRowAllowed_65 inX11 rfl (by decide) tw6_31, List.forall_mem_cons.mpr ⟨s_iload C0 dX11_isRowAllowed_68, List.forall_mem_cons.mpr ⟨s_iald C0 dX11_isRowAllowed_70, List.forall_mem_cons.mpr ⟨s_iload C0 dX11_isRowAllowed_71, List.forall_mem_cons.mpr ⟨s_icmp_ne C0 dX11_isRowAllowed_73 rfl, List.forall_mem_cons.mpr ⟨s_aload_n C0 dX11_isRowAllowed_76 rfl, List.forall_mem_cons.mpr ⟨s_iload C0 dX11_isRowAllowed_77, List.forall_mem_cons.mpr ⟨s_iload_n C0 dX11_isRowAllowed_79 rfl, List.forall_mem_cons.mpr ⟨s_iload C0 dX11_isRowAllowed_80, List.forall_mem_cons.mpr ⟨s_iadd C0 dX11_isRowAllowed_82, List.forall_mem_cons.mpr ⟨s_callV (ci := 11) C0 (kX11_fullOf l) dX11_isRowAllowed_83 rfl qX11_fullOf tw7_97 tw7_99 twp_77 tw1_12 tw7_100 rfl (by decide) (by decide), List.forall_mem_cons.mpr ⟨s_goto C0 dX11_isRowAllowed_86 rfl, List.forall_mem_cons.mpr ⟨s_iconst C0 dX11_isRowAllowed_89 rfl, List.forall_mem_cons.mpr ⟨s_iadd C0 dX11_isRowAllowed_90, List.forall_mem_cons.mpr ⟨s_iast C0 dX11_isRowAllowed_91, List.forall_mem_cons.mpr ⟨s_iinc C0 dX11_isRowAllowed_92 rfl (by decide), List.forall_mem_cons.mpr ⟨s_goto C0 dX11_isRowAllowed_95 rfl, List.forall_mem_cons.mpr ⟨s_aload_n C0 dX11_isRowAllowed_98 rfl, List.forall_mem_cons.mpr ⟨s_iload C0 dX11_isRowAllowed_99, List.forall_mem_cons.mpr ⟨s_aload_n C0 dX11_isRowAllowed_101 rfl, List.forall_mem_cons.mpr ⟨s_get (ci := 11) (k := 7) C0 dX11_isRowAllowed_102 inX11 rfl (by decide) tw6_18, List.forall_mem_cons.mpr ⟨s_bipush C0 dX11_isRowAllowed_105 (by decide +kernel), List.forall_mem_cons.mpr ⟨s_iload_n C0 dX11_isRowAllowed_107 rfl, List.forall_mem_cons.mpr ⟨s_iadd C0 dX11_isRowAllowed_108, List.forall_mem_cons.mpr ⟨s_iload_n C0 dX11_isRowAllowed_109 rfl, List.forall_mem_cons.mpr ⟨s_iadd C0 dX11_isRowAllowed_110, List.forall_mem_cons.mpr ⟨s_iald C0 dX11_isRowAllowed_111, List.forall_mem_cons.mpr ⟨s_aload_n C0 dX11_isRowAllowed_112 rfl, List.forall_mem_cons.mpr ⟨s_iload C0 dX11_isRowAllowed_113, List.forall_mem_cons.mpr ⟨s_iload_n C0 dX11_isRowAllowed_115 rfl, List.forall_mem_cons.mpr ⟨s_iload_n C0 dX11_isRowAllowed_116 rfl, List.forall_mem_cons.mpr ⟨s_iadd C0 dX11_isRowAllowed_117, List.forall_mem_cons.mpr ⟨s_callV (ci := 11) C0 (kX11_fullOf l) dX11_isRowAllowed_118 rfl qX11_fullOf tw7_97 tw7_99 twp_77 tw1_12 tw7_100 rfl (by decide) (by decide), List.forall_mem_cons.mpr ⟨s_callV (ci := 11) C0 (kX11_isAllowed l) dX11_isRowAllowed_121 rfl qX11_isAllowed tw7_46 tw7_48 twp_72 tw1_12 tw7_49 rfl (by decide) (by decide), List.forall_mem_cons.mpr ⟨s_if_ne C0 dX11_isRowAllowed_124 rfl, List.forall_mem_cons.mpr ⟨s_iconst C0 dX11_isRowAllowed_127 rfl, List.forall_mem_cons.mpr ⟨s_zret C0 hr dX11_isRowAllowed_128, List.forall_mem_cons.mpr ⟨s_iinc C0 dX11_isRowAllowed_129 rfl (by decide), List.forall_mem_cons.mpr ⟨s_goto C0 dX11_isRowAllowed_132 rfl, List.forall_mem_cons.mpr ⟨s_iconst C0 dX11_isRowAllowed_135 rfl, fun _ h => absurd h List.not_mem_nil⟩⟩⟩⟩⟩⟩⟩⟩⟩⟩⟩⟩⟩⟩⟩⟩⟩⟩⟩⟩⟩⟩⟩⟩⟩⟩⟩⟩⟩⟩⟩⟩⟩⟩⟩⟩⟩⟩⟩⟩
set_option maxRecDepth 10000 in
theorem hX11_isRowAllowed_2 (l : Launch) {p : Program} {e : Env} {s : State} {m : MethodId} {args : Array Value} {below : List Frame} {meth : Method} {c : Code} {D : va_G} {ad adV : Nat → Nat} {cA : Nat → ClassId} {K : Kt} (C0 : Cx p s m args meth c D ad adV cA cX11_isRowAllowed 6 RX11) (hr : meth.sig.returnType = (some .boolean)) : ∀ q ∈ lX11_isRowAllowed_2, Sd p l e (rmd 3) s m args below meth c (MQ below (QQ D ad cA K) args s 0 0 (AA ad)) D ad cA 6 q.1 (opOf K q.2) := List.forall_mem_cons.mpr ⟨s_zret C0 hr dX11_isRowAllowed_136, fun _ h => absurd h List.not_mem_nil⟩
def fX11_isRowAllowed : Mf := mf 6 (fun K => tl K lX11_isRowAllowed)
theorem kX11_isRowAllowed (l : Launch) : Okm l yX11_isRowAllowed cX11_isRowAllowed 6 (some .boolean) 3 fX11_isRowAllowed := Okm_tl (own := RX11) (by decide +kernel) rfl (fun C0 hr => List.forall_mem_append.mpr ⟨hX11_isRowAllowed_0 l C0 hr, List.forall_mem_append.mpr ⟨hX11_isRowAllowed_1 l C0 hr, hX11_isRowAllowed_2 l C0 hr⟩⟩)
theorem dX11_rowWorth_0 : decode cX11_rowWorth 0 = .ok (.iconst 0, 1) := by decide +kernel
theorem dX11_rowWorth_1 : decode cX11_rowWorth 1 = .ok (.istore_n 3, 1) := by decide +kernel
theorem dX11_rowWorth_2 : decode cX11_rowWorth 2 = .ok (.iconst 0, 1) := by decide +kernel
theorem dX11_rowWorth_3 : decode cX11_rowWorth 3 = .ok (.istore 4, 2) := by decide +kernel
theorem dX11_rowWorth_5 : decode cX11_rowWorth 5 = .ok (.iload 4, 2) := by decide +kernel
theorem dX11_rowWorth_7 : decode cX11_rowWorth 7 = .ok (.iload_n 2, 1) := by decide +kernel
theorem dX11_rowWorth_8 : decode cX11_rowWorth 8 = .ok (.if_icmp .ge 62, 3) := by decide +kernel
theorem dX11_rowWorth_11 : decode cX11_rowWorth 11 = .ok (.iload_n 3, 1) := by decide +kernel
theorem dX11_rowWorth_12 : decode cX11_rowWorth 12 = .ok (.aload_n 0, 1) := by decide +kernel
theorem dX11_rowWorth_13 : decode cX11_rowWorth 13 = .ok (.getfield 32, 3) := by decide +kernel
theorem dX11_rowWorth_16 : decode cX11_rowWorth 16 = .ok (.iload 4, 2) := by decide +kernel
theorem dX11_rowWorth_18 : decode cX11_rowWorth 18 = .ok (.iaload, 1) := by decide +kernel
theorem dX11_rowWorth_19 : decode cX11_rowWorth 19 = .ok (.aload_n 0, 1) := by decide +kernel
theorem dX11_rowWorth_20 : decode cX11_rowWorth 20 = .ok (.getfield 17, 3) := by decide +kernel
theorem dX11_rowWorth_23 : decode cX11_rowWorth 23 = .ok (.iconst 0, 1) := by decide +kernel
theorem dX11_rowWorth_24 : decode cX11_rowWorth 24 = .ok (.iaload, 1) := by decide +kernel
theorem dX11_rowWorth_25 : decode cX11_rowWorth 25 = .ok (.if_icmp .ne 7, 3) := by decide +kernel
theorem dX11_rowWorth_28 : decode cX11_rowWorth 28 = .ok (.iconst 0, 1) := by decide +kernel
theorem dX11_rowWorth_29 : decode cX11_rowWorth 29 = .ok (.goto 33, 3) := by decide +kernel
theorem dX11_rowWorth_32 : decode cX11_rowWorth 32 = .ok (.aload_n 0, 1) := by decide +kernel
theorem dX11_rowWorth_33 : decode cX11_rowWorth 33 = .ok (.aload_n 0, 1) := by decide +kernel
theorem dX11_rowWorth_34 : decode cX11_rowWorth 34 = .ok (.getfield 32, 3) := by decide +kernel
theorem dX11_rowWorth_37 : decode cX11_rowWorth 37 = .ok (.iload 4, 2) := by decide +kernel
theorem dX11_rowWorth_39 : decode cX11_rowWorth 39 = .ok (.iaload, 1) := by decide +kernel
theorem dX11_rowWorth_40 : decode cX11_rowWorth 40 = .ok (.iload_n 1, 1) := by decide +kernel
theorem dX11_rowWorth_41 : decode cX11_rowWorth 41 = .ok (.iload 4, 2) := by decide +kernel
theorem dX11_rowWorth_43 : decode cX11_rowWorth 43 = .ok (.iadd, 1) := by decide +kernel
theorem dX11_rowWorth_44 : decode cX11_rowWorth 44 = .ok (.aload_n 0, 1) := by decide +kernel
theorem dX11_rowWorth_45 : decode cX11_rowWorth 45 = .ok (.aload_n 0, 1) := by decide +kernel
theorem dX11_rowWorth_46 : decode cX11_rowWorth 46 = .ok (.getfield 32, 3) := by decide +kernel
theorem dX11_rowWorth_49 : decode cX11_rowWorth 49 = .ok (.iload 4, 2) := by decide +kernel
theorem dX11_rowWorth_51 : decode cX11_rowWorth 51 = .ok (.iaload, 1) := by decide +kernel
theorem dX11_rowWorth_52 : decode cX11_rowWorth 52 = .ok (.iload_n 1, 1) := by decide +kernel
theorem dX11_rowWorth_53 : decode cX11_rowWorth 53 = .ok (.iload 4, 2) := by decide +kernel
theorem dX11_rowWorth_55 : decode cX11_rowWorth 55 = .ok (.iadd, 1) := by decide +kernel
theorem dX11_rowWorth_56 : decode cX11_rowWorth 56 = .ok (.invokevirtual 255, 3) := by decide +kernel
theorem dX11_rowWorth_59 : decode cX11_rowWorth 59 = .ok (.invokevirtual 204, 3) := by decide +kernel
theorem dX11_rowWorth_62 : decode cX11_rowWorth 62 = .ok (.iadd, 1) := by decide +kernel
theorem dX11_rowWorth_63 : decode cX11_rowWorth 63 = .ok (.istore_n 3, 1) := by decide +kernel
theorem dX11_rowWorth_64 : decode cX11_rowWorth 64 = .ok (.iinc 4 1, 3) := by decide +kernel
theorem dX11_rowWorth_67 : decode cX11_rowWorth 67 = .ok (.goto (-62), 3) := by decide +kernel
theorem dX11_rowWorth_70 : decode cX11_rowWorth 70 = .ok (.iload_n 3, 1) := by decide +kernel
theorem dX11_rowWorth_71 : decode cX11_rowWorth 71 = .ok (.ireturn, 1) := by decide +kernel
def lX11_rowWorth_0 : List (Nat × (Op ⊕ Nat)) := [(0, .inl (o_pushI (nI 0) 1)), (1, .inl (o_istore 3 2)), (2, .inl (o_pushI (nI 0) 3)), (3, .inl (o_istore 4 5)), (5, .inl (o_iload 4 7)), (7, .inl (o_iload 2 8)), (8, .inl (o_icmp_ge 70 11)), (11, .inl (o_iload 3 12)), (12, .inl (o_aload 0 13)), (13, .inl (o_get 11 20 16)), (16, .inl (o_iload 4 18)), (18, .inl (o_iald 19)), (19, .inl (o_aload 0 20)), (20, .inl (o_get 11 7 23)), (23, .inl (o_pushI (nI 0) 24)), (24, .inl (o_iald 25)), (25, .inl (o_icmp_ne 32 28)), (28, .inl (o_pushI (nI 0) 29)), (29, .inl (o_goto 62)), (32, .inl (o_aload 0 33)), (33, .inl (o_aload 0 34)), (34, .inl (o_get 11 20 37)), (37, .inl (o_iload 4 39)), (39, .inl (o_iald 40)), (40, .inl (o_iload 1 41)), (41, .inl (o_iload 4 43)), (43, .inl (o_iadd 44)), (44, .inl (o_aload 0 45)), (45, .inl (o_aload 0 46)), (46, .inl (o_get 11 20 49)), (49, .inl (o_iload 4 51)), (51, .inl (o_iald 52)), (52, .inl (o_iload 1 53)), (53, .inl (o_iload 4 55)), (55, .inl (o_iadd 56)), (56, .inl (o_callV fX11_fullOf 2 11 59)), (59, .inl (o_callV fX11_worthOf 3 11 62)), (62, .inl (o_iadd 63)), (63, .inl (o_istore 3 64)), (64, .inl (o_iinc 4 (nI 1) 67))]
def lX11_rowWorth_1 : List (Nat × (Op ⊕ Nat)) := [(67, .inl (o_goto 5)), (70, .inl (o_iload 3 71)), (71, .inr 0)]
def lX11_rowWorth : List (Nat × (Op ⊕ Nat)) := lX11_rowWorth_0 ++ (lX11_rowWorth_1)
theorem qX11_rowWorth : yX11_rowWorth.cls = RX11 ∧ yX11_rowWorth.cls ≠ "java/lang/invoke/MethodHandle" ∧ yX11_rowWorth.cls ≠ "java/lang/invoke/VarHandle" ∧ (parseMethodDescriptor yX11_rowWorth.desc).map (fun d => d.parameters.length) = some 2 := by decide +kernel
set_option maxRecDepth 10000 in
theorem hX11_rowWorth_0 (l : Launch) {p : Program} {e : Env} {s : State} {m : MethodId} {args : Array Value} {below : List Frame} {meth : Method} {c : Code} {D : va_G} {ad adV : Nat → Nat} {cA : Nat → ClassId} {K : Kt} (C0 : Cx p s m args meth c D ad adV cA cX11_rowWorth 5 RX11) (hr : meth.sig.returnType = (some .int)) : ∀ q ∈ lX11_rowWorth_0, Sd p l e (rmd 2) s m args below meth c (MQ below (QQ D ad cA K) args s 0 0 (AA ad)) D ad cA 5 q.1 (opOf K q.2) := List.forall_mem_cons.mpr ⟨s_iconst C0 dX11_rowWorth_0 rfl, List.forall_mem_cons.mpr ⟨s_istore_n C0 dX11_rowWorth_1 rfl (by decide), List.forall_mem_cons.mpr ⟨s_iconst C0 dX11_rowWorth_2 rfl, List.forall_mem_cons.mpr ⟨s_istore C0 dX11_rowWorth_3 (by decide), List.forall_mem_cons.mpr ⟨s_iload C0 dX11_rowWorth_5, List.forall_mem_cons.mpr ⟨s_iload_n C0 dX11_rowWorth_7 rfl, List.forall_mem_cons.mpr ⟨s_icmp_ge C0 dX11_rowWorth_8 rfl, List.forall_mem_cons.mpr ⟨s_iload_n C0 dX11_rowWorth_11 rfl, List.forall_mem_cons.mpr ⟨s_aload_n C0 dX11_rowWorth_12 rfl, List.forall_mem_cons.mpr ⟨s_get (ci := 11) (k := 20) C0 dX11_rowWorth_13 inX11 rfl (by decide) tw6_31, List.forall_mem_cons.mpr ⟨s_iload C0 dX11_rowWorth_16, List.forall_mem_cons.mpr ⟨s_iald C0 dX11_rowWorth_18, List.forall_mem_cons.mpr ⟨s_aload_n C0 dX11_rowWorth_19 rfl, List.forall_mem_cons.mpr ⟨s_get (ci := 11) (k := 7) C0 dX11_rowWorth_20 inX11 rfl (by decide) tw6_18, List.forall_mem_cons.mpr ⟨s_iconst C0 dX11_rowWorth_23 rfl, List.forall_mem_cons.mpr ⟨s_iald C0 dX11_rowWorth_24, List.forall_mem_cons.mpr ⟨s_icmp_ne C0 dX11_rowWorth_25 rfl, List.forall_mem_cons.mpr ⟨s_iconst C0 dX11_rowWorth_28 rfl, List.forall_mem_cons.mpr ⟨s_goto C0 dX11_rowWorth_29 rfl, List.forall_mem_cons.mpr ⟨s_aload_n C0 dX11_rowWorth_32 rfl, List.forall_mem_cons.mpr ⟨s_aload_n C0 dX11_rowWorth_33 rfl, List.forall_mem_cons.mpr ⟨s_get (ci := 11) (k := 20) C0 dX11_rowWorth_34 inX11 rfl (by decide) tw6_31, List.forall_mem_cons.mpr ⟨s_iload C0 dX11_rowWorth_37, List.forall_mem_cons.mpr ⟨s_iald C0 dX11_rowWorth_39, List.forall_mem_cons.mpr ⟨s_iload_n C0 dX11_rowWorth_40 rfl, List.forall_mem_cons.mpr ⟨s_iload C0 dX11_rowWorth_41, List.forall_mem_cons.mpr ⟨s_iadd C0 dX11_rowWorth_43, List.forall_mem_cons.mpr ⟨s_aload_n C0 dX11_rowWorth_44 rfl, List.forall_mem_cons.mpr ⟨s_aload_n C0 dX11_rowWorth_45 rfl, List.forall_mem_cons.mpr ⟨s_get (ci := 11) (k := 20) C0 dX11_rowWorth_46 inX11 rfl (by decide) tw6_31, List.forall_mem_cons.mpr ⟨s_iload C0 dX11_rowWorth_49, List.forall_mem_cons.mpr ⟨s_iald C0 dX11_rowWorth_51, List.forall_mem_cons.mpr ⟨s_iload_n C0 dX11_rowWorth_52 rfl, List.forall_mem_cons.mpr ⟨s_iload C0 dX11_rowWorth_53, List.forall_mem_cons.mpr ⟨s_iadd C0 dX11_rowWorth_55, List.forall_mem_cons.mpr ⟨s_callV (ci := 11) C0 (kX11_fullOf l) dX11_rowWorth_56 rfl qX11_fullOf tw7_97 tw7_99 twp_77 tw1_12 tw7_100 rfl (by decide) (by decide), List.forall_mem_cons.mpr ⟨s_callV (ci := 11) C0 (kX11_worthOf l) dX11_rowWorth_59 rfl qX11_worthOf tw6_234 tw6_236 twp_62 tw1_12 tw6_237 rfl (by decide) (by decide), List.forall_mem_cons.mpr ⟨s_iadd C0 dX11_rowWorth_62, List.forall_mem_cons.mpr ⟨s_istore_n C0 dX11_rowWorth_63 rfl (by decide), List.forall_mem_cons.mpr ⟨s_iinc C0 dX11_rowWorth_64 rfl (by decide), fun _ h => absurd h List.not_mem_nil⟩⟩⟩⟩⟩⟩⟩⟩⟩⟩⟩⟩⟩⟩⟩⟩⟩⟩⟩⟩⟩⟩⟩⟩⟩⟩⟩⟩⟩⟩⟩⟩⟩⟩⟩⟩⟩⟩⟩⟩
set_option maxRecDepth 10000 in
theorem hX11_rowWorth_1 (l : Launch) {p : Program} {e : Env} {s : State} {m : MethodId} {args : Array Value} {below : List Frame} {meth : Method} {c : Code} {D : va_G} {ad adV : Nat → Nat} {cA : Nat → ClassId} {K : Kt} (C0 : Cx p s m args meth c D ad adV cA cX11_rowWorth 5 RX11) (hr : meth.sig.returnType = (some .int)) : ∀ q ∈ lX11_rowWorth_1, Sd p l e (rmd 2) s m args below meth c (MQ below (QQ D ad cA K) args s 0 0 (AA ad)) D ad cA 5 q.1 (opOf K q.2) := List.forall_mem_cons.mpr ⟨s_goto C0 dX11_rowWorth_67 rfl, List.forall_mem_cons.mpr ⟨s_iload_n C0 dX11_rowWorth_70 rfl, List.forall_mem_cons.mpr ⟨s_iret C0 hr dX11_rowWorth_71, fun _ h => absurd h List.not_mem_nil⟩⟩⟩
def fX11_rowWorth : Mf := mf 5 (fun K => tl K lX11_rowWorth)
theorem kX11_rowWorth (l : Launch) : Okm l yX11_rowWorth cX11_rowWorth 5 (some .int) 2 fX11_rowWorth := Okm_tl (own := RX11) (by decide +kernel) rfl (fun C0 hr => List.forall_mem_append.mpr ⟨hX11_rowWorth_0 l C0 hr, hX11_rowWorth_1 l C0 hr⟩)
theorem dX11_nextRow_0 : decode cX11_nextRow 0 = .ok (.iload_n 1, 1) := by decide +kernel
theorem dX11_nextRow_1 : decode cX11_nextRow 1 = .ok (.iconst 1, 1) := by decide +kernel
theorem dX11_nextRow_2 : decode cX11_nextRow 2 = .ok (.isub, 1) := by decide +kernel
theorem dX11_nextRow_3 : decode cX11_nextRow 3 = .ok (.istore_n 2, 1) := by decide +kernel
theorem dX11_nextRow_4 : decode cX11_nextRow 4 = .ok (.iload_n 2, 1) := by decide +kernel
theorem dX11_nextRow_5 : decode cX11_nextRow 5 = .ok (.ifCond .lt 43, 3) := by decide +kernel
theorem dX11_nextRow_8 : decode cX11_nextRow 8 = .ok (.aload_n 0, 1) := by decide +kernel
theorem dX11_nextRow_9 : decode cX11_nextRow 9 = .ok (.getfield 32, 3) := by decide +kernel
theorem dX11_nextRow_12 : decode cX11_nextRow 12 = .ok (.iload_n 2, 1) := by decide +kernel
theorem dX11_nextRow_13 : decode cX11_nextRow 13 = .ok (.dup2, 1) := by decide +kernel
theorem dX11_nextRow_14 : decode cX11_nextRow 14 = .ok (.iaload, 1) := by decide +kernel
theorem dX11_nextRow_15 : decode cX11_nextRow 15 = .ok (.iconst 1, 1) := by decide +kernel
theorem dX11_nextRow_16 : decode cX11_nextRow 16 = .ok (.iadd, 1) := by decide +kernel
theorem dX11_nextRow_17 : decode cX11_nextRow 17 = .ok (.iastore, 1) := by decide +kernel
theorem dX11_nextRow_18 : decode cX11_nextRow 18 = .ok (.aload_n 0, 1) := by decide +kernel
theorem dX11_nextRow_19 : decode cX11_nextRow 19 = .ok (.getfield 32, 3) := by decide +kernel
theorem dX11_nextRow_22 : decode cX11_nextRow 22 = .ok (.iload_n 2, 1) := by decide +kernel
theorem dX11_nextRow_23 : decode cX11_nextRow 23 = .ok (.iaload, 1) := by decide +kernel
theorem dX11_nextRow_24 : decode cX11_nextRow 24 = .ok (.aload_n 0, 1) := by decide +kernel
theorem dX11_nextRow_25 : decode cX11_nextRow 25 = .ok (.getfield 17, 3) := by decide +kernel
theorem dX11_nextRow_28 : decode cX11_nextRow 28 = .ok (.iconst 0, 1) := by decide +kernel
theorem dX11_nextRow_29 : decode cX11_nextRow 29 = .ok (.iaload, 1) := by decide +kernel
theorem dX11_nextRow_30 : decode cX11_nextRow 30 = .ok (.if_icmp .gt 5, 3) := by decide +kernel
theorem dX11_nextRow_33 : decode cX11_nextRow 33 = .ok (.iconst 1, 1) := by decide +kernel
theorem dX11_nextRow_34 : decode cX11_nextRow 34 = .ok (.ireturn, 1) := by decide +kernel
theorem dX11_nextRow_35 : decode cX11_nextRow 35 = .ok (.aload_n 0, 1) := by decide +kernel
theorem dX11_nextRow_36 : decode cX11_nextRow 36 = .ok (.getfield 32, 3) := by decide +kernel
theorem dX11_nextRow_39 : decode cX11_nextRow 39 = .ok (.iload_n 2, 1) := by decide +kernel
theorem dX11_nextRow_40 : decode cX11_nextRow 40 = .ok (.iconst 0, 1) := by decide +kernel
theorem dX11_nextRow_41 : decode cX11_nextRow 41 = .ok (.iastore, 1) := by decide +kernel
theorem dX11_nextRow_42 : decode cX11_nextRow 42 = .ok (.iinc 2 (-1), 3) := by decide +kernel
theorem dX11_nextRow_45 : decode cX11_nextRow 45 = .ok (.goto (-41), 3) := by decide +kernel
theorem dX11_nextRow_48 : decode cX11_nextRow 48 = .ok (.iconst 0, 1) := by decide +kernel
theorem dX11_nextRow_49 : decode cX11_nextRow 49 = .ok (.ireturn, 1) := by decide +kernel
def lX11_nextRow : List (Nat × (Op ⊕ Nat)) := [(0, .inl (o_iload 1 1)), (1, .inl (o_pushI (nI 1) 2)), (2, .inl (o_isub 3)), (3, .inl (o_istore 2 4)), (4, .inl (o_iload 2 5)), (5, .inl (o_if_lt 48 8)), (8, .inl (o_aload 0 9)), (9, .inl (o_get 11 20 12)), (12, .inl (o_iload 2 13)), (13, .inl (o_dup2 14)), (14, .inl (o_iald 15)), (15, .inl (o_pushI (nI 1) 16)), (16, .inl (o_iadd 17)), (17, .inl (o_iast 18)), (18, .inl (o_aload 0 19)), (19, .inl (o_get 11 20 22)), (22, .inl (o_iload 2 23)), (23, .inl (o_iald 24)), (24, .inl (o_aload 0 25)), (25, .inl (o_get 11 7 28)), (28, .inl (o_pushI (nI 0) 29)), (29, .inl (o_iald 30)), (30, .inl (o_icmp_gt 35 33)), (33, .inl (o_pushI (nI 1) 34)), (34, .inr 1), (35, .inl (o_aload 0 36)), (36, .inl (o_get 11 20 39)), (39, .inl (o_iload 2 40)), (40, .inl (o_pushI (nI 0) 41)), (41, .inl (o_iast 42)), (42, .inl (o_iinc 2 ((-1)) 45)), (45, .inl (o_goto 4)), (48, .inl (o_pushI (nI 0) 49)), (49, .inr 1)]
theorem qX11_nextRow : yX11_nextRow.cls = RX11 ∧ yX11_nextRow.cls ≠ "java/lang/invoke/MethodHandle" ∧ yX11_nextRow.cls ≠ "java/lang/invoke/VarHandle" ∧ (parseMethodDescriptor yX11_nextRow.desc).map (fun d => d.parameters.length) = some 1 := by decide +kernel
set_option maxRecDepth 10000 in
theorem hX11_nextRow_0 (l : Launch) {p : Program} {e : Env} {s : State} {m : MethodId} {args : Array Value} {below : List Frame} {meth : Method} {c : Code} {D : va_G} {ad adV : Nat → Nat} {cA : Nat → ClassId} {K : Kt} (C0 : Cx p s m args meth c D ad adV cA cX11_nextRow 3 RX11) (hr : meth.sig.returnType = (some .boolean)) : ∀ q ∈ lX11_nextRow, Sd p l e (rmd 0) s m args below meth c (MQ below (QQ D ad cA K) args s 0 0 (AA ad)) D ad cA 3 q.1 (opOf K q.2) := List.forall_mem_cons.mpr ⟨s_iload_n C0 dX11_nextRow_0 rfl, List.forall_mem_cons.mpr ⟨s_iconst C0 dX11_nextRow_1 rfl, List.forall_mem_cons.mpr ⟨s_isub C0 dX11_nextRow_2, List.forall_mem_cons.mpr ⟨s_istore_n C0 dX11_nextRow_3 rfl (by decide), List.forall_mem_cons.mpr ⟨s_iload_n C0 dX11_nextRow_4 rfl, List.forall_mem_cons.mpr ⟨s_if_lt C0 dX11_nextRow_5 rfl, List.forall_mem_cons.mpr ⟨s_aload_n C0 dX11_nextRow_8 rfl, List.forall_mem_cons.mpr ⟨s_get (ci := 11) (k := 20) C0 dX11_nextRow_9 inX11 rfl (by decide) tw6_31, List.forall_mem_cons.mpr ⟨s_iload_n C0 dX11_nextRow_12 rfl, List.forall_mem_cons.mpr ⟨s_dup2 C0 dX11_nextRow_13, List.forall_mem_cons.mpr ⟨s_iald C0 dX11_nextRow_14, List.forall_mem_cons.mpr ⟨s_iconst C0 dX11_nextRow_15 rfl, List.forall_mem_cons.mpr ⟨s_iadd C0 dX11_nextRow_16, List.forall_mem_cons.mpr ⟨s_iast C0 dX11_nextRow_17, List.forall_mem_cons.mpr ⟨s_aload_n C0 dX11_nextRow_18 rfl, List.forall_mem_cons.mpr ⟨s_get (ci := 11) (k := 20) C0 dX11_nextRow_19 inX11 rfl (by decide) tw6_31, List.forall_mem_cons.mpr ⟨s_iload_n C0 dX11_nextRow_22 rfl, List.forall_mem_cons.mpr ⟨s_iald C0 dX11_nextRow_23, List.forall_mem_cons.mpr ⟨s_aload_n C0 dX11_nextRow_24 rfl, List.forall_mem_cons.mpr ⟨s_get (ci := 11) (k := 7) C0 dX11_nextRow_25 inX11 rfl (by decide) tw6_18, List.forall_mem_cons.mpr ⟨s_iconst C0 dX11_nextRow_28 rfl, List.forall_mem_cons.mpr ⟨s_iald C0 dX11_nextRow_29, List.forall_mem_cons.mpr ⟨s_icmp_gt C0 dX11_nextRow_30 rfl, List.forall_mem_cons.mpr ⟨s_iconst C0 dX11_nextRow_33 rfl, List.forall_mem_cons.mpr ⟨s_zret C0 hr dX11_nextRow_34, List.forall_mem_cons.mpr ⟨s_aload_n C0 dX11_nextRow_35 rfl, List.forall_mem_cons.mpr ⟨s_get (ci := 11) (k := 20) C0 dX11_nextRow_36 inX11 rfl (by decide) tw6_31, List.forall_mem_cons.mpr ⟨s_iload_n C0 dX11_nextRow_39 rfl, List.forall_mem_cons.mpr ⟨s_iconst C0 dX11_nextRow_40 rfl, List.forall_mem_cons.mpr ⟨s_iast C0 dX11_nextRow_41, List.forall_mem_cons.mpr ⟨s_iinc C0 dX11_nextRow_42 rfl (by decide), List.forall_mem_cons.mpr ⟨s_goto C0 dX11_nextRow_45 rfl, List.forall_mem_cons.mpr ⟨s_iconst C0 dX11_nextRow_48 rfl, List.forall_mem_cons.mpr ⟨s_zret C0 hr dX11_nextRow_49, fun _ h => absurd h List.not_mem_nil⟩⟩⟩⟩⟩⟩⟩⟩⟩⟩⟩⟩⟩⟩⟩⟩⟩⟩⟩⟩⟩⟩⟩⟩⟩⟩⟩⟩⟩⟩⟩⟩⟩⟩
def fX11_nextRow : Mf := mf 3 (fun K => tl K lX11_nextRow)
theorem kX11_nextRow (l : Launch) : Okm l yX11_nextRow cX11_nextRow 3 (some .boolean) 0 fX11_nextRow := Okm_tl (own := RX11) (by decide +kernel) rfl (fun C0 hr => hX11_nextRow_0 l C0 hr)
theorem dX11_laysBest_0 : decode cX11_laysBest 0 = .ok (.iconst 0, 1) := by decide +kernel
theorem dX11_laysBest_1 : decode cX11_laysBest 1 = .ok (.istore_n 3, 1) := by decide +kernel
theorem dX11_laysBest_2 : decode cX11_laysBest 2 = .ok (.iload_n 3, 1) := by decide +kernel
theorem dX11_laysBest_3 : decode cX11_laysBest 3 = .ok (.iload_n 2, 1) := by decide +kernel
theorem dX11_laysBest_4 : decode cX11_laysBest 4 = .ok (.if_icmp .ge 16, 3) := by decide +kernel
theorem dX11_laysBest_7 : decode cX11_laysBest 7 = .ok (.aload_n 0, 1) := by decide +kernel
theorem dX11_laysBest_8 : decode cX11_laysBest 8 = .ok (.getfield 32, 3) := by decide +kernel
theorem dX11_laysBest_11 : decode cX11_laysBest 11 = .ok (.iload_n 3, 1) := by decide +kernel
theorem dX11_laysBest_12 : decode cX11_laysBest 12 = .ok (.iconst 0, 1) := by decide +kernel
theorem dX11_laysBest_13 : decode cX11_laysBest 13 = .ok (.iastore, 1) := by decide +kernel
theorem dX11_laysBest_14 : decode cX11_laysBest 14 = .ok (.iinc 3 1, 3) := by decide +kernel
theorem dX11_laysBest_17 : decode cX11_laysBest 17 = .ok (.goto (-15), 3) := by decide +kernel
theorem dX11_laysBest_20 : decode cX11_laysBest 20 = .ok (.iconst (-1), 1) := by decide +kernel
theorem dX11_laysBest_21 : decode cX11_laysBest 21 = .ok (.istore_n 3, 1) := by decide +kernel
theorem dX11_laysBest_22 : decode cX11_laysBest 22 = .ok (.iconst 1, 1) := by decide +kernel
theorem dX11_laysBest_23 : decode cX11_laysBest 23 = .ok (.istore 4, 2) := by decide +kernel
theorem dX11_laysBest_25 : decode cX11_laysBest 25 = .ok (.iload 4, 2) := by decide +kernel
theorem dX11_laysBest_27 : decode cX11_laysBest 27 = .ok (.ifCond .eq 53, 3) := by decide +kernel
theorem dX11_laysBest_30 : decode cX11_laysBest 30 = .ok (.aload_n 0, 1) := by decide +kernel
theorem dX11_laysBest_31 : decode cX11_laysBest 31 = .ok (.iload_n 1, 1) := by decide +kernel
theorem dX11_laysBest_32 : decode cX11_laysBest 32 = .ok (.iload_n 2, 1) := by decide +kernel
theorem dX11_laysBest_33 : decode cX11_laysBest 33 = .ok (.invokevirtual 258, 3) := by decide +kernel
theorem dX11_laysBest_36 : decode cX11_laysBest 36 = .ok (.istore 5, 2) := by decide +kernel
theorem dX11_laysBest_38 : decode cX11_laysBest 38 = .ok (.iload 5, 2) := by decide +kernel
theorem dX11_laysBest_40 : decode cX11_laysBest 40 = .ok (.iload_n 3, 1) := by decide +kernel
theorem dX11_laysBest_41 : decode cX11_laysBest 41 = .ok (.if_icmp .le 29, 3) := by decide +kernel
theorem dX11_laysBest_44 : decode cX11_laysBest 44 = .ok (.aload_n 0, 1) := by decide +kernel
theorem dX11_laysBest_45 : decode cX11_laysBest 45 = .ok (.iload_n 1, 1) := by decide +kernel
theorem dX11_laysBest_46 : decode cX11_laysBest 46 = .ok (.iload_n 2, 1) := by decide +kernel
theorem dX11_laysBest_47 : decode cX11_laysBest 47 = .ok (.invokevirtual 261, 3) := by decide +kernel
theorem dX11_laysBest_50 : decode cX11_laysBest 50 = .ok (.ifCond .eq 20, 3) := by decide +kernel
theorem dX11_laysBest_53 : decode cX11_laysBest 53 = .ok (.iload 5, 2) := by decide +kernel
theorem dX11_laysBest_55 : decode cX11_laysBest 55 = .ok (.istore_n 3, 1) := by decide +kernel
theorem dX11_laysBest_56 : decode cX11_laysBest 56 = .ok (.aload_n 0, 1) := by decide +kernel
theorem dX11_laysBest_57 : decode cX11_laysBest 57 = .ok (.getfield 35, 3) := by decide +kernel
theorem dX11_laysBest_60 : decode cX11_laysBest 60 = .ok (.iconst 0, 1) := by decide +kernel
theorem dX11_laysBest_61 : decode cX11_laysBest 61 = .ok (.aload_n 0, 1) := by decide +kernel
theorem dX11_laysBest_62 : decode cX11_laysBest 62 = .ok (.getfield 32, 3) := by decide +kernel
theorem dX11_laysBest_65 : decode cX11_laysBest 65 = .ok (.iconst 0, 1) := by decide +kernel
theorem dX11_laysBest_66 : decode cX11_laysBest 66 = .ok (.iload_n 2, 1) := by decide +kernel
theorem dX11_laysBest_67 : decode cX11_laysBest 67 = .ok (.invokestatic 178, 3) := by decide +kernel
theorem dX11_laysBest_70 : decode cX11_laysBest 70 = .ok (.aload_n 0, 1) := by decide +kernel
theorem dX11_laysBest_71 : decode cX11_laysBest 71 = .ok (.iload_n 2, 1) := by decide +kernel
theorem dX11_laysBest_72 : decode cX11_laysBest 72 = .ok (.invokevirtual 264, 3) := by decide +kernel
theorem dX11_laysBest_75 : decode cX11_laysBest 75 = .ok (.istore 4, 2) := by decide +kernel
theorem dX11_laysBest_77 : decode cX11_laysBest 77 = .ok (.goto (-52), 3) := by decide +kernel
theorem dX11_laysBest_80 : decode cX11_laysBest 80 = .ok (.iload_n 3, 1) := by decide +kernel
theorem dX11_laysBest_81 : decode cX11_laysBest 81 = .ok (.ireturn, 1) := by decide +kernel
def lX11_laysBest_0 : List (Nat × (Op ⊕ Nat)) := [(0, .inl (o_pushI (nI 0) 1)), (1, .inl (o_istore 3 2)), (2, .inl (o_iload 3 3)), (3, .inl (o_iload 2 4)), (4, .inl (o_icmp_ge 20 7)), (7, .inl (o_aload 0 8)), (8, .inl (o_get 11 20 11)), (11, .inl (o_iload 3 12)), (12, .inl (o_pushI (nI 0) 13)), (13, .inl (o_iast 14)), (14, .inl (o_iinc 3 (nI 1) 17)), (17, .inl (o_goto 2)), (20, .inl (o_pushI ((-1)) 21)), (21, .inl (o_istore 3 22)), (22, .inl (o_pushI (nI 1) 23)), (23, .inl (o_istore 4 25)), (25, .inl (o_iload 4 27)), (27, .inl (o_if_eq 80 30)), (30, .inl (o_aload 0 31)), (31, .inl (o_iload 1 32)), (32, .inl (o_iload 2 33)), (33, .inl (o_callV fX11_rowWorth 2 11 36)), (36, .inl (o_istore 5 38)), (38, .inl (o_iload 5 40)), (40, .inl (o_iload 3 41)), (41, .inl (o_icmp_le 70 44)), (44, .inl (o_aload 0 45)), (45, .inl (o_iload 1 46)), (46, .inl (o_iload 2 47)), (47, .inl (o_callV fX11_isRowAllowed 2 11 50)), (50, .inl (o_if_eq 70 53)), (53, .inl (o_iload 5 55)), (55, .inl (o_istore 3 56)), (56, .inl (o_aload 0 57)), (57, .inl (o_get 11 21 60)), (60, .inl (o_pushI (nI 0) 61)), (61, .inl (o_aload 0 62)), (62, .inl (o_get 11 20 65)), (65, .inl (o_pushI (nI 0) 66)), (66, .inl (o_iload 2 67))]
def lX11_laysBest_1 : List (Nat × (Op ⊕ Nat)) := [(67, .inl (o_callS fX11_lays 5 70)), (70, .inl (o_aload 0 71)), (71, .inl (o_iload 2 72)), (72, .inl (o_callV fX11_nextRow 1 11 75)), (75, .inl (o_istore 4 77)), (77, .inl (o_goto 25)), (80, .inl (o_iload 3 81)), (81, .inr 0)]
def lX11_laysBest : List (Nat × (Op ⊕ Nat)) := lX11_laysBest_0 ++ (lX11_laysBest_1)
theorem qX11_laysBest : yX11_laysBest.cls = RX11 ∧ yX11_laysBest.cls ≠ "java/lang/invoke/MethodHandle" ∧ yX11_laysBest.cls ≠ "java/lang/invoke/VarHandle" ∧ (parseMethodDescriptor yX11_laysBest.desc).map (fun d => d.parameters.length) = some 2 := by decide +kernel
set_option maxRecDepth 10000 in
theorem hX11_laysBest_0 (l : Launch) {p : Program} {e : Env} {s : State} {m : MethodId} {args : Array Value} {below : List Frame} {meth : Method} {c : Code} {D : va_G} {ad adV : Nat → Nat} {cA : Nat → ClassId} {K : Kt} (C0 : Cx p s m args meth c D ad adV cA cX11_laysBest 6 RX11) (hr : meth.sig.returnType = (some .int)) : ∀ q ∈ lX11_laysBest_0, Sd p l e (rmd 4) s m args below meth c (MQ below (QQ D ad cA K) args s 0 0 (AA ad)) D ad cA 6 q.1 (opOf K q.2) := List.forall_mem_cons.mpr ⟨s_iconst C0 dX11_laysBest_0 rfl, List.forall_mem_cons.mpr ⟨s_istore_n C0 dX11_laysBest_1 rfl (by decide), List.forall_mem_cons.mpr ⟨s_iload_n C0 dX11_laysBest_2 rfl, List.forall_mem_cons.mpr ⟨s_iload_n C0 dX11_laysBest_3 rfl, List.forall_mem_cons.mpr ⟨s_icmp_ge C0 dX11_laysBest_4 rfl, List.forall_mem_cons.mpr ⟨s_aload_n C0 dX11_laysBest_7 rfl, List.forall_mem_cons.mpr ⟨s_get (ci := 11) (k := 20) C0 dX11_laysBest_8 inX11 rfl (by decide) tw6_31, List.forall_mem_cons.mpr ⟨s_iload_n C0 dX11_laysBest_11 rfl, List.forall_mem_cons.mpr ⟨s_iconst C0 dX11_laysBest_12 rfl, List.forall_mem_cons.mpr ⟨s_iast C0 dX11_laysBest_13, List.forall_mem_cons.mpr ⟨s_iinc C0 dX11_laysBest_14 rfl (by decide), List.forall_mem_cons.mpr ⟨s_goto C0 dX11_laysBest_17 rfl, List.forall_mem_cons.mpr ⟨s_iconst C0 dX11_laysBest_20 rfl, List.forall_mem_cons.mpr ⟨s_istore_n C0 dX11_laysBest_21 rfl (by decide), List.forall_mem_cons.mpr ⟨s_iconst C0 dX11_laysBest_22 rfl, List.forall_mem_cons.mpr ⟨s_istore C0 dX11_laysBest_23 (by decide), List.forall_mem_cons.mpr ⟨s_iload C0 dX11_laysBest_25, List.forall_mem_cons.mpr ⟨s_if_eq C0 dX11_laysBest_27 rfl, List.forall_mem_cons.mpr ⟨s_aload_n C0 dX11_laysBest_30 rfl, List.forall_mem_cons.mpr ⟨s_iload_n C0 dX11_laysBest_31 rfl, List.forall_mem_cons.mpr ⟨s_iload_n C0 dX11_laysBest_32 rfl, List.forall_mem_cons.mpr ⟨s_callV (ci := 11) C0 (kX11_rowWorth l) dX11_laysBest_33 rfl qX11_rowWorth tw7_117 tw7_119 twp_80 tw1_12 tw7_120 rfl (by decide) (by decide), List.forall_mem_cons.mpr ⟨s_istore C0 dX11_laysBest_36 (by decide), List.forall_mem_cons.mpr ⟨s_iload C0 dX11_laysBest_38, List.forall_mem_cons.mpr ⟨s_iload_n C0 dX11_laysBest_40 rfl, List.forall_mem_cons.mpr ⟨s_icmp_le C0 dX11_laysBest_41 rfl, List.forall_mem_cons.mpr ⟨s_aload_n C0 dX11_laysBest_44 rfl, List.forall_mem_cons.mpr ⟨s_iload_n C0 dX11_laysBest_45 rfl, List.forall_mem_cons.mpr ⟨s_iload_n C0 dX11_laysBest_46 rfl, List.forall_mem_cons.mpr ⟨s_callV (ci := 11) C0 (kX11_isRowAllowed l) dX11_laysBest_47 rfl qX11_isRowAllowed tw7_121 tw7_123 twp_81 tw1_12 tw7_124 rfl (by decide) (by decide), List.forall_mem_cons.mpr ⟨s_if_eq C0 dX11_laysBest_50 rfl, List.forall_mem_cons.mpr ⟨s_iload C0 dX11_laysBest_53, List.forall_mem_cons.mpr ⟨s_istore_n C0 dX11_laysBest_55 rfl (by decide), List.forall_mem_cons.mpr ⟨s_aload_n C0 dX11_laysBest_56 rfl, List.forall_mem_cons.mpr ⟨s_get (ci := 11) (k := 21) C0 dX11_laysBest_57 inX11 rfl (by decide) tw6_32, List.forall_mem_cons.mpr ⟨s_iconst C0 dX11_laysBest_60 rfl, List.forall_mem_cons.mpr ⟨s_aload_n C0 dX11_laysBest_61 rfl, List.forall_mem_cons.mpr ⟨s_get (ci := 11) (k := 20) C0 dX11_laysBest_62 inX11 rfl (by decide) tw6_31, List.forall_mem_cons.mpr ⟨s_iconst C0 dX11_laysBest_65 rfl, List.forall_mem_cons.mpr ⟨s_iload_n C0 dX11_laysBest_66 rfl, fun _ h => absurd h List.not_mem_nil⟩⟩⟩⟩⟩⟩⟩⟩⟩⟩⟩⟩⟩⟩⟩⟩⟩⟩⟩⟩⟩⟩⟩⟩⟩⟩⟩⟩⟩⟩⟩⟩⟩⟩⟩⟩⟩⟩⟩⟩
set_option maxRecDepth 10000 in
theorem hX11_laysBest_1 (l : Launch) {p : Program} {e : Env} {s : State} {m : MethodId} {args : Array Value} {below : List Frame} {meth : Method} {c : Code} {D : va_G} {ad adV : Nat → Nat} {cA : Nat → ClassId} {K : Kt} (C0 : Cx p s m args meth c D ad adV cA cX11_laysBest 6 RX11) (hr : meth.sig.returnType = (some .int)) : ∀ q ∈ lX11_laysBest_1, Sd p l e (rmd 4) s m args below meth c (MQ below (QQ D ad cA K) args s 0 0 (AA ad)) D ad cA 6 q.1 (opOf K q.2) := List.forall_mem_cons.mpr ⟨s_callS C0 (kX11_lays l) dX11_laysBest_67 qX11_lays tw6_188 tw6_189 tw1_12 tw6_190 rfl (by decide) (by decide), List.forall_mem_cons.mpr ⟨s_aload_n C0 dX11_laysBest_70 rfl, List.forall_mem_cons.mpr ⟨s_iload_n C0 dX11_laysBest_71 rfl, List.forall_mem_cons.mpr ⟨s_callV (ci := 11) C0 (kX11_nextRow l) dX11_laysBest_72 rfl qX11_nextRow tw7_125 tw7_127 twp_82 tw1_12 tw7_128 rfl (by decide) (by decide), List.forall_mem_cons.mpr ⟨s_istore C0 dX11_laysBest_75 (by decide), List.forall_mem_cons.mpr ⟨s_goto C0 dX11_laysBest_77 rfl, List.forall_mem_cons.mpr ⟨s_iload_n C0 dX11_laysBest_80 rfl, List.forall_mem_cons.mpr ⟨s_iret C0 hr dX11_laysBest_81, fun _ h => absurd h List.not_mem_nil⟩⟩⟩⟩⟩⟩⟩⟩
def fX11_laysBest : Mf := mf 6 (fun K => tl K lX11_laysBest)
theorem kX11_laysBest (l : Launch) : Okm l yX11_laysBest cX11_laysBest 6 (some .int) 4 fX11_laysBest := Okm_tl (own := RX11) (by decide +kernel) rfl (fun C0 hr => List.forall_mem_append.mpr ⟨hX11_laysBest_0 l C0 hr, hX11_laysBest_1 l C0 hr⟩)
theorem dX11_whyNotBest_0 : decode cX11_whyNotBest 0 = .ok (.aload_n 0, 1) := by decide +kernel
theorem dX11_whyNotBest_1 : decode cX11_whyNotBest 1 = .ok (.iload_n 1, 1) := by decide +kernel
theorem dX11_whyNotBest_2 : decode cX11_whyNotBest 2 = .ok (.invokevirtual 217, 3) := by decide +kernel
theorem dX11_whyNotBest_5 : decode cX11_whyNotBest 5 = .ok (.ifCond .ne 7, 3) := by decide +kernel
theorem dX11_whyNotBest_8 : decode cX11_whyNotBest 8 = .ok (.iconst 1, 1) := by decide +kernel
theorem dX11_whyNotBest_9 : decode cX11_whyNotBest 9 = .ok (.goto 33, 3) := by decide +kernel
theorem dX11_whyNotBest_12 : decode cX11_whyNotBest 12 = .ok (.iload_n 2, 1) := by decide +kernel
theorem dX11_whyNotBest_13 : decode cX11_whyNotBest 13 = .ok (.iconst 1, 1) := by decide +kernel
theorem dX11_whyNotBest_14 : decode cX11_whyNotBest 14 = .ok (.iconst 5, 1) := by decide +kernel
theorem dX11_whyNotBest_15 : decode cX11_whyNotBest 15 = .ok (.invokestatic 76, 3) := by decide +kernel
theorem dX11_whyNotBest_18 : decode cX11_whyNotBest 18 = .ok (.ifCond .ne 7, 3) := by decide +kernel
theorem dX11_whyNotBest_21 : decode cX11_whyNotBest 21 = .ok (.iconst 2, 1) := by decide +kernel
theorem dX11_whyNotBest_22 : decode cX11_whyNotBest 22 = .ok (.goto 20, 3) := by decide +kernel
theorem dX11_whyNotBest_25 : decode cX11_whyNotBest 25 = .ok (.iload_n 1, 1) := by decide +kernel
theorem dX11_whyNotBest_26 : decode cX11_whyNotBest 26 = .ok (.iload_n 2, 1) := by decide +kernel
theorem dX11_whyNotBest_27 : decode cX11_whyNotBest 27 = .ok (.iadd, 1) := by decide +kernel
theorem dX11_whyNotBest_28 : decode cX11_whyNotBest 28 = .ok (.aload_n 0, 1) := by decide +kernel
theorem dX11_whyNotBest_29 : decode cX11_whyNotBest 29 = .ok (.getfield 17, 3) := by decide +kernel
theorem dX11_whyNotBest_32 : decode cX11_whyNotBest 32 = .ok (.iconst 1, 1) := by decide +kernel
theorem dX11_whyNotBest_33 : decode cX11_whyNotBest 33 = .ok (.iaload, 1) := by decide +kernel
theorem dX11_whyNotBest_34 : decode cX11_whyNotBest 34 = .ok (.if_icmp .le 7, 3) := by decide +kernel
theorem dX11_whyNotBest_37 : decode cX11_whyNotBest 37 = .ok (.iconst 1, 1) := by decide +kernel
theorem dX11_whyNotBest_38 : decode cX11_whyNotBest 38 = .ok (.goto 4, 3) := by decide +kernel
theorem dX11_whyNotBest_41 : decode cX11_whyNotBest 41 = .ok (.iconst 0, 1) := by decide +kernel
theorem dX11_whyNotBest_42 : decode cX11_whyNotBest 42 = .ok (.ireturn, 1) := by decide +kernel
def lX11_whyNotBest : List (Nat × (Op ⊕ Nat)) := [(0, .inl (o_aload 0 1)), (1, .inl (o_iload 1 2)), (2, .inl (o_callV fX11_isGame 1 11 5)), (5, .inl (o_if_ne 12 8)), (8, .inl (o_pushI (nI 1) 9)), (9, .inl (o_goto 42)), (12, .inl (o_iload 2 13)), (13, .inl (o_pushI (nI 1) 14)), (14, .inl (o_pushI (nI 5) 15)), (15, .inl (o_callS fX11_in 3 18)), (18, .inl (o_if_ne 25 21)), (21, .inl (o_pushI (nI 2) 22)), (22, .inl (o_goto 42)), (25, .inl (o_iload 1 26)), (26, .inl (o_iload 2 27)), (27, .inl (o_iadd 28)), (28, .inl (o_aload 0 29)), (29, .inl (o_get 11 7 32)), (32, .inl (o_pushI (nI 1) 33)), (33, .inl (o_iald 34)), (34, .inl (o_icmp_le 41 37)), (37, .inl (o_pushI (nI 1) 38)), (38, .inl (o_goto 42)), (41, .inl (o_pushI (nI 0) 42)), (42, .inr 0)]
theorem qX11_whyNotBest : yX11_whyNotBest.cls = RX11 ∧ yX11_whyNotBest.cls ≠ "java/lang/invoke/MethodHandle" ∧ yX11_whyNotBest.cls ≠ "java/lang/invoke/VarHandle" ∧ (parseMethodDescriptor yX11_whyNotBest.desc).map (fun d => d.parameters.length) = some 2 := by decide +kernel
set_option maxRecDepth 10000 in
theorem hX11_whyNotBest_0 (l : Launch) {p : Program} {e : Env} {s : State} {m : MethodId} {args : Array Value} {below : List Frame} {meth : Method} {c : Code} {D : va_G} {ad adV : Nat → Nat} {cA : Nat → ClassId} {K : Kt} (C0 : Cx p s m args meth c D ad adV cA cX11_whyNotBest 3 RX11) (hr : meth.sig.returnType = (some .int)) : ∀ q ∈ lX11_whyNotBest, Sd p l e (rmd 2) s m args below meth c (MQ below (QQ D ad cA K) args s 0 0 (AA ad)) D ad cA 3 q.1 (opOf K q.2) := List.forall_mem_cons.mpr ⟨s_aload_n C0 dX11_whyNotBest_0 rfl, List.forall_mem_cons.mpr ⟨s_iload_n C0 dX11_whyNotBest_1 rfl, List.forall_mem_cons.mpr ⟨s_callV (ci := 11) C0 (kX11_isGame l) dX11_whyNotBest_2 rfl qX11_isGame tw7_14 tw7_16 twp_66 tw1_12 tw7_17 rfl (by decide) (by decide), List.forall_mem_cons.mpr ⟨s_if_ne C0 dX11_whyNotBest_5 rfl, List.forall_mem_cons.mpr ⟨s_iconst C0 dX11_whyNotBest_8 rfl, List.forall_mem_cons.mpr ⟨s_goto C0 dX11_whyNotBest_9 rfl, List.forall_mem_cons.mpr ⟨s_iload_n C0 dX11_whyNotBest_12 rfl, List.forall_mem_cons.mpr ⟨s_iconst C0 dX11_whyNotBest_13 rfl, List.forall_mem_cons.mpr ⟨s_iconst C0 dX11_whyNotBest_14 rfl, List.forall_mem_cons.mpr ⟨s_callS C0 (kX11_in l) dX11_whyNotBest_15 qX11_in tw6_112 tw6_113 tw1_12 tw6_114 rfl (by decide) (by decide), List.forall_mem_cons.mpr ⟨s_if_ne C0 dX11_whyNotBest_18 rfl, List.forall_mem_cons.mpr ⟨s_iconst C0 dX11_whyNotBest_21 rfl, List.forall_mem_cons.mpr ⟨s_goto C0 dX11_whyNotBest_22 rfl, List.forall_mem_cons.mpr ⟨s_iload_n C0 dX11_whyNotBest_25 rfl, List.forall_mem_cons.mpr ⟨s_iload_n C0 dX11_whyNotBest_26 rfl, List.forall_mem_cons.mpr ⟨s_iadd C0 dX11_whyNotBest_27, List.forall_mem_cons.mpr ⟨s_aload_n C0 dX11_whyNotBest_28 rfl, List.forall_mem_cons.mpr ⟨s_get (ci := 11) (k := 7) C0 dX11_whyNotBest_29 inX11 rfl (by decide) tw6_18, List.forall_mem_cons.mpr ⟨s_iconst C0 dX11_whyNotBest_32 rfl, List.forall_mem_cons.mpr ⟨s_iald C0 dX11_whyNotBest_33, List.forall_mem_cons.mpr ⟨s_icmp_le C0 dX11_whyNotBest_34 rfl, List.forall_mem_cons.mpr ⟨s_iconst C0 dX11_whyNotBest_37 rfl, List.forall_mem_cons.mpr ⟨s_goto C0 dX11_whyNotBest_38 rfl, List.forall_mem_cons.mpr ⟨s_iconst C0 dX11_whyNotBest_41 rfl, List.forall_mem_cons.mpr ⟨s_iret C0 hr dX11_whyNotBest_42, fun _ h => absurd h List.not_mem_nil⟩⟩⟩⟩⟩⟩⟩⟩⟩⟩⟩⟩⟩⟩⟩⟩⟩⟩⟩⟩⟩⟩⟩⟩⟩
def fX11_whyNotBest : Mf := mf 3 (fun K => tl K lX11_whyNotBest)
theorem kX11_whyNotBest (l : Launch) : Okm l yX11_whyNotBest cX11_whyNotBest 3 (some .int) 2 fX11_whyNotBest := Okm_tl (own := RX11) (by decide +kernel) rfl (fun C0 hr => hX11_whyNotBest_0 l C0 hr)
theorem dX11_best_0 : decode cX11_best 0 = .ok (.aload_n 0, 1) := by decide +kernel
theorem dX11_best_1 : decode cX11_best 1 = .ok (.aload_n 0, 1) := by decide +kernel
theorem dX11_best_2 : decode cX11_best 2 = .ok (.iload_n 1, 1) := by decide +kernel
theorem dX11_best_3 : decode cX11_best 3 = .ok (.iload_n 2, 1) := by decide +kernel
theorem dX11_best_4 : decode cX11_best 4 = .ok (.invokevirtual 267, 3) := by decide +kernel
theorem dX11_best_7 : decode cX11_best 7 = .ok (.invokevirtual 159, 3) := by decide +kernel
theorem dX11_best_10 : decode cX11_best 10 = .ok (.ifCond .eq 7, 3) := by decide +kernel
theorem dX11_best_13 : decode cX11_best 13 = .ok (.iconst (-1), 1) := by decide +kernel
theorem dX11_best_14 : decode cX11_best 14 = .ok (.goto 9, 3) := by decide +kernel
theorem dX11_best_17 : decode cX11_best 17 = .ok (.aload_n 0, 1) := by decide +kernel
theorem dX11_best_18 : decode cX11_best 18 = .ok (.iload_n 1, 1) := by decide +kernel
theorem dX11_best_19 : decode cX11_best 19 = .ok (.iload_n 2, 1) := by decide +kernel
theorem dX11_best_20 : decode cX11_best 20 = .ok (.invokevirtual 270, 3) := by decide +kernel
theorem dX11_best_23 : decode cX11_best 23 = .ok (.ireturn, 1) := by decide +kernel
def lX11_best : List (Nat × (Op ⊕ Nat)) := [(0, .inl (o_aload 0 1)), (1, .inl (o_aload 0 2)), (2, .inl (o_iload 1 3)), (3, .inl (o_iload 2 4)), (4, .inl (o_callV fX11_whyNotBest 2 11 7)), (7, .inl (o_callV fX11_isRefused 1 11 10)), (10, .inl (o_if_eq 17 13)), (13, .inl (o_pushI ((-1)) 14)), (14, .inl (o_goto 23)), (17, .inl (o_aload 0 18)), (18, .inl (o_iload 1 19)), (19, .inl (o_iload 2 20)), (20, .inl (o_callV fX11_laysBest 2 11 23)), (23, .inr 0)]
theorem qX11_best : yX11_best.cls = RX11 ∧ yX11_best.cls ≠ "java/lang/invoke/MethodHandle" ∧ yX11_best.cls ≠ "java/lang/invoke/VarHandle" ∧ (parseMethodDescriptor yX11_best.desc).map (fun d => d.parameters.length) = some 2 := by decide +kernel
set_option maxRecDepth 10000 in
theorem hX11_best_0 (l : Launch) {p : Program} {e : Env} {s : State} {m : MethodId} {args : Array Value} {below : List Frame} {meth : Method} {c : Code} {D : va_G} {ad adV : Nat → Nat} {cA : Nat → ClassId} {K : Kt} (C0 : Cx p s m args meth c D ad adV cA cX11_best 3 RX11) (hr : meth.sig.returnType = (some .int)) : ∀ q ∈ lX11_best, Sd p l e (rmd 5) s m args below meth c (MQ below (QQ D ad cA K) args s 0 0 (AA ad)) D ad cA 3 q.1 (opOf K q.2) := List.forall_mem_cons.mpr ⟨s_aload_n C0 dX11_best_0 rfl, List.forall_mem_cons.mpr ⟨s_aload_n C0 dX11_best_1 rfl, List.forall_mem_cons.mpr ⟨s_iload_n C0 dX11_best_2 rfl, List.forall_mem_cons.mpr ⟨s_iload_n C0 dX11_best_3 rfl, List.forall_mem_cons.mpr ⟨s_callV (ci := 11) C0 (kX11_whyNotBest l) dX11_best_4 rfl qX11_whyNotBest tw7_109 tw7_111 twp_78 tw1_12 tw7_112 rfl (by decide) (by decide), List.forall_mem_cons.mpr ⟨s_callV (ci := 11) C0 (kX11_isRefused l) dX11_best_7 rfl qX11_isRefused tw6_118 tw6_120 twp_41 tw1_12 tw6_121 rfl (by decide) (by decide), List.forall_mem_cons.mpr ⟨s_if_eq C0 dX11_best_10 rfl, List.forall_mem_cons.mpr ⟨s_iconst C0 dX11_best_13 rfl, List.forall_mem_cons.mpr ⟨s_goto C0 dX11_best_14 rfl, List.forall_mem_cons.mpr ⟨s_aload_n C0 dX11_best_17 rfl, List.forall_mem_cons.mpr ⟨s_iload_n C0 dX11_best_18 rfl, List.forall_mem_cons.mpr ⟨s_iload_n C0 dX11_best_19 rfl, List.forall_mem_cons.mpr ⟨s_callV (ci := 11) C0 (kX11_laysBest l) dX11_best_20 rfl qX11_laysBest tw7_113 tw7_115 twp_79 tw1_12 tw7_116 rfl (by decide) (by decide), List.forall_mem_cons.mpr ⟨s_iret C0 hr dX11_best_23, fun _ h => absurd h List.not_mem_nil⟩⟩⟩⟩⟩⟩⟩⟩⟩⟩⟩⟩⟩⟩
def fX11_best : Mf := mf 3 (fun K => tl K lX11_best)
theorem kX11_best (l : Launch) : Okm l yX11_best cX11_best 3 (some .int) 5 fX11_best := Okm_tl (own := RX11) (by decide +kernel) rfl (fun C0 hr => hX11_best_0 l C0 hr)
theorem dX11_bestOf_0 : decode cX11_bestOf 0 = .ok (.aload_n 0, 1) := by decide +kernel
theorem dX11_bestOf_1 : decode cX11_bestOf 1 = .ok (.iload_n 1, 1) := by decide +kernel
theorem dX11_bestOf_2 : decode cX11_bestOf 2 = .ok (.iload_n 2, 1) := by decide +kernel
theorem dX11_bestOf_3 : decode cX11_bestOf 3 = .ok (.invokevirtual 267, 3) := by decide +kernel
theorem dX11_bestOf_6 : decode cX11_bestOf 6 = .ok (.istore 4, 2) := by decide +kernel
theorem dX11_bestOf_8 : decode cX11_bestOf 8 = .ok (.aload_n 0, 1) := by decide +kernel
theorem dX11_bestOf_9 : decode cX11_bestOf 9 = .ok (.iload 4, 2) := by decide +kernel
theorem dX11_bestOf_11 : decode cX11_bestOf 11 = .ok (.ifCond .eq 8, 3) := by decide +kernel
theorem dX11_bestOf_14 : decode cX11_bestOf 14 = .ok (.iload 4, 2) := by decide +kernel
theorem dX11_bestOf_16 : decode cX11_bestOf 16 = .ok (.goto 14, 3) := by decide +kernel
theorem dX11_bestOf_19 : decode cX11_bestOf 19 = .ok (.iload_n 3, 1) := by decide +kernel
theorem dX11_bestOf_20 : decode cX11_bestOf 20 = .ok (.iconst 0, 1) := by decide +kernel
theorem dX11_bestOf_21 : decode cX11_bestOf 21 = .ok (.iload_n 2, 1) := by decide +kernel
theorem dX11_bestOf_22 : decode cX11_bestOf 22 = .ok (.iconst 1, 1) := by decide +kernel
theorem dX11_bestOf_23 : decode cX11_bestOf 23 = .ok (.isub, 1) := by decide +kernel
theorem dX11_bestOf_24 : decode cX11_bestOf 24 = .ok (.invokestatic 76, 3) := by decide +kernel
theorem dX11_bestOf_27 : decode cX11_bestOf 27 = .ok (.invokestatic 182, 3) := by decide +kernel
theorem dX11_bestOf_30 : decode cX11_bestOf 30 = .ok (.invokevirtual 159, 3) := by decide +kernel
theorem dX11_bestOf_33 : decode cX11_bestOf 33 = .ok (.ifCond .eq 5, 3) := by decide +kernel
theorem dX11_bestOf_36 : decode cX11_bestOf 36 = .ok (.iconst (-1), 1) := by decide +kernel
theorem dX11_bestOf_37 : decode cX11_bestOf 37 = .ok (.ireturn, 1) := by decide +kernel
theorem dX11_bestOf_38 : decode cX11_bestOf 38 = .ok (.aload_n 0, 1) := by decide +kernel
theorem dX11_bestOf_39 : decode cX11_bestOf 39 = .ok (.iload_n 1, 1) := by decide +kernel
theorem dX11_bestOf_40 : decode cX11_bestOf 40 = .ok (.iload_n 2, 1) := by decide +kernel
theorem dX11_bestOf_41 : decode cX11_bestOf 41 = .ok (.invokevirtual 270, 3) := by decide +kernel
theorem dX11_bestOf_44 : decode cX11_bestOf 44 = .ok (.pop, 1) := by decide +kernel
theorem dX11_bestOf_45 : decode cX11_bestOf 45 = .ok (.aload_n 0, 1) := by decide +kernel
theorem dX11_bestOf_46 : decode cX11_bestOf 46 = .ok (.getfield 35, 3) := by decide +kernel
theorem dX11_bestOf_49 : decode cX11_bestOf 49 = .ok (.iload_n 3, 1) := by decide +kernel
theorem dX11_bestOf_50 : decode cX11_bestOf 50 = .ok (.iaload, 1) := by decide +kernel
theorem dX11_bestOf_51 : decode cX11_bestOf 51 = .ok (.aload_n 0, 1) := by decide +kernel
theorem dX11_bestOf_52 : decode cX11_bestOf 52 = .ok (.getfield 17, 3) := by decide +kernel
theorem dX11_bestOf_55 : decode cX11_bestOf 55 = .ok (.iconst 0, 1) := by decide +kernel
theorem dX11_bestOf_56 : decode cX11_bestOf 56 = .ok (.iaload, 1) := by decide +kernel
theorem dX11_bestOf_57 : decode cX11_bestOf 57 = .ok (.if_icmp .ne 8, 3) := by decide +kernel
theorem dX11_bestOf_60 : decode cX11_bestOf 60 = .ok (.bipush (-2), 2) := by decide +kernel
theorem dX11_bestOf_62 : decode cX11_bestOf 62 = .ok (.goto 9, 3) := by decide +kernel
theorem dX11_bestOf_65 : decode cX11_bestOf 65 = .ok (.aload_n 0, 1) := by decide +kernel
theorem dX11_bestOf_66 : decode cX11_bestOf 66 = .ok (.getfield 35, 3) := by decide +kernel
theorem dX11_bestOf_69 : decode cX11_bestOf 69 = .ok (.iload_n 3, 1) := by decide +kernel
theorem dX11_bestOf_70 : decode cX11_bestOf 70 = .ok (.iaload, 1) := by decide +kernel
theorem dX11_bestOf_71 : decode cX11_bestOf 71 = .ok (.ireturn, 1) := by decide +kernel
def lX11_bestOf_0 : List (Nat × (Op ⊕ Nat)) := [(0, .inl (o_aload 0 1)), (1, .inl (o_iload 1 2)), (2, .inl (o_iload 2 3)), (3, .inl (o_callV fX11_whyNotBest 2 11 6)), (6, .inl (o_istore 4 8)), (8, .inl (o_aload 0 9)), (9, .inl (o_iload 4 11)), (11, .inl (o_if_eq 19 14)), (14, .inl (o_iload 4 16)), (16, .inl (o_goto 30)), (19, .inl (o_iload 3 20)), (20, .inl (o_pushI (nI 0) 21)), (21, .inl (o_iload 2 22)), (22, .inl (o_pushI (nI 1) 23)), (23, .inl (o_isub 24)), (24, .inl (o_callS fX11_in 3 27)), (27, .inl (o_callS fX11_unless 1 30)), (30, .inl (o_callV fX11_isRefused 1 11 33)), (33, .inl (o_if_eq 38 36)), (36, .inl (o_pushI ((-1)) 37)), (37, .inr 0), (38, .inl (o_aload 0 39)), (39, .inl (o_iload 1 40)), (40, .inl (o_iload 2 41)), (41, .inl (o_callV fX11_laysBest 2 11 44)), (44, .inl (o_pop 45)), (45, .inl (o_aload 0 46)), (46, .inl (o_get 11 21 49)), (49, .inl (o_iload 3 50)), (50, .inl (o_iald 51)), (51, .inl (o_aload 0 52)), (52, .inl (o_get 11 7 55)), (55, .inl (o_pushI (nI 0) 56)), (56, .inl (o_iald 57)), (57, .inl (o_icmp_ne 65 60)), (60, .inl (o_pushI ((-2)) 62)), (62, .inl (o_goto 71)), (65, .inl (o_aload 0 66)), (66, .inl (o_get 11 21 69)), (69, .inl (o_iload 3 70))]
def lX11_bestOf_1 : List (Nat × (Op ⊕ Nat)) := [(70, .inl (o_iald 71)), (71, .inr 0)]
def lX11_bestOf : List (Nat × (Op ⊕ Nat)) := lX11_bestOf_0 ++ (lX11_bestOf_1)
theorem qX11_bestOf : yX11_bestOf.cls = RX11 ∧ yX11_bestOf.cls ≠ "java/lang/invoke/MethodHandle" ∧ yX11_bestOf.cls ≠ "java/lang/invoke/VarHandle" ∧ (parseMethodDescriptor yX11_bestOf.desc).map (fun d => d.parameters.length) = some 3 := by decide +kernel
set_option maxRecDepth 10000 in
theorem hX11_bestOf_0 (l : Launch) {p : Program} {e : Env} {s : State} {m : MethodId} {args : Array Value} {below : List Frame} {meth : Method} {c : Code} {D : va_G} {ad adV : Nat → Nat} {cA : Nat → ClassId} {K : Kt} (C0 : Cx p s m args meth c D ad adV cA cX11_bestOf 5 RX11) (hr : meth.sig.returnType = (some .int)) : ∀ q ∈ lX11_bestOf_0, Sd p l e (rmd 5) s m args below meth c (MQ below (QQ D ad cA K) args s 0 0 (AA ad)) D ad cA 5 q.1 (opOf K q.2) := List.forall_mem_cons.mpr ⟨s_aload_n C0 dX11_bestOf_0 rfl, List.forall_mem_cons.mpr ⟨s_iload_n C0 dX11_bestOf_1 rfl, List.forall_mem_cons.mpr ⟨s_iload_n C0 dX11_bestOf_2 rfl, List.forall_mem_cons.mpr ⟨s_callV (ci := 11) C0 (kX11_whyNotBest l) dX11_bestOf_3 rfl qX11_whyNotBest tw7_109 tw7_111 twp_78 tw1_12 tw7_112 rfl (by decide) (by decide), List.forall_mem_cons.mpr ⟨s_istore C0 dX11_bestOf_6 (by decide), List.forall_mem_cons.mpr ⟨s_aload_n C0 dX11_bestOf_8 rfl, List.forall_mem_cons.mpr ⟨s_iload C0 dX11_bestOf_9, List.forall_mem_cons.mpr ⟨s_if_eq C0 dX11_bestOf_11 rfl, List.forall_mem_cons.mpr ⟨s_iload C0 dX11_bestOf_14, List.forall_mem_cons.mpr ⟨s_goto C0 dX11_bestOf_16 rfl, List.forall_mem_cons.mpr ⟨s_iload_n C0 dX11_bestOf_19 rfl, List.forall_mem_cons.mpr ⟨s_iconst C0 dX11_bestOf_20 rfl, List.forall_mem_cons.mpr ⟨s_iload_n C0 dX11_bestOf_21 rfl, List.forall_mem_cons.mpr ⟨s_iconst C0 dX11_bestOf_22 rfl, List.forall_mem_cons.mpr ⟨s_isub C0 dX11_bestOf_23, List.forall_mem_cons.mpr ⟨s_callS C0 (kX11_in l) dX11_bestOf_24 qX11_in tw6_112 tw6_113 tw1_12 tw6_114 rfl (by decide) (by decide), List.forall_mem_cons.mpr ⟨s_callS C0 (kX11_unless l) dX11_bestOf_27 qX11_unless tw6_203 tw6_204 tw1_12 tw6_205 rfl (by decide) (by decide), List.forall_mem_cons.mpr ⟨s_callV (ci := 11) C0 (kX11_isRefused l) dX11_bestOf_30 rfl qX11_isRefused tw6_118 tw6_120 twp_41 tw1_12 tw6_121 rfl (by decide) (by decide), List.forall_mem_cons.mpr ⟨s_if_eq C0 dX11_bestOf_33 rfl, List.forall_mem_cons.mpr ⟨s_iconst C0 dX11_bestOf_36 rfl, List.forall_mem_cons.mpr ⟨s_iret C0 hr dX11_bestOf_37, List.forall_mem_cons.mpr ⟨s_aload_n C0 dX11_bestOf_38 rfl, List.forall_mem_cons.mpr ⟨s_iload_n C0 dX11_bestOf_39 rfl, List.forall_mem_cons.mpr ⟨s_iload_n C0 dX11_bestOf_40 rfl, List.forall_mem_cons.mpr ⟨s_callV (ci := 11) C0 (kX11_laysBest l) dX11_bestOf_41 rfl qX11_laysBest tw7_113 tw7_115 twp_79 tw1_12 tw7_116 rfl (by decide) (by decide), List.forall_mem_cons.mpr ⟨s_pop C0 dX11_bestOf_44, List.forall_mem_cons.mpr ⟨s_aload_n C0 dX11_bestOf_45 rfl, List.forall_mem_cons.mpr ⟨s_get (ci := 11) (k := 21) C0 dX11_bestOf_46 inX11 rfl (by decide) tw6_32, List.forall_mem_cons.mpr ⟨s_iload_n C0 dX11_bestOf_49 rfl, List.forall_mem_cons.mpr ⟨s_iald C0 dX11_bestOf_50, List.forall_mem_cons.mpr ⟨s_aload_n C0 dX11_bestOf_51 rfl, List.forall_mem_cons.mpr ⟨s_get (ci := 11) (k := 7) C0 dX11_bestOf_52 inX11 rfl (by decide) tw6_18, List.forall_mem_cons.mpr ⟨s_iconst C0 dX11_bestOf_55 rfl, List.forall_mem_cons.mpr ⟨s_iald C0 dX11_bestOf_56, List.forall_mem_cons.mpr ⟨s_icmp_ne C0 dX11_bestOf_57 rfl, List.forall_mem_cons.mpr ⟨s_bipush C0 dX11_bestOf_60 (by decide +kernel), List.forall_mem_cons.mpr ⟨s_goto C0 dX11_bestOf_62 rfl, List.forall_mem_cons.mpr ⟨s_aload_n C0 dX11_bestOf_65 rfl, List.forall_mem_cons.mpr ⟨s_get (ci := 11) (k := 21) C0 dX11_bestOf_66 inX11 rfl (by decide) tw6_32, List.forall_mem_cons.mpr ⟨s_iload_n C0 dX11_bestOf_69 rfl, fun _ h => absurd h List.not_mem_nil⟩⟩⟩⟩⟩⟩⟩⟩⟩⟩⟩⟩⟩⟩⟩⟩⟩⟩⟩⟩⟩⟩⟩⟩⟩⟩⟩⟩⟩⟩⟩⟩⟩⟩⟩⟩⟩⟩⟩⟩
set_option maxRecDepth 10000 in
theorem hX11_bestOf_1 (l : Launch) {p : Program} {e : Env} {s : State} {m : MethodId} {args : Array Value} {below : List Frame} {meth : Method} {c : Code} {D : va_G} {ad adV : Nat → Nat} {cA : Nat → ClassId} {K : Kt} (C0 : Cx p s m args meth c D ad adV cA cX11_bestOf 5 RX11) (hr : meth.sig.returnType = (some .int)) : ∀ q ∈ lX11_bestOf_1, Sd p l e (rmd 5) s m args below meth c (MQ below (QQ D ad cA K) args s 0 0 (AA ad)) D ad cA 5 q.1 (opOf K q.2) := List.forall_mem_cons.mpr ⟨s_iald C0 dX11_bestOf_70, List.forall_mem_cons.mpr ⟨s_iret C0 hr dX11_bestOf_71, fun _ h => absurd h List.not_mem_nil⟩⟩
def fX11_bestOf : Mf := mf 5 (fun K => tl K lX11_bestOf)
theorem kX11_bestOf (l : Launch) : Okm l yX11_bestOf cX11_bestOf 5 (some .int) 5 fX11_bestOf := Okm_tl (own := RX11) (by decide +kernel) rfl (fun C0 hr => List.forall_mem_append.mpr ⟨hX11_bestOf_0 l C0 hr, hX11_bestOf_1 l C0 hr⟩)
theorem dX11_isAloneAllowed_0 : decode cX11_isAloneAllowed 0 = .ok (.aload_n 0, 1) := by decide +kernel
theorem dX11_isAloneAllowed_1 : decode cX11_isAloneAllowed 1 = .ok (.iload_n 1, 1) := by decide +kernel
theorem dX11_isAloneAllowed_2 : decode cX11_isAloneAllowed 2 = .ok (.iload_n 2, 1) := by decide +kernel
theorem dX11_isAloneAllowed_3 : decode cX11_isAloneAllowed 3 = .ok (.iconst 1, 1) := by decide +kernel
theorem dX11_isAloneAllowed_4 : decode cX11_isAloneAllowed 4 = .ok (.invokevirtual 232, 3) := by decide +kernel
theorem dX11_isAloneAllowed_7 : decode cX11_isAloneAllowed 7 = .ok (.aload_n 0, 1) := by decide +kernel
theorem dX11_isAloneAllowed_8 : decode cX11_isAloneAllowed 8 = .ok (.iload_n 1, 1) := by decide +kernel
theorem dX11_isAloneAllowed_9 : decode cX11_isAloneAllowed 9 = .ok (.aload_n 0, 1) := by decide +kernel
theorem dX11_isAloneAllowed_10 : decode cX11_isAloneAllowed 10 = .ok (.getfield 17, 3) := by decide +kernel
theorem dX11_isAloneAllowed_13 : decode cX11_isAloneAllowed 13 = .ok (.bipush 46, 2) := by decide +kernel
theorem dX11_isAloneAllowed_15 : decode cX11_isAloneAllowed 15 = .ok (.iload_n 2, 1) := by decide +kernel
theorem dX11_isAloneAllowed_16 : decode cX11_isAloneAllowed 16 = .ok (.iadd, 1) := by decide +kernel
theorem dX11_isAloneAllowed_17 : decode cX11_isAloneAllowed 17 = .ok (.iaload, 1) := by decide +kernel
theorem dX11_isAloneAllowed_18 : decode cX11_isAloneAllowed 18 = .ok (.iload_n 3, 1) := by decide +kernel
theorem dX11_isAloneAllowed_19 : decode cX11_isAloneAllowed 19 = .ok (.invokevirtual 239, 3) := by decide +kernel
theorem dX11_isAloneAllowed_22 : decode cX11_isAloneAllowed 22 = .ok (.ireturn, 1) := by decide +kernel
def lX11_isAloneAllowed : List (Nat × (Op ⊕ Nat)) := [(0, .inl (o_aload 0 1)), (1, .inl (o_iload 1 2)), (2, .inl (o_iload 2 3)), (3, .inl (o_pushI (nI 1) 4)), (4, .inl (o_callV fX11_laysDays 3 11 7)), (7, .inl (o_aload 0 8)), (8, .inl (o_iload 1 9)), (9, .inl (o_aload 0 10)), (10, .inl (o_get 11 7 13)), (13, .inl (o_pushI (nI 46) 15)), (15, .inl (o_iload 2 16)), (16, .inl (o_iadd 17)), (17, .inl (o_iald 18)), (18, .inl (o_iload 3 19)), (19, .inl (o_callV fX11_isAllowed 3 11 22)), (22, .inr 1)]
theorem qX11_isAloneAllowed : yX11_isAloneAllowed.cls = RX11 ∧ yX11_isAloneAllowed.cls ≠ "java/lang/invoke/MethodHandle" ∧ yX11_isAloneAllowed.cls ≠ "java/lang/invoke/VarHandle" ∧ (parseMethodDescriptor yX11_isAloneAllowed.desc).map (fun d => d.parameters.length) = some 3 := by decide +kernel
set_option maxRecDepth 10000 in
theorem hX11_isAloneAllowed_0 (l : Launch) {p : Program} {e : Env} {s : State} {m : MethodId} {args : Array Value} {below : List Frame} {meth : Method} {c : Code} {D : va_G} {ad adV : Nat → Nat} {cA : Nat → ClassId} {K : Kt} (C0 : Cx p s m args meth c D ad adV cA cX11_isAloneAllowed 4 RX11) (hr : meth.sig.returnType = (some .boolean)) : ∀ q ∈ lX11_isAloneAllowed, Sd p l e (rmd 3) s m args below meth c (MQ below (QQ D ad cA K) args s 0 0 (AA ad)) D ad cA 4 q.1 (opOf K q.2) := List.forall_mem_cons.mpr ⟨s_aload_n C0 dX11_isAloneAllowed_0 rfl, List.forall_mem_cons.mpr ⟨s_iload_n C0 dX11_isAloneAllowed_1 rfl, List.forall_mem_cons.mpr ⟨s_iload_n C0 dX11_isAloneAllowed_2 rfl, List.forall_mem_cons.mpr ⟨s_iconst C0 dX11_isAloneAllowed_3 rfl, List.forall_mem_cons.mpr ⟨s_callV (ci := 11) C0 (kX11_laysDays l) dX11_isAloneAllowed_4 rfl qX11_laysDays tw7_42 tw7_44 twp_71 tw1_12 tw7_45 rfl (by decide) (by decide), List.forall_mem_cons.mpr ⟨s_aload_n C0 dX11_isAloneAllowed_7 rfl, List.forall_mem_cons.mpr ⟨s_iload_n C0 dX11_isAloneAllowed_8 rfl, List.forall_mem_cons.mpr ⟨s_aload_n C0 dX11_isAloneAllowed_9 rfl, List.forall_mem_cons.mpr ⟨s_get (ci := 11) (k := 7) C0 dX11_isAloneAllowed_10 inX11 rfl (by decide) tw6_18, List.forall_mem_cons.mpr ⟨s_bipush C0 dX11_isAloneAllowed_13 (by decide +kernel), List.forall_mem_cons.mpr ⟨s_iload_n C0 dX11_isAloneAllowed_15 rfl, List.forall_mem_cons.mpr ⟨s_iadd C0 dX11_isAloneAllowed_16, List.forall_mem_cons.mpr ⟨s_iald C0 dX11_isAloneAllowed_17, List.forall_mem_cons.mpr ⟨s_iload_n C0 dX11_isAloneAllowed_18 rfl, List.forall_mem_cons.mpr ⟨s_callV (ci := 11) C0 (kX11_isAllowed l) dX11_isAloneAllowed_19 rfl qX11_isAllowed tw7_46 tw7_48 twp_72 tw1_12 tw7_49 rfl (by decide) (by decide), List.forall_mem_cons.mpr ⟨s_zret C0 hr dX11_isAloneAllowed_22, fun _ h => absurd h List.not_mem_nil⟩⟩⟩⟩⟩⟩⟩⟩⟩⟩⟩⟩⟩⟩⟩⟩
def fX11_isAloneAllowed : Mf := mf 4 (fun K => tl K lX11_isAloneAllowed)
theorem kX11_isAloneAllowed (l : Launch) : Okm l yX11_isAloneAllowed cX11_isAloneAllowed 4 (some .boolean) 3 fX11_isAloneAllowed := Okm_tl (own := RX11) (by decide +kernel) rfl (fun C0 hr => hX11_isAloneAllowed_0 l C0 hr)
theorem dX11_pair_0 : decode cX11_pair 0 = .ok (.aload_n 0, 1) := by decide +kernel
theorem dX11_pair_1 : decode cX11_pair 1 = .ok (.aload_n 0, 1) := by decide +kernel
theorem dX11_pair_2 : decode cX11_pair 2 = .ok (.iload_n 1, 1) := by decide +kernel
theorem dX11_pair_3 : decode cX11_pair 3 = .ok (.invokevirtual 217, 3) := by decide +kernel
theorem dX11_pair_6 : decode cX11_pair 6 = .ok (.ifCond .eq 16, 3) := by decide +kernel
theorem dX11_pair_9 : decode cX11_pair 9 = .ok (.iload_n 3, 1) := by decide +kernel
theorem dX11_pair_10 : decode cX11_pair 10 = .ok (.iconst 0, 1) := by decide +kernel
theorem dX11_pair_11 : decode cX11_pair 11 = .ok (.iconst 2, 1) := by decide +kernel
theorem dX11_pair_12 : decode cX11_pair 12 = .ok (.invokestatic 76, 3) := by decide +kernel
theorem dX11_pair_15 : decode cX11_pair 15 = .ok (.ifCond .eq 7, 3) := by decide +kernel
theorem dX11_pair_18 : decode cX11_pair 18 = .ok (.iconst 1, 1) := by decide +kernel
theorem dX11_pair_19 : decode cX11_pair 19 = .ok (.goto 4, 3) := by decide +kernel
theorem dX11_pair_22 : decode cX11_pair 22 = .ok (.iconst 0, 1) := by decide +kernel
theorem dX11_pair_23 : decode cX11_pair 23 = .ok (.iload_n 2, 1) := by decide +kernel
theorem dX11_pair_24 : decode cX11_pair 24 = .ok (.iconst 1, 1) := by decide +kernel
theorem dX11_pair_25 : decode cX11_pair 25 = .ok (.bipush 120, 2) := by decide +kernel
theorem dX11_pair_27 : decode cX11_pair 27 = .ok (.invokestatic 76, 3) := by decide +kernel
theorem dX11_pair_30 : decode cX11_pair 30 = .ok (.invokestatic 155, 3) := by decide +kernel
theorem dX11_pair_33 : decode cX11_pair 33 = .ok (.invokevirtual 159, 3) := by decide +kernel
theorem dX11_pair_36 : decode cX11_pair 36 = .ok (.ifCond .eq 5, 3) := by decide +kernel
theorem dX11_pair_39 : decode cX11_pair 39 = .ok (.iconst (-1), 1) := by decide +kernel
theorem dX11_pair_40 : decode cX11_pair 40 = .ok (.ireturn, 1) := by decide +kernel
theorem dX11_pair_41 : decode cX11_pair 41 = .ok (.bipush (-2), 2) := by decide +kernel
theorem dX11_pair_43 : decode cX11_pair 43 = .ok (.istore 4, 2) := by decide +kernel
theorem dX11_pair_45 : decode cX11_pair 45 = .ok (.bipush (-2), 2) := by decide +kernel
theorem dX11_pair_47 : decode cX11_pair 47 = .ok (.istore 5, 2) := by decide +kernel
theorem dX11_pair_49 : decode cX11_pair 49 = .ok (.bipush (-2), 2) := by decide +kernel
theorem dX11_pair_51 : decode cX11_pair 51 = .ok (.istore 6, 2) := by decide +kernel
theorem dX11_pair_53 : decode cX11_pair 53 = .ok (.iconst 0, 1) := by decide +kernel
theorem dX11_pair_54 : decode cX11_pair 54 = .ok (.istore 7, 2) := by decide +kernel
theorem dX11_pair_56 : decode cX11_pair 56 = .ok (.iload 7, 2) := by decide +kernel
theorem dX11_pair_58 : decode cX11_pair 58 = .ok (.aload_n 0, 1) := by decide +kernel
theorem dX11_pair_59 : decode cX11_pair 59 = .ok (.getfield 17, 3) := by decide +kernel
theorem dX11_pair_62 : decode cX11_pair 62 = .ok (.iconst 0, 1) := by decide +kernel
theorem dX11_pair_63 : decode cX11_pair 63 = .ok (.iaload, 1) := by decide +kernel
theorem dX11_pair_64 : decode cX11_pair 64 = .ok (.if_icmp .ge 158, 3) := by decide +kernel
theorem dX11_pair_67 : decode cX11_pair 67 = .ok (.iload_n 2, 1) := by decide +kernel
theorem dX11_pair_68 : decode cX11_pair 68 = .ok (.aload_n 0, 1) := by decide +kernel
theorem dX11_pair_69 : decode cX11_pair 69 = .ok (.iload 7, 2) := by decide +kernel
theorem dX11_pair_71 : decode cX11_pair 71 = .ok (.iload_n 1, 1) := by decide +kernel
theorem dX11_pair_72 : decode cX11_pair 72 = .ok (.invokevirtual 255, 3) := by decide +kernel
theorem dX11_pair_75 : decode cX11_pair 75 = .ok (.invokestatic 236, 3) := by decide +kernel
theorem dX11_pair_78 : decode cX11_pair 78 = .ok (.istore 8, 2) := by decide +kernel
theorem dX11_pair_80 : decode cX11_pair 80 = .ok (.aload_n 0, 1) := by decide +kernel
theorem dX11_pair_81 : decode cX11_pair 81 = .ok (.iload 7, 2) := by decide +kernel
theorem dX11_pair_83 : decode cX11_pair 83 = .ok (.iload_n 1, 1) := by decide +kernel
theorem dX11_pair_84 : decode cX11_pair 84 = .ok (.iload 8, 2) := by decide +kernel
theorem dX11_pair_86 : decode cX11_pair 86 = .ok (.invokevirtual 273, 3) := by decide +kernel
theorem dX11_pair_89 : decode cX11_pair 89 = .ok (.ifCond .ne 6, 3) := by decide +kernel
theorem dX11_pair_92 : decode cX11_pair 92 = .ok (.goto 124, 3) := by decide +kernel
theorem dX11_pair_95 : decode cX11_pair 95 = .ok (.iconst 0, 1) := by decide +kernel
theorem dX11_pair_96 : decode cX11_pair 96 = .ok (.istore 9, 2) := by decide +kernel
theorem dX11_pair_98 : decode cX11_pair 98 = .ok (.iload 9, 2) := by decide +kernel
theorem dX11_pair_100 : decode cX11_pair 100 = .ok (.aload_n 0, 1) := by decide +kernel
theorem dX11_pair_101 : decode cX11_pair 101 = .ok (.getfield 17, 3) := by decide +kernel
theorem dX11_pair_104 : decode cX11_pair 104 = .ok (.iconst 0, 1) := by decide +kernel
theorem dX11_pair_105 : decode cX11_pair 105 = .ok (.iaload, 1) := by decide +kernel
theorem dX11_pair_106 : decode cX11_pair 106 = .ok (.if_icmp .ge 110, 3) := by decide +kernel
theorem dX11_pair_109 : decode cX11_pair 109 = .ok (.aload_n 0, 1) := by decide +kernel
theorem dX11_pair_110 : decode cX11_pair 110 = .ok (.getfield 17, 3) := by decide +kernel
theorem dX11_pair_113 : decode cX11_pair 113 = .ok (.bipush 22, 2) := by decide +kernel
theorem dX11_pair_115 : decode cX11_pair 115 = .ok (.iload 9, 2) := by decide +kernel
theorem dX11_pair_117 : decode cX11_pair 117 = .ok (.iadd, 1) := by decide +kernel
theorem dX11_pair_118 : decode cX11_pair 118 = .ok (.iaload, 1) := by decide +kernel
theorem dX11_pair_119 : decode cX11_pair 119 = .ok (.aload_n 0, 1) := by decide +kernel
theorem dX11_pair_120 : decode cX11_pair 120 = .ok (.getfield 17, 3) := by decide +kernel
theorem dX11_pair_123 : decode cX11_pair 123 = .ok (.bipush 86, 2) := by decide +kernel
theorem dX11_pair_125 : decode cX11_pair 125 = .ok (.iload_n 1, 1) := by decide +kernel
theorem dX11_pair_126 : decode cX11_pair 126 = .ok (.iadd, 1) := by decide +kernel
theorem dX11_pair_127 : decode cX11_pair 127 = .ok (.iaload, 1) := by decide +kernel
theorem dX11_pair_128 : decode cX11_pair 128 = .ok (.iload 8, 2) := by decide +kernel
theorem dX11_pair_130 : decode cX11_pair 130 = .ok (.isub, 1) := by decide +kernel
theorem dX11_pair_131 : decode cX11_pair 131 = .ok (.invokestatic 236, 3) := by decide +kernel
theorem dX11_pair_134 : decode cX11_pair 134 = .ok (.istore 10, 2) := by decide +kernel
theorem dX11_pair_136 : decode cX11_pair 136 = .ok (.iload 9, 2) := by decide +kernel
theorem dX11_pair_138 : decode cX11_pair 138 = .ok (.iload 7, 2) := by decide +kernel
theorem dX11_pair_140 : decode cX11_pair 140 = .ok (.if_icmp .eq 70, 3) := by decide +kernel
theorem dX11_pair_143 : decode cX11_pair 143 = .ok (.iload 10, 2) := by decide +kernel
theorem dX11_pair_145 : decode cX11_pair 145 = .ok (.ifCond .le 65, 3) := by decide +kernel
theorem dX11_pair_148 : decode cX11_pair 148 = .ok (.aload_n 0, 1) := by decide +kernel
theorem dX11_pair_149 : decode cX11_pair 149 = .ok (.iload 9, 2) := by decide +kernel
theorem dX11_pair_151 : decode cX11_pair 151 = .ok (.iload_n 1, 1) := by decide +kernel
theorem dX11_pair_152 : decode cX11_pair 152 = .ok (.iload 10, 2) := by decide +kernel
theorem dX11_pair_154 : decode cX11_pair 154 = .ok (.invokevirtual 273, 3) := by decide +kernel
theorem dX11_pair_157 : decode cX11_pair 157 = .ok (.ifCond .ne 6, 3) := by decide +kernel
theorem dX11_pair_160 : decode cX11_pair 160 = .ok (.goto 50, 3) := by decide +kernel
theorem dX11_pair_163 : decode cX11_pair 163 = .ok (.aload_n 0, 1) := by decide +kernel
theorem dX11_pair_164 : decode cX11_pair 164 = .ok (.iload 7, 2) := by decide +kernel
theorem dX11_pair_166 : decode cX11_pair 166 = .ok (.iload_n 1, 1) := by decide +kernel
theorem dX11_pair_167 : decode cX11_pair 167 = .ok (.iload 8, 2) := by decide +kernel
theorem dX11_pair_169 : decode cX11_pair 169 = .ok (.invokevirtual 204, 3) := by decide +kernel
theorem dX11_pair_172 : decode cX11_pair 172 = .ok (.aload_n 0, 1) := by decide +kernel
theorem dX11_pair_173 : decode cX11_pair 173 = .ok (.iload 9, 2) := by decide +kernel
theorem dX11_pair_175 : decode cX11_pair 175 = .ok (.iload_n 1, 1) := by decide +kernel
theorem dX11_pair_176 : decode cX11_pair 176 = .ok (.iload 10, 2) := by decide +kernel
theorem dX11_pair_178 : decode cX11_pair 178 = .ok (.invokevirtual 204, 3) := by decide +kernel
theorem dX11_pair_181 : decode cX11_pair 181 = .ok (.iadd, 1) := by decide +kernel
theorem dX11_pair_182 : decode cX11_pair 182 = .ok (.istore 11, 2) := by decide +kernel
theorem dX11_pair_184 : decode cX11_pair 184 = .ok (.iload 4, 2) := by decide +kernel
theorem dX11_pair_186 : decode cX11_pair 186 = .ok (.bipush (-2), 2) := by decide +kernel
theorem dX11_pair_188 : decode cX11_pair 188 = .ok (.if_icmp .eq 10, 3) := by decide +kernel
theorem dX11_pair_191 : decode cX11_pair 191 = .ok (.iload 11, 2) := by decide +kernel
theorem dX11_pair_193 : decode cX11_pair 193 = .ok (.iload 4, 2) := by decide +kernel
theorem dX11_pair_195 : decode cX11_pair 195 = .ok (.if_icmp .le 15, 3) := by decide +kernel
theorem dX11_pair_198 : decode cX11_pair 198 = .ok (.iload 11, 2) := by decide +kernel
theorem dX11_pair_200 : decode cX11_pair 200 = .ok (.istore 4, 2) := by decide +kernel
theorem dX11_pair_202 : decode cX11_pair 202 = .ok (.iload 7, 2) := by decide +kernel
theorem dX11_pair_204 : decode cX11_pair 204 = .ok (.istore 5, 2) := by decide +kernel
theorem dX11_pair_206 : decode cX11_pair 206 = .ok (.iload 9, 2) := by decide +kernel
theorem dX11_pair_208 : decode cX11_pair 208 = .ok (.istore 6, 2) := by decide +kernel
theorem dX11_pair_210 : decode cX11_pair 210 = .ok (.iinc 9 1, 3) := by decide +kernel
theorem dX11_pair_213 : decode cX11_pair 213 = .ok (.goto (-115), 3) := by decide +kernel
theorem dX11_pair_216 : decode cX11_pair 216 = .ok (.iinc 7 1, 3) := by decide +kernel
theorem dX11_pair_219 : decode cX11_pair 219 = .ok (.goto (-163), 3) := by decide +kernel
theorem dX11_pair_222 : decode cX11_pair 222 = .ok (.iload_n 3, 1) := by decide +kernel
theorem dX11_pair_223 : decode cX11_pair 223 = .ok (.ifCond .ne 8, 3) := by decide +kernel
theorem dX11_pair_226 : decode cX11_pair 226 = .ok (.iload 4, 2) := by decide +kernel
theorem dX11_pair_228 : decode cX11_pair 228 = .ok (.goto 15, 3) := by decide +kernel
theorem dX11_pair_231 : decode cX11_pair 231 = .ok (.iload_n 3, 1) := by decide +kernel
theorem dX11_pair_232 : decode cX11_pair 232 = .ok (.iconst 1, 1) := by decide +kernel
theorem dX11_pair_233 : decode cX11_pair 233 = .ok (.if_icmp .ne 8, 3) := by decide +kernel
theorem dX11_pair_236 : decode cX11_pair 236 = .ok (.iload 5, 2) := by decide +kernel
theorem dX11_pair_238 : decode cX11_pair 238 = .ok (.goto 5, 3) := by decide +kernel
theorem dX11_pair_241 : decode cX11_pair 241 = .ok (.iload 6, 2) := by decide +kernel
theorem dX11_pair_243 : decode cX11_pair 243 = .ok (.ireturn, 1) := by decide +kernel
def lX11_pair_0 : List (Nat × (Op ⊕ Nat)) := [(0, .inl (o_aload 0 1)), (1, .inl (o_aload 0 2)), (2, .inl (o_iload 1 3)), (3, .inl (o_callV fX11_isGame 1 11 6)), (6, .inl (o_if_eq 22 9)), (9, .inl (o_iload 3 10)), (10, .inl (o_pushI (nI 0) 11)), (11, .inl (o_pushI (nI 2) 12)), (12, .inl (o_callS fX11_in 3 15)), (15, .inl (o_if_eq 22 18)), (18, .inl (o_pushI (nI 1) 19)), (19, .inl (o_goto 23)), (22, .inl (o_pushI (nI 0) 23)), (23, .inl (o_iload 2 24)), (24, .inl (o_pushI (nI 1) 25)), (25, .inl (o_pushI (nI 120) 27)), (27, .inl (o_callS fX11_in 3 30)), (30, .inl (o_callS fX11_unless_ 2 33)), (33, .inl (o_callV fX11_isRefused 1 11 36)), (36, .inl (o_if_eq 41 39)), (39, .inl (o_pushI ((-1)) 40)), (40, .inr 0), (41, .inl (o_pushI ((-2)) 43)), (43, .inl (o_istore 4 45)), (45, .inl (o_pushI ((-2)) 47)), (47, .inl (o_istore 5 49)), (49, .inl (o_pushI ((-2)) 51)), (51, .inl (o_istore 6 53)), (53, .inl (o_pushI (nI 0) 54)), (54, .inl (o_istore 7 56)), (56, .inl (o_iload 7 58)), (58, .inl (o_aload 0 59)), (59, .inl (o_get 11 7 62)), (62, .inl (o_pushI (nI 0) 63)), (63, .inl (o_iald 64)), (64, .inl (o_icmp_ge 222 67)), (67, .inl (o_iload 2 68)), (68, .inl (o_aload 0 69)), (69, .inl (o_iload 7 71)), (71, .inl (o_iload 1 72))]
def lX11_pair_1 : List (Nat × (Op ⊕ Nat)) := [(72, .inl (o_callV fX11_fullOf 2 11 75)), (75, .inl (o_callS fX11_lesser 2 78)), (78, .inl (o_istore 8 80)), (80, .inl (o_aload 0 81)), (81, .inl (o_iload 7 83)), (83, .inl (o_iload 1 84)), (84, .inl (o_iload 8 86)), (86, .inl (o_callV fX11_isAloneAllowed 3 11 89)), (89, .inl (o_if_ne 95 92)), (92, .inl (o_goto 216)), (95, .inl (o_pushI (nI 0) 96)), (96, .inl (o_istore 9 98)), (98, .inl (o_iload 9 100)), (100, .inl (o_aload 0 101)), (101, .inl (o_get 11 7 104)), (104, .inl (o_pushI (nI 0) 105)), (105, .inl (o_iald 106)), (106, .inl (o_icmp_ge 216 109)), (109, .inl (o_aload 0 110)), (110, .inl (o_get 11 7 113)), (113, .inl (o_pushI (nI 22) 115)), (115, .inl (o_iload 9 117)), (117, .inl (o_iadd 118)), (118, .inl (o_iald 119)), (119, .inl (o_aload 0 120)), (120, .inl (o_get 11 7 123)), (123, .inl (o_pushI (nI 86) 125)), (125, .inl (o_iload 1 126)), (126, .inl (o_iadd 127)), (127, .inl (o_iald 128)), (128, .inl (o_iload 8 130)), (130, .inl (o_isub 131)), (131, .inl (o_callS fX11_lesser 2 134)), (134, .inl (o_istore 10 136)), (136, .inl (o_iload 9 138)), (138, .inl (o_iload 7 140)), (140, .inl (o_icmp_eq 210 143)), (143, .inl (o_iload 10 145)), (145, .inl (o_if_le 210 148)), (148, .inl (o_aload 0 149))]
def lX11_pair_2 : List (Nat × (Op ⊕ Nat)) := [(149, .inl (o_iload 9 151)), (151, .inl (o_iload 1 152)), (152, .inl (o_iload 10 154)), (154, .inl (o_callV fX11_isAloneAllowed 3 11 157)), (157, .inl (o_if_ne 163 160)), (160, .inl (o_goto 210)), (163, .inl (o_aload 0 164)), (164, .inl (o_iload 7 166)), (166, .inl (o_iload 1 167)), (167, .inl (o_iload 8 169)), (169, .inl (o_callV fX11_worthOf 3 11 172)), (172, .inl (o_aload 0 173)), (173, .inl (o_iload 9 175)), (175, .inl (o_iload 1 176)), (176, .inl (o_iload 10 178)), (178, .inl (o_callV fX11_worthOf 3 11 181)), (181, .inl (o_iadd 182)), (182, .inl (o_istore 11 184)), (184, .inl (o_iload 4 186)), (186, .inl (o_pushI ((-2)) 188)), (188, .inl (o_icmp_eq 198 191)), (191, .inl (o_iload 11 193)), (193, .inl (o_iload 4 195)), (195, .inl (o_icmp_le 210 198)), (198, .inl (o_iload 11 200)), (200, .inl (o_istore 4 202)), (202, .inl (o_iload 7 204)), (204, .inl (o_istore 5 206)), (206, .inl (o_iload 9 208)), (208, .inl (o_istore 6 210)), (210, .inl (o_iinc 9 (nI 1) 213)), (213, .inl (o_goto 98)), (216, .inl (o_iinc 7 (nI 1) 219)), (219, .inl (o_goto 56)), (222, .inl (o_iload 3 223)), (223, .inl (o_if_ne 231 226)), (226, .inl (o_iload 4 228)), (228, .inl (o_goto 243)), (231, .inl (o_iload 3 232)), (232, .inl (o_pushI (nI 1) 233))]
def lX11_pair_3 : List (Nat × (Op ⊕ Nat)) := [(233, .inl (o_icmp_ne 241 236)), (236, .inl (o_iload 5 238)), (238, .inl (o_goto 243)), (241, .inl (o_iload 6 243)), (243, .inr 0)]
def lX11_pair : List (Nat × (Op ⊕ Nat)) := lX11_pair_0 ++ (lX11_pair_1 ++ (lX11_pair_2 ++ (lX11_pair_3)))
theorem qX11_pair : yX11_pair.cls = RX11 ∧ yX11_pair.cls ≠ "java/lang/invoke/MethodHandle" ∧ yX11_pair.cls ≠ "java/lang/invoke/VarHandle" ∧ (parseMethodDescriptor yX11_pair.desc).map (fun d => d.parameters.length) = some 3 := by decide +kernel
set_option maxRecDepth 10000 in
theorem hX11_pair_0 (l : Launch) {p : Program} {e : Env} {s : State} {m : MethodId} {args : Array Value} {below : List Frame} {meth : Method} {c : Code} {D : va_G} {ad adV : Nat → Nat} {cA : Nat → ClassId} {K : Kt} (C0 : Cx p s m args meth c D ad adV cA cX11_pair 12 RX11) (hr : meth.sig.returnType = (some .int)) : ∀ q ∈ lX11_pair_0, Sd p l e (rmd 4) s m args below meth c (MQ below (QQ D ad cA K) args s 0 0 (AA ad)) D ad cA 12 q.1 (opOf K q.2) := List.forall_mem_cons.mpr ⟨s_aload_n C0 dX11_pair_0 rfl, List.forall_mem_cons.mpr ⟨s_aload_n C0 dX11_pair_1 rfl, List.forall_mem_cons.mpr ⟨s_iload_n C0 dX11_pair_2 rfl, List.forall_mem_cons.mpr ⟨s_callV (ci := 11) C0 (kX11_isGame l) dX11_pair_3 rfl qX11_isGame tw7_14 tw7_16 twp_66 tw1_12 tw7_17 rfl (by decide) (by decide), List.forall_mem_cons.mpr ⟨s_if_eq C0 dX11_pair_6 rfl, List.forall_mem_cons.mpr ⟨s_iload_n C0 dX11_pair_9 rfl, List.forall_mem_cons.mpr ⟨s_iconst C0 dX11_pair_10 rfl, List.forall_mem_cons.mpr ⟨s_iconst C0 dX11_pair_11 rfl, List.forall_mem_cons.mpr ⟨s_callS C0 (kX11_in l) dX11_pair_12 qX11_in tw6_112 tw6_113 tw1_12 tw6_114 rfl (by decide) (by decide), List.forall_mem_cons.mpr ⟨s_if_eq C0 dX11_pair_15 rfl, List.forall_mem_cons.mpr ⟨s_iconst C0 dX11_pair_18 rfl, List.forall_mem_cons.mpr ⟨s_goto C0 dX11_pair_19 rfl, List.forall_mem_cons.mpr ⟨s_iconst C0 dX11_pair_22 rfl, List.forall_mem_cons.mpr ⟨s_iload_n C0 dX11_pair_23 rfl, List.forall_mem_cons.mpr ⟨s_iconst C0 dX11_pair_24 rfl, List.forall_mem_cons.mpr ⟨s_bipush C0 dX11_pair_25 (by decide +kernel), List.forall_mem_cons.mpr ⟨s_callS C0 (kX11_in l) dX11_pair_27 qX11_in tw6_112 tw6_113 tw1_12 tw6_114 rfl (by decide) (by decide), List.forall_mem_cons.mpr ⟨s_callS C0 (kX11_unless_ l) dX11_pair_30 qX11_unless_ tw6_115 tw6_116 tw1_12 tw6_117 rfl (by decide) (by decide), List.forall_mem_cons.mpr ⟨s_callV (ci := 11) C0 (kX11_isRefused l) dX11_pair_33 rfl qX11_isRefused tw6_118 tw6_120 twp_41 tw1_12 tw6_121 rfl (by decide) (by decide), List.forall_mem_cons.mpr ⟨s_if_eq C0 dX11_pair_36 rfl, List.forall_mem_cons.mpr ⟨s_iconst C0 dX11_pair_39 rfl, List.forall_mem_cons.mpr ⟨s_iret C0 hr dX11_pair_40, List.forall_mem_cons.mpr ⟨s_bipush C0 dX11_pair_41 (by decide +kernel), List.forall_mem_cons.mpr ⟨s_istore C0 dX11_pair_43 (by decide), List.forall_mem_cons.mpr ⟨s_bipush C0 dX11_pair_45 (by decide +kernel), List.forall_mem_cons.mpr ⟨s_istore C0 dX11_pair_47 (by decide), List.forall_mem_cons.mpr ⟨s_bipush C0 dX11_pair_49 (by decide +kernel), List.forall_mem_cons.mpr ⟨s_istore C0 dX11_pair_51 (by decide), List.forall_mem_cons.mpr ⟨s_iconst C0 dX11_pair_53 rfl, List.forall_mem_cons.mpr ⟨s_istore C0 dX11_pair_54 (by decide), List.forall_mem_cons.mpr ⟨s_iload C0 dX11_pair_56, List.forall_mem_cons.mpr ⟨s_aload_n C0 dX11_pair_58 rfl, List.forall_mem_cons.mpr ⟨s_get (ci := 11) (k := 7) C0 dX11_pair_59 inX11 rfl (by decide) tw6_18, List.forall_mem_cons.mpr ⟨s_iconst C0 dX11_pair_62 rfl, List.forall_mem_cons.mpr ⟨s_iald C0 dX11_pair_63, List.forall_mem_cons.mpr ⟨s_icmp_ge C0 dX11_pair_64 rfl, List.forall_mem_cons.mpr ⟨s_iload_n C0 dX11_pair_67 rfl, List.forall_mem_cons.mpr ⟨s_aload_n C0 dX11_pair_68 rfl, List.forall_mem_cons.mpr ⟨s_iload C0 dX11_pair_69, List.forall_mem_cons.mpr ⟨s_iload_n C0 dX11_pair_71 rfl, fun _ h => absurd h List.not_mem_nil⟩⟩⟩⟩⟩⟩⟩⟩⟩⟩⟩⟩⟩⟩⟩⟩⟩⟩⟩⟩⟩⟩⟩⟩⟩⟩⟩⟩⟩⟩⟩⟩⟩⟩⟩⟩⟩⟩⟩⟩
set_option maxRecDepth 10000 in
theorem hX11_pair_1 (l : Launch) {p : Program} {e : Env} {s : State} {m : MethodId} {args : Array Value} {below : List Frame} {meth : Method} {c : Code} {D : va_G} {ad adV : Nat → Nat} {cA : Nat → ClassId} {K : Kt} (C0 : Cx p s m args meth c D ad adV cA cX11_pair 12 RX11) (hr : meth.sig.returnType = (some .int)) : ∀ q ∈ lX11_pair_1, Sd p l e (rmd 4) s m args below meth c (MQ below (QQ D ad cA K) args s 0 0 (AA ad)) D ad cA 12 q.1 (opOf K q.2) := List.forall_mem_cons.mpr ⟨s_callV (ci := 11) C0 (kX11_fullOf l) dX11_pair_72 rfl qX11_fullOf tw7_97 tw7_99 twp_77 tw1_12 tw7_100 rfl (by decide) (by decide), List.forall_mem_cons.mpr ⟨s_callS C0 (kX11_lesser l) dX11_pair_75 qX11_lesser tw7_82 tw7_83 tw1_12 tw7_84 rfl (by decide) (by decide), List.forall_mem_cons.mpr ⟨s_istore C0 dX11_pair_78 (by decide), List.forall_mem_cons.mpr ⟨s_aload_n C0 dX11_pair_80 rfl, List.forall_mem_cons.mpr ⟨s_iload C0 dX11_pair_81, List.forall_mem_cons.mpr ⟨s_iload_n C0 dX11_pair_83 rfl, List.forall_mem_cons.mpr ⟨s_iload C0 dX11_pair_84, List.forall_mem_cons.mpr ⟨s_callV (ci := 11) C0 (kX11_isAloneAllowed l) dX11_pair_86 rfl qX11_isAloneAllowed tw7_137 tw7_139 twp_83 tw1_12 tw7_140 rfl (by decide) (by decide), List.forall_mem_cons.mpr ⟨s_if_ne C0 dX11_pair_89 rfl, List.forall_mem_cons.mpr ⟨s_goto C0 dX11_pair_92 rfl, List.forall_mem_cons.mpr ⟨s_iconst C0 dX11_pair_95 rfl, List.forall_mem_cons.mpr ⟨s_istore C0 dX11_pair_96 (by decide), List.forall_mem_cons.mpr ⟨s_iload C0 dX11_pair_98, List.forall_mem_cons.mpr ⟨s_aload_n C0 dX11_pair_100 rfl, List.forall_mem_cons.mpr ⟨s_get (ci := 11) (k := 7) C0 dX11_pair_101 inX11 rfl (by decide) tw6_18, List.forall_mem_cons.mpr ⟨s_iconst C0 dX11_pair_104 rfl, List.forall_mem_cons.mpr ⟨s_iald C0 dX11_pair_105, List.forall_mem_cons.mpr ⟨s_icmp_ge C0 dX11_pair_106 rfl, List.forall_mem_cons.mpr ⟨s_aload_n C0 dX11_pair_109 rfl, List.forall_mem_cons.mpr ⟨s_get (ci := 11) (k := 7) C0 dX11_pair_110 inX11 rfl (by decide) tw6_18, List.forall_mem_cons.mpr ⟨s_bipush C0 dX11_pair_113 (by decide +kernel), List.forall_mem_cons.mpr ⟨s_iload C0 dX11_pair_115, List.forall_mem_cons.mpr ⟨s_iadd C0 dX11_pair_117, List.forall_mem_cons.mpr ⟨s_iald C0 dX11_pair_118, List.forall_mem_cons.mpr ⟨s_aload_n C0 dX11_pair_119 rfl, List.forall_mem_cons.mpr ⟨s_get (ci := 11) (k := 7) C0 dX11_pair_120 inX11 rfl (by decide) tw6_18, List.forall_mem_cons.mpr ⟨s_bipush C0 dX11_pair_123 (by decide +kernel), List.forall_mem_cons.mpr ⟨s_iload_n C0 dX11_pair_125 rfl, List.forall_mem_cons.mpr ⟨s_iadd C0 dX11_pair_126, List.forall_mem_cons.mpr ⟨s_iald C0 dX11_pair_127, List.forall_mem_cons.mpr ⟨s_iload C0 dX11_pair_128, List.forall_mem_cons.mpr ⟨s_isub C0 dX11_pair_130, List.forall_mem_cons.mpr ⟨s_callS C0 (kX11_lesser l) dX11_pair_131 qX11_lesser tw7_82 tw7_83 tw1_12 tw7_84 rfl (by decide) (by decide), List.forall_mem_cons.mpr ⟨s_istore C0 dX11_pair_134 (by decide), List.forall_mem_cons.mpr ⟨s_iload C0 dX11_pair_136, List.forall_mem_cons.mpr ⟨s_iload C0 dX11_pair_138, List.forall_mem_cons.mpr ⟨s_icmp_eq C0 dX11_pair_140 rfl, List.forall_mem_cons.mpr ⟨s_iload C0 dX11_pair_143, List.forall_mem_cons.mpr ⟨s_if_le C0 dX11_pair_145 rfl, List.forall_mem_cons.mpr ⟨s_aload_n C0 dX11_pair_148 rfl, fun _ h => absurd h List.not_mem_nil⟩⟩⟩⟩⟩⟩⟩⟩⟩⟩⟩⟩⟩⟩⟩⟩⟩⟩⟩⟩⟩⟩⟩⟩⟩⟩⟩⟩⟩⟩⟩⟩⟩⟩⟩⟩⟩⟩⟩⟩
set_option maxRecDepth 10000 in
theorem hX11_pair_2 (l : Launch) {p : Program} {e : Env} {s : State} {m : MethodId} {args : Array Value} {below : List Frame} {meth : Method} {c : Code} {D : va_G} {ad adV : Nat → Nat} {cA : Nat → ClassId} {K : Kt} (C0 : Cx p s m args meth c D ad adV cA cX11_pair 12 RX11) (hr : meth.sig.returnType = (some .int)) : ∀ q ∈ lX11_pair_2, Sd p l e (rmd 4) s m args below meth c (MQ below (QQ D ad cA K) args s 0 0 (AA ad)) D ad cA 12 q.1 (opOf K q.2) := List.forall_mem_cons.mpr ⟨s_iload C0 dX11_pair_149, List.forall_mem_cons.mpr ⟨s_iload_n C0 dX11_pair_151 rfl, List.forall_mem_cons.mpr ⟨s_iload C0 dX11_pair_152, List.forall_mem_cons.mpr ⟨s_callV (ci := 11) C0 (kX11_isAloneAllowed l) dX11_pair_154 rfl qX11_isAloneAllowed tw7_137 tw7_139 twp_83 tw1_12 tw7_140 rfl (by decide) (by decide), List.forall_mem_cons.mpr ⟨s_if_ne C0 dX11_pair_157 rfl, List.forall_mem_cons.mpr ⟨s_goto C0 dX11_pair_160 rfl, List.forall_mem_cons.mpr ⟨s_aload_n C0 dX11_pair_163 rfl, List.forall_mem_cons.mpr ⟨s_iload C0 dX11_pair_164, List.forall_mem_cons.mpr ⟨s_iload_n C0 dX11_pair_166 rfl, List.forall_mem_cons.mpr ⟨s_iload C0 dX11_pair_167, List.forall_mem_cons.mpr ⟨s_callV (ci := 11) C0 (kX11_worthOf l) dX11_pair_169 rfl qX11_worthOf tw6_234 tw6_236 twp_62 tw1_12 tw6_237 rfl (by decide) (by decide), List.forall_mem_cons.mpr ⟨s_aload_n C0 dX11_pair_172 rfl, List.forall_mem_cons.mpr ⟨s_iload C0 dX11_pair_173, List.forall_mem_cons.mpr ⟨s_iload_n C0 dX11_pair_175 rfl, List.forall_mem_cons.mpr ⟨s_iload C0 dX11_pair_176, List.forall_mem_cons.mpr ⟨s_callV (ci := 11) C0 (kX11_worthOf l) dX11_pair_178 rfl qX11_worthOf tw6_234 tw6_236 twp_62 tw1_12 tw6_237 rfl (by decide) (by decide), List.forall_mem_cons.mpr ⟨s_iadd C0 dX11_pair_181, List.forall_mem_cons.mpr ⟨s_istore C0 dX11_pair_182 (by decide), List.forall_mem_cons.mpr ⟨s_iload C0 dX11_pair_184, List.forall_mem_cons.mpr ⟨s_bipush C0 dX11_pair_186 (by decide +kernel), List.forall_mem_cons.mpr ⟨s_icmp_eq C0 dX11_pair_188 rfl, List.forall_mem_cons.mpr ⟨s_iload C0 dX11_pair_191, List.forall_mem_cons.mpr ⟨s_iload C0 dX11_pair_193, List.forall_mem_cons.mpr ⟨s_icmp_le C0 dX11_pair_195 rfl, List.forall_mem_cons.mpr ⟨s_iload C0 dX11_pair_198, List.forall_mem_cons.mpr ⟨s_istore C0 dX11_pair_200 (by decide), List.forall_mem_cons.mpr ⟨s_iload C0 dX11_pair_202, List.forall_mem_cons.mpr ⟨s_istore C0 dX11_pair_204 (by decide), List.forall_mem_cons.mpr ⟨s_iload C0 dX11_pair_206, List.forall_mem_cons.mpr ⟨s_istore C0 dX11_pair_208 (by decide), List.forall_mem_cons.mpr ⟨s_iinc C0 dX11_pair_210 rfl (by decide), List.forall_mem_cons.mpr ⟨s_goto C0 dX11_pair_213 rfl, List.forall_mem_cons.mpr ⟨s_iinc C0 dX11_pair_216 rfl (by decide), List.forall_mem_cons.mpr ⟨s_goto C0 dX11_pair_219 rfl, List.forall_mem_cons.mpr ⟨s_iload_n C0 dX11_pair_222 rfl, List.forall_mem_cons.mpr ⟨s_if_ne C0 dX11_pair_223 rfl, List.forall_mem_cons.mpr ⟨s_iload C0 dX11_pair_226, List.forall_mem_cons.mpr ⟨s_goto C0 dX11_pair_228 rfl, List.forall_mem_cons.mpr ⟨s_iload_n C0 dX11_pair_231 rfl, List.forall_mem_cons.mpr ⟨s_iconst C0 dX11_pair_232 rfl, fun _ h => absurd h List.not_mem_nil⟩⟩⟩⟩⟩⟩⟩⟩⟩⟩⟩⟩⟩⟩⟩⟩⟩⟩⟩⟩⟩⟩⟩⟩⟩⟩⟩⟩⟩⟩⟩⟩⟩⟩⟩⟩⟩⟩⟩⟩
set_option maxRecDepth 10000 in
theorem hX11_pair_3 (l : Launch) {p : Program} {e : Env} {s : State} {m : MethodId} {args : Array Value} {below : List Frame} {meth : Method} {c : Code} {D : va_G} {ad adV : Nat → Nat} {cA : Nat → ClassId} {K : Kt} (C0 : Cx p s m args meth c D ad adV cA cX11_pair 12 RX11) (hr : meth.sig.returnType = (some .int)) : ∀ q ∈ lX11_pair_3, Sd p l e (rmd 4) s m args below meth c (MQ below (QQ D ad cA K) args s 0 0 (AA ad)) D ad cA 12 q.1 (opOf K q.2) := List.forall_mem_cons.mpr ⟨s_icmp_ne C0 dX11_pair_233 rfl, List.forall_mem_cons.mpr ⟨s_iload C0 dX11_pair_236, List.forall_mem_cons.mpr ⟨s_goto C0 dX11_pair_238 rfl, List.forall_mem_cons.mpr ⟨s_iload C0 dX11_pair_241, List.forall_mem_cons.mpr ⟨s_iret C0 hr dX11_pair_243, fun _ h => absurd h List.not_mem_nil⟩⟩⟩⟩⟩
def fX11_pair : Mf := mf 12 (fun K => tl K lX11_pair)
theorem kX11_pair (l : Launch) : Okm l yX11_pair cX11_pair 12 (some .int) 4 fX11_pair := Okm_tl (own := RX11) (by decide +kernel) rfl (fun C0 hr => List.forall_mem_append.mpr ⟨hX11_pair_0 l C0 hr, List.forall_mem_append.mpr ⟨hX11_pair_1 l C0 hr, List.forall_mem_append.mpr ⟨hX11_pair_2 l C0 hr, hX11_pair_3 l C0 hr⟩⟩⟩)
