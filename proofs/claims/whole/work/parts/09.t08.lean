theorem dX11_breachAt_0 : decode cX11_breachAt 0 = .ok (.iload_n 1, 1) := by decide +kernel
theorem dX11_breachAt_1 : decode cX11_breachAt 1 = .ok (.istore_n 2, 1) := by decide +kernel
theorem dX11_breachAt_2 : decode cX11_breachAt 2 = .ok (.iconst 0, 1) := by decide +kernel
theorem dX11_breachAt_3 : decode cX11_breachAt 3 = .ok (.istore_n 3, 1) := by decide +kernel
theorem dX11_breachAt_4 : decode cX11_breachAt 4 = .ok (.iload_n 3, 1) := by decide +kernel
theorem dX11_breachAt_5 : decode cX11_breachAt 5 = .ok (.aload_n 0, 1) := by decide +kernel
theorem dX11_breachAt_6 : decode cX11_breachAt 6 = .ok (.getfield 17, 3) := by decide +kernel
theorem dX11_breachAt_9 : decode cX11_breachAt 9 = .ok (.iconst 1, 1) := by decide +kernel
theorem dX11_breachAt_10 : decode cX11_breachAt 10 = .ok (.iaload, 1) := by decide +kernel
theorem dX11_breachAt_11 : decode cX11_breachAt 11 = .ok (.if_icmp .ge 57, 3) := by decide +kernel
theorem dX11_breachAt_14 : decode cX11_breachAt 14 = .ok (.iconst 0, 1) := by decide +kernel
theorem dX11_breachAt_15 : decode cX11_breachAt 15 = .ok (.istore 4, 2) := by decide +kernel
theorem dX11_breachAt_17 : decode cX11_breachAt 17 = .ok (.iload 4, 2) := by decide +kernel
theorem dX11_breachAt_19 : decode cX11_breachAt 19 = .ok (.aload_n 0, 1) := by decide +kernel
theorem dX11_breachAt_20 : decode cX11_breachAt 20 = .ok (.getfield 17, 3) := by decide +kernel
theorem dX11_breachAt_23 : decode cX11_breachAt 23 = .ok (.bipush 106, 2) := by decide +kernel
theorem dX11_breachAt_25 : decode cX11_breachAt 25 = .ok (.iload_n 3, 1) := by decide +kernel
theorem dX11_breachAt_26 : decode cX11_breachAt 26 = .ok (.iadd, 1) := by decide +kernel
theorem dX11_breachAt_27 : decode cX11_breachAt 27 = .ok (.iaload, 1) := by decide +kernel
theorem dX11_breachAt_28 : decode cX11_breachAt 28 = .ok (.if_icmp .ge 34, 3) := by decide +kernel
theorem dX11_breachAt_31 : decode cX11_breachAt 31 = .ok (.aload_n 0, 1) := by decide +kernel
theorem dX11_breachAt_32 : decode cX11_breachAt 32 = .ok (.iload_n 3, 1) := by decide +kernel
theorem dX11_breachAt_33 : decode cX11_breachAt 33 = .ok (.iload 4, 2) := by decide +kernel
theorem dX11_breachAt_35 : decode cX11_breachAt 35 = .ok (.invokevirtual 249, 3) := by decide +kernel
theorem dX11_breachAt_38 : decode cX11_breachAt 38 = .ok (.ifCond .ne 18, 3) := by decide +kernel
theorem dX11_breachAt_41 : decode cX11_breachAt 41 = .ok (.iload_n 2, 1) := by decide +kernel
theorem dX11_breachAt_42 : decode cX11_breachAt 42 = .ok (.ifCond .ne 11, 3) := by decide +kernel
theorem dX11_breachAt_45 : decode cX11_breachAt 45 = .ok (.aload_n 0, 1) := by decide +kernel
theorem dX11_breachAt_46 : decode cX11_breachAt 46 = .ok (.iload_n 3, 1) := by decide +kernel
theorem dX11_breachAt_47 : decode cX11_breachAt 47 = .ok (.iload 4, 2) := by decide +kernel
theorem dX11_breachAt_49 : decode cX11_breachAt 49 = .ok (.invokevirtual 195, 3) := by decide +kernel
theorem dX11_breachAt_52 : decode cX11_breachAt 52 = .ok (.ireturn, 1) := by decide +kernel
theorem dX11_breachAt_53 : decode cX11_breachAt 53 = .ok (.iinc 2 (-1), 3) := by decide +kernel
theorem dX11_breachAt_56 : decode cX11_breachAt 56 = .ok (.iinc 4 1, 3) := by decide +kernel
theorem dX11_breachAt_59 : decode cX11_breachAt 59 = .ok (.goto (-42), 3) := by decide +kernel
theorem dX11_breachAt_62 : decode cX11_breachAt 62 = .ok (.iinc 3 1, 3) := by decide +kernel
theorem dX11_breachAt_65 : decode cX11_breachAt 65 = .ok (.goto (-61), 3) := by decide +kernel
theorem dX11_breachAt_68 : decode cX11_breachAt 68 = .ok (.bipush (-2), 2) := by decide +kernel
theorem dX11_breachAt_70 : decode cX11_breachAt 70 = .ok (.ireturn, 1) := by decide +kernel
def lX11_breachAt : List (Nat × (Op ⊕ Nat)) := [(0, .inl (o_iload 1 1)), (1, .inl (o_istore 2 2)), (2, .inl (o_pushI (nI 0) 3)), (3, .inl (o_istore 3 4)), (4, .inl (o_iload 3 5)), (5, .inl (o_aload 0 6)), (6, .inl (o_get 11 7 9)), (9, .inl (o_pushI (nI 1) 10)), (10, .inl (o_iald 11)), (11, .inl (o_icmp_ge 68 14)), (14, .inl (o_pushI (nI 0) 15)), (15, .inl (o_istore 4 17)), (17, .inl (o_iload 4 19)), (19, .inl (o_aload 0 20)), (20, .inl (o_get 11 7 23)), (23, .inl (o_pushI (nI 106) 25)), (25, .inl (o_iload 3 26)), (26, .inl (o_iadd 27)), (27, .inl (o_iald 28)), (28, .inl (o_icmp_ge 62 31)), (31, .inl (o_aload 0 32)), (32, .inl (o_iload 3 33)), (33, .inl (o_iload 4 35)), (35, .inl (o_callV fX11_isAllowedAt 2 11 38)), (38, .inl (o_if_ne 56 41)), (41, .inl (o_iload 2 42)), (42, .inl (o_if_ne 53 45)), (45, .inl (o_aload 0 46)), (46, .inl (o_iload 3 47)), (47, .inl (o_iload 4 49)), (49, .inl (o_callV fX11_slot 2 11 52)), (52, .inr 0), (53, .inl (o_iinc 2 ((-1)) 56)), (56, .inl (o_iinc 4 (nI 1) 59)), (59, .inl (o_goto 17)), (62, .inl (o_iinc 3 (nI 1) 65)), (65, .inl (o_goto 4)), (68, .inl (o_pushI ((-2)) 70)), (70, .inr 0)]
theorem qX11_breachAt : yX11_breachAt.cls = RX11 ∧ yX11_breachAt.cls ≠ "java/lang/invoke/MethodHandle" ∧ yX11_breachAt.cls ≠ "java/lang/invoke/VarHandle" ∧ (parseMethodDescriptor yX11_breachAt.desc).map (fun d => d.parameters.length) = some 1 := by decide +kernel
set_option maxRecDepth 10000 in
theorem hX11_breachAt_0 (l : Launch) {p : Program} {e : Env} {s : State} {m : MethodId} {args : Array Value} {below : List Frame} {meth : Method} {c : Code} {D : va_G} {ad adV : Nat → Nat} {cA : Nat → ClassId} {K : Kt} (C0 : Cx p s m args meth c D ad adV cA cX11_breachAt 5 RX11) (hr : meth.sig.returnType = (some .int)) : ∀ q ∈ lX11_breachAt, Sd p l e (rmd 4) s m args below meth c (MQ below (QQ D ad cA K) args s 0 0 (AA ad)) D ad cA 5 q.1 (opOf K q.2) := List.forall_mem_cons.mpr ⟨s_iload_n C0 dX11_breachAt_0 rfl, List.forall_mem_cons.mpr ⟨s_istore_n C0 dX11_breachAt_1 rfl (by decide), List.forall_mem_cons.mpr ⟨s_iconst C0 dX11_breachAt_2 rfl, List.forall_mem_cons.mpr ⟨s_istore_n C0 dX11_breachAt_3 rfl (by decide), List.forall_mem_cons.mpr ⟨s_iload_n C0 dX11_breachAt_4 rfl, List.forall_mem_cons.mpr ⟨s_aload_n C0 dX11_breachAt_5 rfl, List.forall_mem_cons.mpr ⟨s_get (ci := 11) (k := 7) C0 dX11_breachAt_6 inX11 rfl (by decide) tw6_18, List.forall_mem_cons.mpr ⟨s_iconst C0 dX11_breachAt_9 rfl, List.forall_mem_cons.mpr ⟨s_iald C0 dX11_breachAt_10, List.forall_mem_cons.mpr ⟨s_icmp_ge C0 dX11_breachAt_11 rfl, List.forall_mem_cons.mpr ⟨s_iconst C0 dX11_breachAt_14 rfl, List.forall_mem_cons.mpr ⟨s_istore C0 dX11_breachAt_15 (by decide), List.forall_mem_cons.mpr ⟨s_iload C0 dX11_breachAt_17, List.forall_mem_cons.mpr ⟨s_aload_n C0 dX11_breachAt_19 rfl, List.forall_mem_cons.mpr ⟨s_get (ci := 11) (k := 7) C0 dX11_breachAt_20 inX11 rfl (by decide) tw6_18, List.forall_mem_cons.mpr ⟨s_bipush C0 dX11_breachAt_23 (by decide +kernel), List.forall_mem_cons.mpr ⟨s_iload_n C0 dX11_breachAt_25 rfl, List.forall_mem_cons.mpr ⟨s_iadd C0 dX11_breachAt_26, List.forall_mem_cons.mpr ⟨s_iald C0 dX11_breachAt_27, List.forall_mem_cons.mpr ⟨s_icmp_ge C0 dX11_breachAt_28 rfl, List.forall_mem_cons.mpr ⟨s_aload_n C0 dX11_breachAt_31 rfl, List.forall_mem_cons.mpr ⟨s_iload_n C0 dX11_breachAt_32 rfl, List.forall_mem_cons.mpr ⟨s_iload C0 dX11_breachAt_33, List.forall_mem_cons.mpr ⟨s_callV (ci := 11) C0 (kX11_isAllowedAt l) dX11_breachAt_35 rfl qX11_isAllowedAt tw7_38 tw7_40 twp_70 tw1_12 tw7_41 rfl (by decide) (by decide), List.forall_mem_cons.mpr ⟨s_if_ne C0 dX11_breachAt_38 rfl, List.forall_mem_cons.mpr ⟨s_iload_n C0 dX11_breachAt_41 rfl, List.forall_mem_cons.mpr ⟨s_if_ne C0 dX11_breachAt_42 rfl, List.forall_mem_cons.mpr ⟨s_aload_n C0 dX11_breachAt_45 rfl, List.forall_mem_cons.mpr ⟨s_iload_n C0 dX11_breachAt_46 rfl, List.forall_mem_cons.mpr ⟨s_iload C0 dX11_breachAt_47, List.forall_mem_cons.mpr ⟨s_callV (ci := 11) C0 (kX11_slot l) dX11_breachAt_49 rfl qX11_slot tw6_226 tw6_228 twp_60 tw1_12 tw6_229 rfl (by decide) (by decide), List.forall_mem_cons.mpr ⟨s_iret C0 hr dX11_breachAt_52, List.forall_mem_cons.mpr ⟨s_iinc C0 dX11_breachAt_53 rfl (by decide), List.forall_mem_cons.mpr ⟨s_iinc C0 dX11_breachAt_56 rfl (by decide), List.forall_mem_cons.mpr ⟨s_goto C0 dX11_breachAt_59 rfl, List.forall_mem_cons.mpr ⟨s_iinc C0 dX11_breachAt_62 rfl (by decide), List.forall_mem_cons.mpr ⟨s_goto C0 dX11_breachAt_65 rfl, List.forall_mem_cons.mpr ⟨s_bipush C0 dX11_breachAt_68 (by decide +kernel), List.forall_mem_cons.mpr ⟨s_iret C0 hr dX11_breachAt_70, fun _ h => absurd h List.not_mem_nil⟩⟩⟩⟩⟩⟩⟩⟩⟩⟩⟩⟩⟩⟩⟩⟩⟩⟩⟩⟩⟩⟩⟩⟩⟩⟩⟩⟩⟩⟩⟩⟩⟩⟩⟩⟩⟩⟩⟩
def fX11_breachAt : Mf := mf 5 (fun K => tl K lX11_breachAt)
theorem kX11_breachAt (l : Launch) : Okm l yX11_breachAt cX11_breachAt 5 (some .int) 4 fX11_breachAt := Okm_tl (own := RX11) (by decide +kernel) rfl (fun C0 hr => hX11_breachAt_0 l C0 hr)
theorem dX11_breaches_0 : decode cX11_breaches 0 = .ok (.aload_n 0, 1) := by decide +kernel
theorem dX11_breaches_1 : decode cX11_breaches 1 = .ok (.aload_n 0, 1) := by decide +kernel
theorem dX11_breaches_2 : decode cX11_breaches 2 = .ok (.getfield 171, 3) := by decide +kernel
theorem dX11_breaches_5 : decode cX11_breaches 5 = .ok (.invokestatic 182, 3) := by decide +kernel
theorem dX11_breaches_8 : decode cX11_breaches 8 = .ok (.invokevirtual 159, 3) := by decide +kernel
theorem dX11_breaches_11 : decode cX11_breaches 11 = .ok (.ifCond .eq 5, 3) := by decide +kernel
theorem dX11_breaches_14 : decode cX11_breaches 14 = .ok (.iconst (-1), 1) := by decide +kernel
theorem dX11_breaches_15 : decode cX11_breaches 15 = .ok (.ireturn, 1) := by decide +kernel
theorem dX11_breaches_16 : decode cX11_breaches 16 = .ok (.iconst 0, 1) := by decide +kernel
theorem dX11_breaches_17 : decode cX11_breaches 17 = .ok (.istore_n 1, 1) := by decide +kernel
theorem dX11_breaches_18 : decode cX11_breaches 18 = .ok (.aload_n 0, 1) := by decide +kernel
theorem dX11_breaches_19 : decode cX11_breaches 19 = .ok (.iload_n 1, 1) := by decide +kernel
theorem dX11_breaches_20 : decode cX11_breaches 20 = .ok (.invokevirtual 276, 3) := by decide +kernel
theorem dX11_breaches_23 : decode cX11_breaches 23 = .ok (.bipush (-2), 2) := by decide +kernel
theorem dX11_breaches_25 : decode cX11_breaches 25 = .ok (.if_icmp .eq 9, 3) := by decide +kernel
theorem dX11_breaches_28 : decode cX11_breaches 28 = .ok (.iinc 1 1, 3) := by decide +kernel
theorem dX11_breaches_31 : decode cX11_breaches 31 = .ok (.goto (-13), 3) := by decide +kernel
theorem dX11_breaches_34 : decode cX11_breaches 34 = .ok (.iload_n 1, 1) := by decide +kernel
theorem dX11_breaches_35 : decode cX11_breaches 35 = .ok (.ireturn, 1) := by decide +kernel
def lX11_breaches : List (Nat × (Op ⊕ Nat)) := [(0, .inl (o_aload 0 1)), (1, .inl (o_aload 0 2)), (2, .inl (o_get 11 6 5)), (5, .inl (o_callS fX11_unless 1 8)), (8, .inl (o_callV fX11_isRefused 1 11 11)), (11, .inl (o_if_eq 16 14)), (14, .inl (o_pushI ((-1)) 15)), (15, .inr 0), (16, .inl (o_pushI (nI 0) 17)), (17, .inl (o_istore 1 18)), (18, .inl (o_aload 0 19)), (19, .inl (o_iload 1 20)), (20, .inl (o_callV fX11_breachAt 1 11 23)), (23, .inl (o_pushI ((-2)) 25)), (25, .inl (o_icmp_eq 34 28)), (28, .inl (o_iinc 1 (nI 1) 31)), (31, .inl (o_goto 18)), (34, .inl (o_iload 1 35)), (35, .inr 0)]
theorem qX11_breaches : yX11_breaches.cls = RX11 ∧ yX11_breaches.cls ≠ "java/lang/invoke/MethodHandle" ∧ yX11_breaches.cls ≠ "java/lang/invoke/VarHandle" ∧ (parseMethodDescriptor yX11_breaches.desc).map (fun d => d.parameters.length) = some 0 := by decide +kernel
set_option maxRecDepth 10000 in
theorem hX11_breaches_0 (l : Launch) {p : Program} {e : Env} {s : State} {m : MethodId} {args : Array Value} {below : List Frame} {meth : Method} {c : Code} {D : va_G} {ad adV : Nat → Nat} {cA : Nat → ClassId} {K : Kt} (C0 : Cx p s m args meth c D ad adV cA cX11_breaches 2 RX11) (hr : meth.sig.returnType = (some .int)) : ∀ q ∈ lX11_breaches, Sd p l e (rmd 5) s m args below meth c (MQ below (QQ D ad cA K) args s 0 0 (AA ad)) D ad cA 2 q.1 (opOf K q.2) := List.forall_mem_cons.mpr ⟨s_aload_n C0 dX11_breaches_0 rfl, List.forall_mem_cons.mpr ⟨s_aload_n C0 dX11_breaches_1 rfl, List.forall_mem_cons.mpr ⟨s_get (ci := 11) (k := 6) C0 dX11_breaches_2 inX11 rfl (by decide) tw6_17, List.forall_mem_cons.mpr ⟨s_callS C0 (kX11_unless l) dX11_breaches_5 qX11_unless tw6_203 tw6_204 tw1_12 tw6_205 rfl (by decide) (by decide), List.forall_mem_cons.mpr ⟨s_callV (ci := 11) C0 (kX11_isRefused l) dX11_breaches_8 rfl qX11_isRefused tw6_118 tw6_120 twp_41 tw1_12 tw6_121 rfl (by decide) (by decide), List.forall_mem_cons.mpr ⟨s_if_eq C0 dX11_breaches_11 rfl, List.forall_mem_cons.mpr ⟨s_iconst C0 dX11_breaches_14 rfl, List.forall_mem_cons.mpr ⟨s_iret C0 hr dX11_breaches_15, List.forall_mem_cons.mpr ⟨s_iconst C0 dX11_breaches_16 rfl, List.forall_mem_cons.mpr ⟨s_istore_n C0 dX11_breaches_17 rfl (by decide), List.forall_mem_cons.mpr ⟨s_aload_n C0 dX11_breaches_18 rfl, List.forall_mem_cons.mpr ⟨s_iload_n C0 dX11_breaches_19 rfl, List.forall_mem_cons.mpr ⟨s_callV (ci := 11) C0 (kX11_breachAt l) dX11_breaches_20 rfl qX11_breachAt tw7_145 tw7_147 twp_84 tw1_12 tw7_148 rfl (by decide) (by decide), List.forall_mem_cons.mpr ⟨s_bipush C0 dX11_breaches_23 (by decide +kernel), List.forall_mem_cons.mpr ⟨s_icmp_eq C0 dX11_breaches_25 rfl, List.forall_mem_cons.mpr ⟨s_iinc C0 dX11_breaches_28 rfl (by decide), List.forall_mem_cons.mpr ⟨s_goto C0 dX11_breaches_31 rfl, List.forall_mem_cons.mpr ⟨s_iload_n C0 dX11_breaches_34 rfl, List.forall_mem_cons.mpr ⟨s_iret C0 hr dX11_breaches_35, fun _ h => absurd h List.not_mem_nil⟩⟩⟩⟩⟩⟩⟩⟩⟩⟩⟩⟩⟩⟩⟩⟩⟩⟩⟩
def fX11_breaches : Mf := mf 2 (fun K => tl K lX11_breaches)
theorem kX11_breaches (l : Launch) : Okm l yX11_breaches cX11_breaches 2 (some .int) 5 fX11_breaches := Okm_tl (own := RX11) (by decide +kernel) rfl (fun C0 hr => hX11_breaches_0 l C0 hr)
theorem dX11_breach_0 : decode cX11_breach 0 = .ok (.aload_n 0, 1) := by decide +kernel
theorem dX11_breach_1 : decode cX11_breach 1 = .ok (.aload_n 0, 1) := by decide +kernel
theorem dX11_breach_2 : decode cX11_breach 2 = .ok (.getfield 171, 3) := by decide +kernel
theorem dX11_breach_5 : decode cX11_breach 5 = .ok (.ifCond .eq 11, 3) := by decide +kernel
theorem dX11_breach_8 : decode cX11_breach 8 = .ok (.iload_n 1, 1) := by decide +kernel
theorem dX11_breach_9 : decode cX11_breach 9 = .ok (.ifCond .lt 7, 3) := by decide +kernel
theorem dX11_breach_12 : decode cX11_breach 12 = .ok (.iconst 1, 1) := by decide +kernel
theorem dX11_breach_13 : decode cX11_breach 13 = .ok (.goto 4, 3) := by decide +kernel
theorem dX11_breach_16 : decode cX11_breach 16 = .ok (.iconst 0, 1) := by decide +kernel
theorem dX11_breach_17 : decode cX11_breach 17 = .ok (.invokestatic 182, 3) := by decide +kernel
theorem dX11_breach_20 : decode cX11_breach 20 = .ok (.invokevirtual 159, 3) := by decide +kernel
theorem dX11_breach_23 : decode cX11_breach 23 = .ok (.ifCond .eq 7, 3) := by decide +kernel
theorem dX11_breach_26 : decode cX11_breach 26 = .ok (.iconst (-1), 1) := by decide +kernel
theorem dX11_breach_27 : decode cX11_breach 27 = .ok (.goto 8, 3) := by decide +kernel
theorem dX11_breach_30 : decode cX11_breach 30 = .ok (.aload_n 0, 1) := by decide +kernel
theorem dX11_breach_31 : decode cX11_breach 31 = .ok (.iload_n 1, 1) := by decide +kernel
theorem dX11_breach_32 : decode cX11_breach 32 = .ok (.invokevirtual 276, 3) := by decide +kernel
theorem dX11_breach_35 : decode cX11_breach 35 = .ok (.ireturn, 1) := by decide +kernel
def lX11_breach : List (Nat × (Op ⊕ Nat)) := [(0, .inl (o_aload 0 1)), (1, .inl (o_aload 0 2)), (2, .inl (o_get 11 6 5)), (5, .inl (o_if_eq 16 8)), (8, .inl (o_iload 1 9)), (9, .inl (o_if_lt 16 12)), (12, .inl (o_pushI (nI 1) 13)), (13, .inl (o_goto 17)), (16, .inl (o_pushI (nI 0) 17)), (17, .inl (o_callS fX11_unless 1 20)), (20, .inl (o_callV fX11_isRefused 1 11 23)), (23, .inl (o_if_eq 30 26)), (26, .inl (o_pushI ((-1)) 27)), (27, .inl (o_goto 35)), (30, .inl (o_aload 0 31)), (31, .inl (o_iload 1 32)), (32, .inl (o_callV fX11_breachAt 1 11 35)), (35, .inr 0)]
theorem qX11_breach : yX11_breach.cls = RX11 ∧ yX11_breach.cls ≠ "java/lang/invoke/MethodHandle" ∧ yX11_breach.cls ≠ "java/lang/invoke/VarHandle" ∧ (parseMethodDescriptor yX11_breach.desc).map (fun d => d.parameters.length) = some 1 := by decide +kernel
set_option maxRecDepth 10000 in
theorem hX11_breach_0 (l : Launch) {p : Program} {e : Env} {s : State} {m : MethodId} {args : Array Value} {below : List Frame} {meth : Method} {c : Code} {D : va_G} {ad adV : Nat → Nat} {cA : Nat → ClassId} {K : Kt} (C0 : Cx p s m args meth c D ad adV cA cX11_breach 2 RX11) (hr : meth.sig.returnType = (some .int)) : ∀ q ∈ lX11_breach, Sd p l e (rmd 5) s m args below meth c (MQ below (QQ D ad cA K) args s 0 0 (AA ad)) D ad cA 2 q.1 (opOf K q.2) := List.forall_mem_cons.mpr ⟨s_aload_n C0 dX11_breach_0 rfl, List.forall_mem_cons.mpr ⟨s_aload_n C0 dX11_breach_1 rfl, List.forall_mem_cons.mpr ⟨s_get (ci := 11) (k := 6) C0 dX11_breach_2 inX11 rfl (by decide) tw6_17, List.forall_mem_cons.mpr ⟨s_if_eq C0 dX11_breach_5 rfl, List.forall_mem_cons.mpr ⟨s_iload_n C0 dX11_breach_8 rfl, List.forall_mem_cons.mpr ⟨s_if_lt C0 dX11_breach_9 rfl, List.forall_mem_cons.mpr ⟨s_iconst C0 dX11_breach_12 rfl, List.forall_mem_cons.mpr ⟨s_goto C0 dX11_breach_13 rfl, List.forall_mem_cons.mpr ⟨s_iconst C0 dX11_breach_16 rfl, List.forall_mem_cons.mpr ⟨s_callS C0 (kX11_unless l) dX11_breach_17 qX11_unless tw6_203 tw6_204 tw1_12 tw6_205 rfl (by decide) (by decide), List.forall_mem_cons.mpr ⟨s_callV (ci := 11) C0 (kX11_isRefused l) dX11_breach_20 rfl qX11_isRefused tw6_118 tw6_120 twp_41 tw1_12 tw6_121 rfl (by decide) (by decide), List.forall_mem_cons.mpr ⟨s_if_eq C0 dX11_breach_23 rfl, List.forall_mem_cons.mpr ⟨s_iconst C0 dX11_breach_26 rfl, List.forall_mem_cons.mpr ⟨s_goto C0 dX11_breach_27 rfl, List.forall_mem_cons.mpr ⟨s_aload_n C0 dX11_breach_30 rfl, List.forall_mem_cons.mpr ⟨s_iload_n C0 dX11_breach_31 rfl, List.forall_mem_cons.mpr ⟨s_callV (ci := 11) C0 (kX11_breachAt l) dX11_breach_32 rfl qX11_breachAt tw7_145 tw7_147 twp_84 tw1_12 tw7_148 rfl (by decide) (by decide), List.forall_mem_cons.mpr ⟨s_iret C0 hr dX11_breach_35, fun _ h => absurd h List.not_mem_nil⟩⟩⟩⟩⟩⟩⟩⟩⟩⟩⟩⟩⟩⟩⟩⟩⟩⟩
def fX11_breach : Mf := mf 2 (fun K => tl K lX11_breach)
theorem kX11_breach (l : Launch) : Okm l yX11_breach cX11_breach 2 (some .int) 5 fX11_breach := Okm_tl (own := RX11) (by decide +kernel) rfl (fun C0 hr => hX11_breach_0 l C0 hr)
theorem dX11_work_0 : decode cX11_work 0 = .ok (.aload_n 0, 1) := by decide +kernel
theorem dX11_work_1 : decode cX11_work 1 = .ok (.aload_n 0, 1) := by decide +kernel
theorem dX11_work_2 : decode cX11_work 2 = .ok (.iload_n 1, 1) := by decide +kernel
theorem dX11_work_3 : decode cX11_work 3 = .ok (.invokevirtual 211, 3) := by decide +kernel
theorem dX11_work_6 : decode cX11_work 6 = .ok (.iload_n 2, 1) := by decide +kernel
theorem dX11_work_7 : decode cX11_work 7 = .ok (.iconst 0, 1) := by decide +kernel
theorem dX11_work_8 : decode cX11_work 8 = .ok (.bipush 59, 2) := by decide +kernel
theorem dX11_work_10 : decode cX11_work 10 = .ok (.invokestatic 76, 3) := by decide +kernel
theorem dX11_work_13 : decode cX11_work 13 = .ok (.invokestatic 155, 3) := by decide +kernel
theorem dX11_work_16 : decode cX11_work 16 = .ok (.invokevirtual 159, 3) := by decide +kernel
theorem dX11_work_19 : decode cX11_work 19 = .ok (.ifCond .eq 5, 3) := by decide +kernel
theorem dX11_work_22 : decode cX11_work 22 = .ok (.iconst (-1), 1) := by decide +kernel
theorem dX11_work_23 : decode cX11_work 23 = .ok (.ireturn, 1) := by decide +kernel
theorem dX11_work_24 : decode cX11_work 24 = .ok (.aload_n 0, 1) := by decide +kernel
theorem dX11_work_25 : decode cX11_work 25 = .ok (.iload_n 1, 1) := by decide +kernel
theorem dX11_work_26 : decode cX11_work 26 = .ok (.iconst 0, 1) := by decide +kernel
theorem dX11_work_27 : decode cX11_work 27 = .ok (.iconst 0, 1) := by decide +kernel
theorem dX11_work_28 : decode cX11_work 28 = .ok (.invokevirtual 232, 3) := by decide +kernel
theorem dX11_work_31 : decode cX11_work 31 = .ok (.aload_n 0, 1) := by decide +kernel
theorem dX11_work_32 : decode cX11_work 32 = .ok (.iload_n 2, 1) := by decide +kernel
theorem dX11_work_33 : decode cX11_work 33 = .ok (.invokevirtual 229, 3) := by decide +kernel
theorem dX11_work_36 : decode cX11_work 36 = .ok (.ireturn, 1) := by decide +kernel
def lX11_work : List (Nat × (Op ⊕ Nat)) := [(0, .inl (o_aload 0 1)), (1, .inl (o_aload 0 2)), (2, .inl (o_iload 1 3)), (3, .inl (o_callV fX11_isArm 1 11 6)), (6, .inl (o_iload 2 7)), (7, .inl (o_pushI (nI 0) 8)), (8, .inl (o_pushI (nI 59) 10)), (10, .inl (o_callS fX11_in 3 13)), (13, .inl (o_callS fX11_unless_ 2 16)), (16, .inl (o_callV fX11_isRefused 1 11 19)), (19, .inl (o_if_eq 24 22)), (22, .inl (o_pushI ((-1)) 23)), (23, .inr 0), (24, .inl (o_aload 0 25)), (25, .inl (o_iload 1 26)), (26, .inl (o_pushI (nI 0) 27)), (27, .inl (o_pushI (nI 0) 28)), (28, .inl (o_callV fX11_laysDays 3 11 31)), (31, .inl (o_aload 0 32)), (32, .inl (o_iload 2 33)), (33, .inl (o_callV fX11_lately 1 11 36)), (36, .inr 0)]
theorem qX11_work : yX11_work.cls = RX11 ∧ yX11_work.cls ≠ "java/lang/invoke/MethodHandle" ∧ yX11_work.cls ≠ "java/lang/invoke/VarHandle" ∧ (parseMethodDescriptor yX11_work.desc).map (fun d => d.parameters.length) = some 2 := by decide +kernel
set_option maxRecDepth 10000 in
theorem hX11_work_0 (l : Launch) {p : Program} {e : Env} {s : State} {m : MethodId} {args : Array Value} {below : List Frame} {meth : Method} {c : Code} {D : va_G} {ad adV : Nat → Nat} {cA : Nat → ClassId} {K : Kt} (C0 : Cx p s m args meth c D ad adV cA cX11_work 3 RX11) (hr : meth.sig.returnType = (some .int)) : ∀ q ∈ lX11_work, Sd p l e (rmd 3) s m args below meth c (MQ below (QQ D ad cA K) args s 0 0 (AA ad)) D ad cA 3 q.1 (opOf K q.2) := List.forall_mem_cons.mpr ⟨s_aload_n C0 dX11_work_0 rfl, List.forall_mem_cons.mpr ⟨s_aload_n C0 dX11_work_1 rfl, List.forall_mem_cons.mpr ⟨s_iload_n C0 dX11_work_2 rfl, List.forall_mem_cons.mpr ⟨s_callV (ci := 11) C0 (kX11_isArm l) dX11_work_3 rfl qX11_isArm tw6_214 tw6_216 twp_57 tw1_12 tw6_217 rfl (by decide) (by decide), List.forall_mem_cons.mpr ⟨s_iload_n C0 dX11_work_6 rfl, List.forall_mem_cons.mpr ⟨s_iconst C0 dX11_work_7 rfl, List.forall_mem_cons.mpr ⟨s_bipush C0 dX11_work_8 (by decide +kernel), List.forall_mem_cons.mpr ⟨s_callS C0 (kX11_in l) dX11_work_10 qX11_in tw6_112 tw6_113 tw1_12 tw6_114 rfl (by decide) (by decide), List.forall_mem_cons.mpr ⟨s_callS C0 (kX11_unless_ l) dX11_work_13 qX11_unless_ tw6_115 tw6_116 tw1_12 tw6_117 rfl (by decide) (by decide), List.forall_mem_cons.mpr ⟨s_callV (ci := 11) C0 (kX11_isRefused l) dX11_work_16 rfl qX11_isRefused tw6_118 tw6_120 twp_41 tw1_12 tw6_121 rfl (by decide) (by decide), List.forall_mem_cons.mpr ⟨s_if_eq C0 dX11_work_19 rfl, List.forall_mem_cons.mpr ⟨s_iconst C0 dX11_work_22 rfl, List.forall_mem_cons.mpr ⟨s_iret C0 hr dX11_work_23, List.forall_mem_cons.mpr ⟨s_aload_n C0 dX11_work_24 rfl, List.forall_mem_cons.mpr ⟨s_iload_n C0 dX11_work_25 rfl, List.forall_mem_cons.mpr ⟨s_iconst C0 dX11_work_26 rfl, List.forall_mem_cons.mpr ⟨s_iconst C0 dX11_work_27 rfl, List.forall_mem_cons.mpr ⟨s_callV (ci := 11) C0 (kX11_laysDays l) dX11_work_28 rfl qX11_laysDays tw7_42 tw7_44 twp_71 tw1_12 tw7_45 rfl (by decide) (by decide), List.forall_mem_cons.mpr ⟨s_aload_n C0 dX11_work_31 rfl, List.forall_mem_cons.mpr ⟨s_iload_n C0 dX11_work_32 rfl, List.forall_mem_cons.mpr ⟨s_callV (ci := 11) C0 (kX11_lately l) dX11_work_33 rfl qX11_lately tw7_50 tw7_52 twp_73 tw1_12 tw7_53 rfl (by decide) (by decide), List.forall_mem_cons.mpr ⟨s_iret C0 hr dX11_work_36, fun _ h => absurd h List.not_mem_nil⟩⟩⟩⟩⟩⟩⟩⟩⟩⟩⟩⟩⟩⟩⟩⟩⟩⟩⟩⟩⟩⟩
def fX11_work : Mf := mf 3 (fun K => tl K lX11_work)
theorem kX11_work (l : Launch) : Okm l yX11_work cX11_work 3 (some .int) 3 fX11_work := Okm_tl (own := RX11) (by decide +kernel) rfl (fun C0 hr => hX11_work_0 l C0 hr)
theorem dX11_busiest_0 : decode cX11_busiest 0 = .ok (.aload_n 0, 1) := by decide +kernel
theorem dX11_busiest_1 : decode cX11_busiest 1 = .ok (.aload_n 0, 1) := by decide +kernel
theorem dX11_busiest_2 : decode cX11_busiest 2 = .ok (.iload_n 1, 1) := by decide +kernel
theorem dX11_busiest_3 : decode cX11_busiest 3 = .ok (.invokevirtual 211, 3) := by decide +kernel
theorem dX11_busiest_6 : decode cX11_busiest 6 = .ok (.ifCond .eq 16, 3) := by decide +kernel
theorem dX11_busiest_9 : decode cX11_busiest 9 = .ok (.iload_n 2, 1) := by decide +kernel
theorem dX11_busiest_10 : decode cX11_busiest 10 = .ok (.iconst 0, 1) := by decide +kernel
theorem dX11_busiest_11 : decode cX11_busiest 11 = .ok (.iconst 1, 1) := by decide +kernel
theorem dX11_busiest_12 : decode cX11_busiest 12 = .ok (.invokestatic 76, 3) := by decide +kernel
theorem dX11_busiest_15 : decode cX11_busiest 15 = .ok (.ifCond .eq 7, 3) := by decide +kernel
theorem dX11_busiest_18 : decode cX11_busiest 18 = .ok (.iconst 1, 1) := by decide +kernel
theorem dX11_busiest_19 : decode cX11_busiest 19 = .ok (.goto 4, 3) := by decide +kernel
theorem dX11_busiest_22 : decode cX11_busiest 22 = .ok (.iconst 0, 1) := by decide +kernel
theorem dX11_busiest_23 : decode cX11_busiest 23 = .ok (.invokestatic 182, 3) := by decide +kernel
theorem dX11_busiest_26 : decode cX11_busiest 26 = .ok (.invokevirtual 159, 3) := by decide +kernel
theorem dX11_busiest_29 : decode cX11_busiest 29 = .ok (.ifCond .eq 5, 3) := by decide +kernel
theorem dX11_busiest_32 : decode cX11_busiest 32 = .ok (.iconst (-1), 1) := by decide +kernel
theorem dX11_busiest_33 : decode cX11_busiest 33 = .ok (.ireturn, 1) := by decide +kernel
theorem dX11_busiest_34 : decode cX11_busiest 34 = .ok (.aload_n 0, 1) := by decide +kernel
theorem dX11_busiest_35 : decode cX11_busiest 35 = .ok (.iload_n 1, 1) := by decide +kernel
theorem dX11_busiest_36 : decode cX11_busiest 36 = .ok (.iconst 0, 1) := by decide +kernel
theorem dX11_busiest_37 : decode cX11_busiest 37 = .ok (.iconst 0, 1) := by decide +kernel
theorem dX11_busiest_38 : decode cX11_busiest 38 = .ok (.invokevirtual 232, 3) := by decide +kernel
theorem dX11_busiest_41 : decode cX11_busiest 41 = .ok (.iconst 0, 1) := by decide +kernel
theorem dX11_busiest_42 : decode cX11_busiest 42 = .ok (.istore_n 3, 1) := by decide +kernel
theorem dX11_busiest_43 : decode cX11_busiest 43 = .ok (.iconst 1, 1) := by decide +kernel
theorem dX11_busiest_44 : decode cX11_busiest 44 = .ok (.istore 4, 2) := by decide +kernel
theorem dX11_busiest_46 : decode cX11_busiest 46 = .ok (.iload 4, 2) := by decide +kernel
theorem dX11_busiest_48 : decode cX11_busiest 48 = .ok (.bipush 60, 2) := by decide +kernel
theorem dX11_busiest_50 : decode cX11_busiest 50 = .ok (.if_icmp .ge 30, 3) := by decide +kernel
theorem dX11_busiest_53 : decode cX11_busiest 53 = .ok (.aload_n 0, 1) := by decide +kernel
theorem dX11_busiest_54 : decode cX11_busiest 54 = .ok (.iload 4, 2) := by decide +kernel
theorem dX11_busiest_56 : decode cX11_busiest 56 = .ok (.invokevirtual 229, 3) := by decide +kernel
theorem dX11_busiest_59 : decode cX11_busiest 59 = .ok (.aload_n 0, 1) := by decide +kernel
theorem dX11_busiest_60 : decode cX11_busiest 60 = .ok (.iload_n 3, 1) := by decide +kernel
theorem dX11_busiest_61 : decode cX11_busiest 61 = .ok (.invokevirtual 229, 3) := by decide +kernel
theorem dX11_busiest_64 : decode cX11_busiest 64 = .ok (.if_icmp .le 8, 3) := by decide +kernel
theorem dX11_busiest_67 : decode cX11_busiest 67 = .ok (.iload 4, 2) := by decide +kernel
theorem dX11_busiest_69 : decode cX11_busiest 69 = .ok (.goto 4, 3) := by decide +kernel
theorem dX11_busiest_72 : decode cX11_busiest 72 = .ok (.iload_n 3, 1) := by decide +kernel
theorem dX11_busiest_73 : decode cX11_busiest 73 = .ok (.istore_n 3, 1) := by decide +kernel
theorem dX11_busiest_74 : decode cX11_busiest 74 = .ok (.iinc 4 1, 3) := by decide +kernel
theorem dX11_busiest_77 : decode cX11_busiest 77 = .ok (.goto (-31), 3) := by decide +kernel
theorem dX11_busiest_80 : decode cX11_busiest 80 = .ok (.iload_n 2, 1) := by decide +kernel
theorem dX11_busiest_81 : decode cX11_busiest 81 = .ok (.ifCond .ne 11, 3) := by decide +kernel
theorem dX11_busiest_84 : decode cX11_busiest 84 = .ok (.aload_n 0, 1) := by decide +kernel
theorem dX11_busiest_85 : decode cX11_busiest 85 = .ok (.iload_n 3, 1) := by decide +kernel
theorem dX11_busiest_86 : decode cX11_busiest 86 = .ok (.invokevirtual 229, 3) := by decide +kernel
theorem dX11_busiest_89 : decode cX11_busiest 89 = .ok (.goto 4, 3) := by decide +kernel
theorem dX11_busiest_92 : decode cX11_busiest 92 = .ok (.iload_n 3, 1) := by decide +kernel
theorem dX11_busiest_93 : decode cX11_busiest 93 = .ok (.ireturn, 1) := by decide +kernel
def lX11_busiest_0 : List (Nat × (Op ⊕ Nat)) := [(0, .inl (o_aload 0 1)), (1, .inl (o_aload 0 2)), (2, .inl (o_iload 1 3)), (3, .inl (o_callV fX11_isArm 1 11 6)), (6, .inl (o_if_eq 22 9)), (9, .inl (o_iload 2 10)), (10, .inl (o_pushI (nI 0) 11)), (11, .inl (o_pushI (nI 1) 12)), (12, .inl (o_callS fX11_in 3 15)), (15, .inl (o_if_eq 22 18)), (18, .inl (o_pushI (nI 1) 19)), (19, .inl (o_goto 23)), (22, .inl (o_pushI (nI 0) 23)), (23, .inl (o_callS fX11_unless 1 26)), (26, .inl (o_callV fX11_isRefused 1 11 29)), (29, .inl (o_if_eq 34 32)), (32, .inl (o_pushI ((-1)) 33)), (33, .inr 0), (34, .inl (o_aload 0 35)), (35, .inl (o_iload 1 36)), (36, .inl (o_pushI (nI 0) 37)), (37, .inl (o_pushI (nI 0) 38)), (38, .inl (o_callV fX11_laysDays 3 11 41)), (41, .inl (o_pushI (nI 0) 42)), (42, .inl (o_istore 3 43)), (43, .inl (o_pushI (nI 1) 44)), (44, .inl (o_istore 4 46)), (46, .inl (o_iload 4 48)), (48, .inl (o_pushI (nI 60) 50)), (50, .inl (o_icmp_ge 80 53)), (53, .inl (o_aload 0 54)), (54, .inl (o_iload 4 56)), (56, .inl (o_callV fX11_lately 1 11 59)), (59, .inl (o_aload 0 60)), (60, .inl (o_iload 3 61)), (61, .inl (o_callV fX11_lately 1 11 64)), (64, .inl (o_icmp_le 72 67)), (67, .inl (o_iload 4 69)), (69, .inl (o_goto 73)), (72, .inl (o_iload 3 73))]
def lX11_busiest_1 : List (Nat × (Op ⊕ Nat)) := [(73, .inl (o_istore 3 74)), (74, .inl (o_iinc 4 (nI 1) 77)), (77, .inl (o_goto 46)), (80, .inl (o_iload 2 81)), (81, .inl (o_if_ne 92 84)), (84, .inl (o_aload 0 85)), (85, .inl (o_iload 3 86)), (86, .inl (o_callV fX11_lately 1 11 89)), (89, .inl (o_goto 93)), (92, .inl (o_iload 3 93)), (93, .inr 0)]
def lX11_busiest : List (Nat × (Op ⊕ Nat)) := lX11_busiest_0 ++ (lX11_busiest_1)
theorem qX11_busiest : yX11_busiest.cls = RX11 ∧ yX11_busiest.cls ≠ "java/lang/invoke/MethodHandle" ∧ yX11_busiest.cls ≠ "java/lang/invoke/VarHandle" ∧ (parseMethodDescriptor yX11_busiest.desc).map (fun d => d.parameters.length) = some 2 := by decide +kernel
set_option maxRecDepth 10000 in
theorem hX11_busiest_0 (l : Launch) {p : Program} {e : Env} {s : State} {m : MethodId} {args : Array Value} {below : List Frame} {meth : Method} {c : Code} {D : va_G} {ad adV : Nat → Nat} {cA : Nat → ClassId} {K : Kt} (C0 : Cx p s m args meth c D ad adV cA cX11_busiest 5 RX11) (hr : meth.sig.returnType = (some .int)) : ∀ q ∈ lX11_busiest_0, Sd p l e (rmd 3) s m args below meth c (MQ below (QQ D ad cA K) args s 0 0 (AA ad)) D ad cA 5 q.1 (opOf K q.2) := List.forall_mem_cons.mpr ⟨s_aload_n C0 dX11_busiest_0 rfl, List.forall_mem_cons.mpr ⟨s_aload_n C0 dX11_busiest_1 rfl, List.forall_mem_cons.mpr ⟨s_iload_n C0 dX11_busiest_2 rfl, List.forall_mem_cons.mpr ⟨s_callV (ci := 11) C0 (kX11_isArm l) dX11_busiest_3 rfl qX11_isArm tw6_214 tw6_216 twp_57 tw1_12 tw6_217 rfl (by decide) (by decide), List.forall_mem_cons.mpr ⟨s_if_eq C0 dX11_busiest_6 rfl, List.forall_mem_cons.mpr ⟨s_iload_n C0 dX11_busiest_9 rfl, List.forall_mem_cons.mpr ⟨s_iconst C0 dX11_busiest_10 rfl, List.forall_mem_cons.mpr ⟨s_iconst C0 dX11_busiest_11 rfl, List.forall_mem_cons.mpr ⟨s_callS C0 (kX11_in l) dX11_busiest_12 qX11_in tw6_112 tw6_113 tw1_12 tw6_114 rfl (by decide) (by decide), List.forall_mem_cons.mpr ⟨s_if_eq C0 dX11_busiest_15 rfl, List.forall_mem_cons.mpr ⟨s_iconst C0 dX11_busiest_18 rfl, List.forall_mem_cons.mpr ⟨s_goto C0 dX11_busiest_19 rfl, List.forall_mem_cons.mpr ⟨s_iconst C0 dX11_busiest_22 rfl, List.forall_mem_cons.mpr ⟨s_callS C0 (kX11_unless l) dX11_busiest_23 qX11_unless tw6_203 tw6_204 tw1_12 tw6_205 rfl (by decide) (by decide), List.forall_mem_cons.mpr ⟨s_callV (ci := 11) C0 (kX11_isRefused l) dX11_busiest_26 rfl qX11_isRefused tw6_118 tw6_120 twp_41 tw1_12 tw6_121 rfl (by decide) (by decide), List.forall_mem_cons.mpr ⟨s_if_eq C0 dX11_busiest_29 rfl, List.forall_mem_cons.mpr ⟨s_iconst C0 dX11_busiest_32 rfl, List.forall_mem_cons.mpr ⟨s_iret C0 hr dX11_busiest_33, List.forall_mem_cons.mpr ⟨s_aload_n C0 dX11_busiest_34 rfl, List.forall_mem_cons.mpr ⟨s_iload_n C0 dX11_busiest_35 rfl, List.forall_mem_cons.mpr ⟨s_iconst C0 dX11_busiest_36 rfl, List.forall_mem_cons.mpr ⟨s_iconst C0 dX11_busiest_37 rfl, List.forall_mem_cons.mpr ⟨s_callV (ci := 11) C0 (kX11_laysDays l) dX11_busiest_38 rfl qX11_laysDays tw7_42 tw7_44 twp_71 tw1_12 tw7_45 rfl (by decide) (by decide), List.forall_mem_cons.mpr ⟨s_iconst C0 dX11_busiest_41 rfl, List.forall_mem_cons.mpr ⟨s_istore_n C0 dX11_busiest_42 rfl (by decide), List.forall_mem_cons.mpr ⟨s_iconst C0 dX11_busiest_43 rfl, List.forall_mem_cons.mpr ⟨s_istore C0 dX11_busiest_44 (by decide), List.forall_mem_cons.mpr ⟨s_iload C0 dX11_busiest_46, List.forall_mem_cons.mpr ⟨s_bipush C0 dX11_busiest_48 (by decide +kernel), List.forall_mem_cons.mpr ⟨s_icmp_ge C0 dX11_busiest_50 rfl, List.forall_mem_cons.mpr ⟨s_aload_n C0 dX11_busiest_53 rfl, List.forall_mem_cons.mpr ⟨s_iload C0 dX11_busiest_54, List.forall_mem_cons.mpr ⟨s_callV (ci := 11) C0 (kX11_lately l) dX11_busiest_56 rfl qX11_lately tw7_50 tw7_52 twp_73 tw1_12 tw7_53 rfl (by decide) (by decide), List.forall_mem_cons.mpr ⟨s_aload_n C0 dX11_busiest_59 rfl, List.forall_mem_cons.mpr ⟨s_iload_n C0 dX11_busiest_60 rfl, List.forall_mem_cons.mpr ⟨s_callV (ci := 11) C0 (kX11_lately l) dX11_busiest_61 rfl qX11_lately tw7_50 tw7_52 twp_73 tw1_12 tw7_53 rfl (by decide) (by decide), List.forall_mem_cons.mpr ⟨s_icmp_le C0 dX11_busiest_64 rfl, List.forall_mem_cons.mpr ⟨s_iload C0 dX11_busiest_67, List.forall_mem_cons.mpr ⟨s_goto C0 dX11_busiest_69 rfl, List.forall_mem_cons.mpr ⟨s_iload_n C0 dX11_busiest_72 rfl, fun _ h => absurd h List.not_mem_nil⟩⟩⟩⟩⟩⟩⟩⟩⟩⟩⟩⟩⟩⟩⟩⟩⟩⟩⟩⟩⟩⟩⟩⟩⟩⟩⟩⟩⟩⟩⟩⟩⟩⟩⟩⟩⟩⟩⟩⟩
set_option maxRecDepth 10000 in
theorem hX11_busiest_1 (l : Launch) {p : Program} {e : Env} {s : State} {m : MethodId} {args : Array Value} {below : List Frame} {meth : Method} {c : Code} {D : va_G} {ad adV : Nat → Nat} {cA : Nat → ClassId} {K : Kt} (C0 : Cx p s m args meth c D ad adV cA cX11_busiest 5 RX11) (hr : meth.sig.returnType = (some .int)) : ∀ q ∈ lX11_busiest_1, Sd p l e (rmd 3) s m args below meth c (MQ below (QQ D ad cA K) args s 0 0 (AA ad)) D ad cA 5 q.1 (opOf K q.2) := List.forall_mem_cons.mpr ⟨s_istore_n C0 dX11_busiest_73 rfl (by decide), List.forall_mem_cons.mpr ⟨s_iinc C0 dX11_busiest_74 rfl (by decide), List.forall_mem_cons.mpr ⟨s_goto C0 dX11_busiest_77 rfl, List.forall_mem_cons.mpr ⟨s_iload_n C0 dX11_busiest_80 rfl, List.forall_mem_cons.mpr ⟨s_if_ne C0 dX11_busiest_81 rfl, List.forall_mem_cons.mpr ⟨s_aload_n C0 dX11_busiest_84 rfl, List.forall_mem_cons.mpr ⟨s_iload_n C0 dX11_busiest_85 rfl, List.forall_mem_cons.mpr ⟨s_callV (ci := 11) C0 (kX11_lately l) dX11_busiest_86 rfl qX11_lately tw7_50 tw7_52 twp_73 tw1_12 tw7_53 rfl (by decide) (by decide), List.forall_mem_cons.mpr ⟨s_goto C0 dX11_busiest_89 rfl, List.forall_mem_cons.mpr ⟨s_iload_n C0 dX11_busiest_92 rfl, List.forall_mem_cons.mpr ⟨s_iret C0 hr dX11_busiest_93, fun _ h => absurd h List.not_mem_nil⟩⟩⟩⟩⟩⟩⟩⟩⟩⟩⟩
def fX11_busiest : Mf := mf 5 (fun K => tl K lX11_busiest)
theorem kX11_busiest (l : Launch) : Okm l yX11_busiest cX11_busiest 5 (some .int) 3 fX11_busiest := Okm_tl (own := RX11) (by decide +kernel) rfl (fun C0 hr => List.forall_mem_append.mpr ⟨hX11_busiest_0 l C0 hr, hX11_busiest_1 l C0 hr⟩)
theorem dX11_idle_0 : decode cX11_idle 0 = .ok (.aload_n 0, 1) := by decide +kernel
theorem dX11_idle_1 : decode cX11_idle 1 = .ok (.aload_n 0, 1) := by decide +kernel
theorem dX11_idle_2 : decode cX11_idle 2 = .ok (.iload_n 1, 1) := by decide +kernel
theorem dX11_idle_3 : decode cX11_idle 3 = .ok (.invokevirtual 211, 3) := by decide +kernel
theorem dX11_idle_6 : decode cX11_idle 6 = .ok (.invokestatic 182, 3) := by decide +kernel
theorem dX11_idle_9 : decode cX11_idle 9 = .ok (.invokevirtual 159, 3) := by decide +kernel
theorem dX11_idle_12 : decode cX11_idle 12 = .ok (.ifCond .eq 5, 3) := by decide +kernel
theorem dX11_idle_15 : decode cX11_idle 15 = .ok (.iconst (-1), 1) := by decide +kernel
theorem dX11_idle_16 : decode cX11_idle 16 = .ok (.ireturn, 1) := by decide +kernel
theorem dX11_idle_17 : decode cX11_idle 17 = .ok (.aload_n 0, 1) := by decide +kernel
theorem dX11_idle_18 : decode cX11_idle 18 = .ok (.iload_n 1, 1) := by decide +kernel
theorem dX11_idle_19 : decode cX11_idle 19 = .ok (.iconst 0, 1) := by decide +kernel
theorem dX11_idle_20 : decode cX11_idle 20 = .ok (.iconst 0, 1) := by decide +kernel
theorem dX11_idle_21 : decode cX11_idle 21 = .ok (.invokevirtual 232, 3) := by decide +kernel
theorem dX11_idle_24 : decode cX11_idle 24 = .ok (.iconst 0, 1) := by decide +kernel
theorem dX11_idle_25 : decode cX11_idle 25 = .ok (.istore_n 2, 1) := by decide +kernel
theorem dX11_idle_26 : decode cX11_idle 26 = .ok (.iconst 0, 1) := by decide +kernel
theorem dX11_idle_27 : decode cX11_idle 27 = .ok (.istore_n 3, 1) := by decide +kernel
theorem dX11_idle_28 : decode cX11_idle 28 = .ok (.iconst 0, 1) := by decide +kernel
theorem dX11_idle_29 : decode cX11_idle 29 = .ok (.istore 4, 2) := by decide +kernel
theorem dX11_idle_31 : decode cX11_idle 31 = .ok (.iload 4, 2) := by decide +kernel
theorem dX11_idle_33 : decode cX11_idle 33 = .ok (.bipush 60, 2) := by decide +kernel
theorem dX11_idle_35 : decode cX11_idle 35 = .ok (.if_icmp .ge 38, 3) := by decide +kernel
theorem dX11_idle_38 : decode cX11_idle 38 = .ok (.aload_n 0, 1) := by decide +kernel
theorem dX11_idle_39 : decode cX11_idle 39 = .ok (.getfield 29, 3) := by decide +kernel
theorem dX11_idle_42 : decode cX11_idle 42 = .ok (.iload 4, 2) := by decide +kernel
theorem dX11_idle_44 : decode cX11_idle 44 = .ok (.iaload, 1) := by decide +kernel
theorem dX11_idle_45 : decode cX11_idle 45 = .ok (.ifCond .le 7, 3) := by decide +kernel
theorem dX11_idle_48 : decode cX11_idle 48 = .ok (.iconst 0, 1) := by decide +kernel
theorem dX11_idle_49 : decode cX11_idle 49 = .ok (.goto 6, 3) := by decide +kernel
theorem dX11_idle_52 : decode cX11_idle 52 = .ok (.iload_n 3, 1) := by decide +kernel
theorem dX11_idle_53 : decode cX11_idle 53 = .ok (.iconst 1, 1) := by decide +kernel
theorem dX11_idle_54 : decode cX11_idle 54 = .ok (.iadd, 1) := by decide +kernel
theorem dX11_idle_55 : decode cX11_idle 55 = .ok (.istore_n 3, 1) := by decide +kernel
theorem dX11_idle_56 : decode cX11_idle 56 = .ok (.iload_n 3, 1) := by decide +kernel
theorem dX11_idle_57 : decode cX11_idle 57 = .ok (.iload_n 2, 1) := by decide +kernel
theorem dX11_idle_58 : decode cX11_idle 58 = .ok (.if_icmp .le 7, 3) := by decide +kernel
theorem dX11_idle_61 : decode cX11_idle 61 = .ok (.iload_n 3, 1) := by decide +kernel
theorem dX11_idle_62 : decode cX11_idle 62 = .ok (.goto 4, 3) := by decide +kernel
theorem dX11_idle_65 : decode cX11_idle 65 = .ok (.iload_n 2, 1) := by decide +kernel
theorem dX11_idle_66 : decode cX11_idle 66 = .ok (.istore_n 2, 1) := by decide +kernel
theorem dX11_idle_67 : decode cX11_idle 67 = .ok (.iinc 4 1, 3) := by decide +kernel
theorem dX11_idle_70 : decode cX11_idle 70 = .ok (.goto (-39), 3) := by decide +kernel
theorem dX11_idle_73 : decode cX11_idle 73 = .ok (.iload_n 2, 1) := by decide +kernel
theorem dX11_idle_74 : decode cX11_idle 74 = .ok (.ireturn, 1) := by decide +kernel
def lX11_idle_0 : List (Nat × (Op ⊕ Nat)) := [(0, .inl (o_aload 0 1)), (1, .inl (o_aload 0 2)), (2, .inl (o_iload 1 3)), (3, .inl (o_callV fX11_isArm 1 11 6)), (6, .inl (o_callS fX11_unless 1 9)), (9, .inl (o_callV fX11_isRefused 1 11 12)), (12, .inl (o_if_eq 17 15)), (15, .inl (o_pushI ((-1)) 16)), (16, .inr 0), (17, .inl (o_aload 0 18)), (18, .inl (o_iload 1 19)), (19, .inl (o_pushI (nI 0) 20)), (20, .inl (o_pushI (nI 0) 21)), (21, .inl (o_callV fX11_laysDays 3 11 24)), (24, .inl (o_pushI (nI 0) 25)), (25, .inl (o_istore 2 26)), (26, .inl (o_pushI (nI 0) 27)), (27, .inl (o_istore 3 28)), (28, .inl (o_pushI (nI 0) 29)), (29, .inl (o_istore 4 31)), (31, .inl (o_iload 4 33)), (33, .inl (o_pushI (nI 60) 35)), (35, .inl (o_icmp_ge 73 38)), (38, .inl (o_aload 0 39)), (39, .inl (o_get 11 19 42)), (42, .inl (o_iload 4 44)), (44, .inl (o_iald 45)), (45, .inl (o_if_le 52 48)), (48, .inl (o_pushI (nI 0) 49)), (49, .inl (o_goto 55)), (52, .inl (o_iload 3 53)), (53, .inl (o_pushI (nI 1) 54)), (54, .inl (o_iadd 55)), (55, .inl (o_istore 3 56)), (56, .inl (o_iload 3 57)), (57, .inl (o_iload 2 58)), (58, .inl (o_icmp_le 65 61)), (61, .inl (o_iload 3 62)), (62, .inl (o_goto 66)), (65, .inl (o_iload 2 66))]
def lX11_idle_1 : List (Nat × (Op ⊕ Nat)) := [(66, .inl (o_istore 2 67)), (67, .inl (o_iinc 4 (nI 1) 70)), (70, .inl (o_goto 31)), (73, .inl (o_iload 2 74)), (74, .inr 0)]
def lX11_idle : List (Nat × (Op ⊕ Nat)) := lX11_idle_0 ++ (lX11_idle_1)
theorem qX11_idle : yX11_idle.cls = RX11 ∧ yX11_idle.cls ≠ "java/lang/invoke/MethodHandle" ∧ yX11_idle.cls ≠ "java/lang/invoke/VarHandle" ∧ (parseMethodDescriptor yX11_idle.desc).map (fun d => d.parameters.length) = some 1 := by decide +kernel
set_option maxRecDepth 10000 in
theorem hX11_idle_0 (l : Launch) {p : Program} {e : Env} {s : State} {m : MethodId} {args : Array Value} {below : List Frame} {meth : Method} {c : Code} {D : va_G} {ad adV : Nat → Nat} {cA : Nat → ClassId} {K : Kt} (C0 : Cx p s m args meth c D ad adV cA cX11_idle 5 RX11) (hr : meth.sig.returnType = (some .int)) : ∀ q ∈ lX11_idle_0, Sd p l e (rmd 3) s m args below meth c (MQ below (QQ D ad cA K) args s 0 0 (AA ad)) D ad cA 5 q.1 (opOf K q.2) := List.forall_mem_cons.mpr ⟨s_aload_n C0 dX11_idle_0 rfl, List.forall_mem_cons.mpr ⟨s_aload_n C0 dX11_idle_1 rfl, List.forall_mem_cons.mpr ⟨s_iload_n C0 dX11_idle_2 rfl, List.forall_mem_cons.mpr ⟨s_callV (ci := 11) C0 (kX11_isArm l) dX11_idle_3 rfl qX11_isArm tw6_214 tw6_216 twp_57 tw1_12 tw6_217 rfl (by decide) (by decide), List.forall_mem_cons.mpr ⟨s_callS C0 (kX11_unless l) dX11_idle_6 qX11_unless tw6_203 tw6_204 tw1_12 tw6_205 rfl (by decide) (by decide), List.forall_mem_cons.mpr ⟨s_callV (ci := 11) C0 (kX11_isRefused l) dX11_idle_9 rfl qX11_isRefused tw6_118 tw6_120 twp_41 tw1_12 tw6_121 rfl (by decide) (by decide), List.forall_mem_cons.mpr ⟨s_if_eq C0 dX11_idle_12 rfl, List.forall_mem_cons.mpr ⟨s_iconst C0 dX11_idle_15 rfl, List.forall_mem_cons.mpr ⟨s_iret C0 hr dX11_idle_16, List.forall_mem_cons.mpr ⟨s_aload_n C0 dX11_idle_17 rfl, List.forall_mem_cons.mpr ⟨s_iload_n C0 dX11_idle_18 rfl, List.forall_mem_cons.mpr ⟨s_iconst C0 dX11_idle_19 rfl, List.forall_mem_cons.mpr ⟨s_iconst C0 dX11_idle_20 rfl, List.forall_mem_cons.mpr ⟨s_callV (ci := 11) C0 (kX11_laysDays l) dX11_idle_21 rfl qX11_laysDays tw7_42 tw7_44 twp_71 tw1_12 tw7_45 rfl (by decide) (by decide), List.forall_mem_cons.mpr ⟨s_iconst C0 dX11_idle_24 rfl, List.forall_mem_cons.mpr ⟨s_istore_n C0 dX11_idle_25 rfl (by decide), List.forall_mem_cons.mpr ⟨s_iconst C0 dX11_idle_26 rfl, List.forall_mem_cons.mpr ⟨s_istore_n C0 dX11_idle_27 rfl (by decide), List.forall_mem_cons.mpr ⟨s_iconst C0 dX11_idle_28 rfl, List.forall_mem_cons.mpr ⟨s_istore C0 dX11_idle_29 (by decide), List.forall_mem_cons.mpr ⟨s_iload C0 dX11_idle_31, List.forall_mem_cons.mpr ⟨s_bipush C0 dX11_idle_33 (by decide +kernel), List.forall_mem_cons.mpr ⟨s_icmp_ge C0 dX11_idle_35 rfl, List.forall_mem_cons.mpr ⟨s_aload_n C0 dX11_idle_38 rfl, List.forall_mem_cons.mpr ⟨s_get (ci := 11) (k := 19) C0 dX11_idle_39 inX11 rfl (by decide) tw6_30, List.forall_mem_cons.mpr ⟨s_iload C0 dX11_idle_42, List.forall_mem_cons.mpr ⟨s_iald C0 dX11_idle_44, List.forall_mem_cons.mpr ⟨s_if_le C0 dX11_idle_45 rfl, List.forall_mem_cons.mpr ⟨s_iconst C0 dX11_idle_48 rfl, List.forall_mem_cons.mpr ⟨s_goto C0 dX11_idle_49 rfl, List.forall_mem_cons.mpr ⟨s_iload_n C0 dX11_idle_52 rfl, List.forall_mem_cons.mpr ⟨s_iconst C0 dX11_idle_53 rfl, List.forall_mem_cons.mpr ⟨s_iadd C0 dX11_idle_54, List.forall_mem_cons.mpr ⟨s_istore_n C0 dX11_idle_55 rfl (by decide), List.forall_mem_cons.mpr ⟨s_iload_n C0 dX11_idle_56 rfl, List.forall_mem_cons.mpr ⟨s_iload_n C0 dX11_idle_57 rfl, List.forall_mem_cons.mpr ⟨s_icmp_le C0 dX11_idle_58 rfl, List.forall_mem_cons.mpr ⟨s_iload_n C0 dX11_idle_61 rfl, List.forall_mem_cons.mpr ⟨s_goto C0 dX11_idle_62 rfl, List.forall_mem_cons.mpr ⟨s_iload_n C0 dX11_idle_65 rfl, fun _ h => absurd h List.not_mem_nil⟩⟩⟩⟩⟩⟩⟩⟩⟩⟩⟩⟩⟩⟩⟩⟩⟩⟩⟩⟩⟩⟩⟩⟩⟩⟩⟩⟩⟩⟩⟩⟩⟩⟩⟩⟩⟩⟩⟩⟩
set_option maxRecDepth 10000 in
theorem hX11_idle_1 (l : Launch) {p : Program} {e : Env} {s : State} {m : MethodId} {args : Array Value} {below : List Frame} {meth : Method} {c : Code} {D : va_G} {ad adV : Nat → Nat} {cA : Nat → ClassId} {K : Kt} (C0 : Cx p s m args meth c D ad adV cA cX11_idle 5 RX11) (hr : meth.sig.returnType = (some .int)) : ∀ q ∈ lX11_idle_1, Sd p l e (rmd 3) s m args below meth c (MQ below (QQ D ad cA K) args s 0 0 (AA ad)) D ad cA 5 q.1 (opOf K q.2) := List.forall_mem_cons.mpr ⟨s_istore_n C0 dX11_idle_66 rfl (by decide), List.forall_mem_cons.mpr ⟨s_iinc C0 dX11_idle_67 rfl (by decide), List.forall_mem_cons.mpr ⟨s_goto C0 dX11_idle_70 rfl, List.forall_mem_cons.mpr ⟨s_iload_n C0 dX11_idle_73 rfl, List.forall_mem_cons.mpr ⟨s_iret C0 hr dX11_idle_74, fun _ h => absurd h List.not_mem_nil⟩⟩⟩⟩⟩
def fX11_idle : Mf := mf 5 (fun K => tl K lX11_idle)
theorem kX11_idle (l : Launch) : Okm l yX11_idle cX11_idle 5 (some .int) 3 fX11_idle := Okm_tl (own := RX11) (by decide +kernel) rfl (fun C0 hr => List.forall_mem_append.mpr ⟨hX11_idle_0 l C0 hr, hX11_idle_1 l C0 hr⟩)
theorem dX11_gap_0 : decode cX11_gap 0 = .ok (.aload_n 0, 1) := by decide +kernel
theorem dX11_gap_1 : decode cX11_gap 1 = .ok (.aload_n 0, 1) := by decide +kernel
theorem dX11_gap_2 : decode cX11_gap 2 = .ok (.iload_n 1, 1) := by decide +kernel
theorem dX11_gap_3 : decode cX11_gap 3 = .ok (.invokevirtual 211, 3) := by decide +kernel
theorem dX11_gap_6 : decode cX11_gap 6 = .ok (.invokestatic 182, 3) := by decide +kernel
theorem dX11_gap_9 : decode cX11_gap 9 = .ok (.invokevirtual 159, 3) := by decide +kernel
theorem dX11_gap_12 : decode cX11_gap 12 = .ok (.ifCond .eq 5, 3) := by decide +kernel
theorem dX11_gap_15 : decode cX11_gap 15 = .ok (.iconst (-1), 1) := by decide +kernel
theorem dX11_gap_16 : decode cX11_gap 16 = .ok (.ireturn, 1) := by decide +kernel
theorem dX11_gap_17 : decode cX11_gap 17 = .ok (.bipush (-2), 2) := by decide +kernel
theorem dX11_gap_19 : decode cX11_gap 19 = .ok (.istore_n 2, 1) := by decide +kernel
theorem dX11_gap_20 : decode cX11_gap 20 = .ok (.bipush (-2), 2) := by decide +kernel
theorem dX11_gap_22 : decode cX11_gap 22 = .ok (.istore_n 3, 1) := by decide +kernel
theorem dX11_gap_23 : decode cX11_gap 23 = .ok (.iconst 0, 1) := by decide +kernel
theorem dX11_gap_24 : decode cX11_gap 24 = .ok (.istore 4, 2) := by decide +kernel
theorem dX11_gap_26 : decode cX11_gap 26 = .ok (.iload 4, 2) := by decide +kernel
theorem dX11_gap_28 : decode cX11_gap 28 = .ok (.aload_n 0, 1) := by decide +kernel
theorem dX11_gap_29 : decode cX11_gap 29 = .ok (.getfield 17, 3) := by decide +kernel
theorem dX11_gap_32 : decode cX11_gap 32 = .ok (.iconst 1, 1) := by decide +kernel
theorem dX11_gap_33 : decode cX11_gap 33 = .ok (.iaload, 1) := by decide +kernel
theorem dX11_gap_34 : decode cX11_gap 34 = .ok (.if_icmp .ge 69, 3) := by decide +kernel
theorem dX11_gap_37 : decode cX11_gap 37 = .ok (.aload_n 0, 1) := by decide +kernel
theorem dX11_gap_38 : decode cX11_gap 38 = .ok (.iload_n 1, 1) := by decide +kernel
theorem dX11_gap_39 : decode cX11_gap 39 = .ok (.iload 4, 2) := by decide +kernel
theorem dX11_gap_41 : decode cX11_gap 41 = .ok (.invokevirtual 242, 3) := by decide +kernel
theorem dX11_gap_44 : decode cX11_gap 44 = .ok (.ifCond .eq 53, 3) := by decide +kernel
theorem dX11_gap_47 : decode cX11_gap 47 = .ok (.aload_n 0, 1) := by decide +kernel
theorem dX11_gap_48 : decode cX11_gap 48 = .ok (.getfield 17, 3) := by decide +kernel
theorem dX11_gap_51 : decode cX11_gap 51 = .ok (.bipush 46, 2) := by decide +kernel
theorem dX11_gap_53 : decode cX11_gap 53 = .ok (.iload 4, 2) := by decide +kernel
theorem dX11_gap_55 : decode cX11_gap 55 = .ok (.iadd, 1) := by decide +kernel
theorem dX11_gap_56 : decode cX11_gap 56 = .ok (.iaload, 1) := by decide +kernel
theorem dX11_gap_57 : decode cX11_gap 57 = .ok (.iload_n 3, 1) := by decide +kernel
theorem dX11_gap_58 : decode cX11_gap 58 = .ok (.isub, 1) := by decide +kernel
theorem dX11_gap_59 : decode cX11_gap 59 = .ok (.istore 5, 2) := by decide +kernel
theorem dX11_gap_61 : decode cX11_gap 61 = .ok (.iload_n 3, 1) := by decide +kernel
theorem dX11_gap_62 : decode cX11_gap 62 = .ok (.bipush (-2), 2) := by decide +kernel
theorem dX11_gap_64 : decode cX11_gap 64 = .ok (.if_icmp .eq 20, 3) := by decide +kernel
theorem dX11_gap_67 : decode cX11_gap 67 = .ok (.iload_n 2, 1) := by decide +kernel
theorem dX11_gap_68 : decode cX11_gap 68 = .ok (.bipush (-2), 2) := by decide +kernel
theorem dX11_gap_70 : decode cX11_gap 70 = .ok (.if_icmp .eq 9, 3) := by decide +kernel
theorem dX11_gap_73 : decode cX11_gap 73 = .ok (.iload 5, 2) := by decide +kernel
theorem dX11_gap_75 : decode cX11_gap 75 = .ok (.iload_n 2, 1) := by decide +kernel
theorem dX11_gap_76 : decode cX11_gap 76 = .ok (.if_icmp .ge 8, 3) := by decide +kernel
theorem dX11_gap_79 : decode cX11_gap 79 = .ok (.iload 5, 2) := by decide +kernel
theorem dX11_gap_81 : decode cX11_gap 81 = .ok (.goto 4, 3) := by decide +kernel
theorem dX11_gap_84 : decode cX11_gap 84 = .ok (.iload_n 2, 1) := by decide +kernel
theorem dX11_gap_85 : decode cX11_gap 85 = .ok (.istore_n 2, 1) := by decide +kernel
theorem dX11_gap_86 : decode cX11_gap 86 = .ok (.aload_n 0, 1) := by decide +kernel
theorem dX11_gap_87 : decode cX11_gap 87 = .ok (.getfield 17, 3) := by decide +kernel
theorem dX11_gap_90 : decode cX11_gap 90 = .ok (.bipush 46, 2) := by decide +kernel
theorem dX11_gap_92 : decode cX11_gap 92 = .ok (.iload 4, 2) := by decide +kernel
theorem dX11_gap_94 : decode cX11_gap 94 = .ok (.iadd, 1) := by decide +kernel
theorem dX11_gap_95 : decode cX11_gap 95 = .ok (.iaload, 1) := by decide +kernel
theorem dX11_gap_96 : decode cX11_gap 96 = .ok (.istore_n 3, 1) := by decide +kernel
theorem dX11_gap_97 : decode cX11_gap 97 = .ok (.iinc 4 1, 3) := by decide +kernel
theorem dX11_gap_100 : decode cX11_gap 100 = .ok (.goto (-74), 3) := by decide +kernel
theorem dX11_gap_103 : decode cX11_gap 103 = .ok (.iload_n 2, 1) := by decide +kernel
theorem dX11_gap_104 : decode cX11_gap 104 = .ok (.ireturn, 1) := by decide +kernel
def lX11_gap_0 : List (Nat × (Op ⊕ Nat)) := [(0, .inl (o_aload 0 1)), (1, .inl (o_aload 0 2)), (2, .inl (o_iload 1 3)), (3, .inl (o_callV fX11_isArm 1 11 6)), (6, .inl (o_callS fX11_unless 1 9)), (9, .inl (o_callV fX11_isRefused 1 11 12)), (12, .inl (o_if_eq 17 15)), (15, .inl (o_pushI ((-1)) 16)), (16, .inr 0), (17, .inl (o_pushI ((-2)) 19)), (19, .inl (o_istore 2 20)), (20, .inl (o_pushI ((-2)) 22)), (22, .inl (o_istore 3 23)), (23, .inl (o_pushI (nI 0) 24)), (24, .inl (o_istore 4 26)), (26, .inl (o_iload 4 28)), (28, .inl (o_aload 0 29)), (29, .inl (o_get 11 7 32)), (32, .inl (o_pushI (nI 1) 33)), (33, .inl (o_iald 34)), (34, .inl (o_icmp_ge 103 37)), (37, .inl (o_aload 0 38)), (38, .inl (o_iload 1 39)), (39, .inl (o_iload 4 41)), (41, .inl (o_callV fX11_isIn 2 11 44)), (44, .inl (o_if_eq 97 47)), (47, .inl (o_aload 0 48)), (48, .inl (o_get 11 7 51)), (51, .inl (o_pushI (nI 46) 53)), (53, .inl (o_iload 4 55)), (55, .inl (o_iadd 56)), (56, .inl (o_iald 57)), (57, .inl (o_iload 3 58)), (58, .inl (o_isub 59)), (59, .inl (o_istore 5 61)), (61, .inl (o_iload 3 62)), (62, .inl (o_pushI ((-2)) 64)), (64, .inl (o_icmp_eq 84 67)), (67, .inl (o_iload 2 68)), (68, .inl (o_pushI ((-2)) 70))]
def lX11_gap_1 : List (Nat × (Op ⊕ Nat)) := [(70, .inl (o_icmp_eq 79 73)), (73, .inl (o_iload 5 75)), (75, .inl (o_iload 2 76)), (76, .inl (o_icmp_ge 84 79)), (79, .inl (o_iload 5 81)), (81, .inl (o_goto 85)), (84, .inl (o_iload 2 85)), (85, .inl (o_istore 2 86)), (86, .inl (o_aload 0 87)), (87, .inl (o_get 11 7 90)), (90, .inl (o_pushI (nI 46) 92)), (92, .inl (o_iload 4 94)), (94, .inl (o_iadd 95)), (95, .inl (o_iald 96)), (96, .inl (o_istore 3 97)), (97, .inl (o_iinc 4 (nI 1) 100)), (100, .inl (o_goto 26)), (103, .inl (o_iload 2 104)), (104, .inr 0)]
def lX11_gap : List (Nat × (Op ⊕ Nat)) := lX11_gap_0 ++ (lX11_gap_1)
theorem qX11_gap : yX11_gap.cls = RX11 ∧ yX11_gap.cls ≠ "java/lang/invoke/MethodHandle" ∧ yX11_gap.cls ≠ "java/lang/invoke/VarHandle" ∧ (parseMethodDescriptor yX11_gap.desc).map (fun d => d.parameters.length) = some 1 := by decide +kernel
set_option maxRecDepth 10000 in
theorem hX11_gap_0 (l : Launch) {p : Program} {e : Env} {s : State} {m : MethodId} {args : Array Value} {below : List Frame} {meth : Method} {c : Code} {D : va_G} {ad adV : Nat → Nat} {cA : Nat → ClassId} {K : Kt} (C0 : Cx p s m args meth c D ad adV cA cX11_gap 6 RX11) (hr : meth.sig.returnType = (some .int)) : ∀ q ∈ lX11_gap_0, Sd p l e (rmd 3) s m args below meth c (MQ below (QQ D ad cA K) args s 0 0 (AA ad)) D ad cA 6 q.1 (opOf K q.2) := List.forall_mem_cons.mpr ⟨s_aload_n C0 dX11_gap_0 rfl, List.forall_mem_cons.mpr ⟨s_aload_n C0 dX11_gap_1 rfl, List.forall_mem_cons.mpr ⟨s_iload_n C0 dX11_gap_2 rfl, List.forall_mem_cons.mpr ⟨s_callV (ci := 11) C0 (kX11_isArm l) dX11_gap_3 rfl qX11_isArm tw6_214 tw6_216 twp_57 tw1_12 tw6_217 rfl (by decide) (by decide), List.forall_mem_cons.mpr ⟨s_callS C0 (kX11_unless l) dX11_gap_6 qX11_unless tw6_203 tw6_204 tw1_12 tw6_205 rfl (by decide) (by decide), List.forall_mem_cons.mpr ⟨s_callV (ci := 11) C0 (kX11_isRefused l) dX11_gap_9 rfl qX11_isRefused tw6_118 tw6_120 twp_41 tw1_12 tw6_121 rfl (by decide) (by decide), List.forall_mem_cons.mpr ⟨s_if_eq C0 dX11_gap_12 rfl, List.forall_mem_cons.mpr ⟨s_iconst C0 dX11_gap_15 rfl, List.forall_mem_cons.mpr ⟨s_iret C0 hr dX11_gap_16, List.forall_mem_cons.mpr ⟨s_bipush C0 dX11_gap_17 (by decide +kernel), List.forall_mem_cons.mpr ⟨s_istore_n C0 dX11_gap_19 rfl (by decide), List.forall_mem_cons.mpr ⟨s_bipush C0 dX11_gap_20 (by decide +kernel), List.forall_mem_cons.mpr ⟨s_istore_n C0 dX11_gap_22 rfl (by decide), List.forall_mem_cons.mpr ⟨s_iconst C0 dX11_gap_23 rfl, List.forall_mem_cons.mpr ⟨s_istore C0 dX11_gap_24 (by decide), List.forall_mem_cons.mpr ⟨s_iload C0 dX11_gap_26, List.forall_mem_cons.mpr ⟨s_aload_n C0 dX11_gap_28 rfl, List.forall_mem_cons.mpr ⟨s_get (ci := 11) (k := 7) C0 dX11_gap_29 inX11 rfl (by decide) tw6_18, List.forall_mem_cons.mpr ⟨s_iconst C0 dX11_gap_32 rfl, List.forall_mem_cons.mpr ⟨s_iald C0 dX11_gap_33, List.forall_mem_cons.mpr ⟨s_icmp_ge C0 dX11_gap_34 rfl, List.forall_mem_cons.mpr ⟨s_aload_n C0 dX11_gap_37 rfl, List.forall_mem_cons.mpr ⟨s_iload_n C0 dX11_gap_38 rfl, List.forall_mem_cons.mpr ⟨s_iload C0 dX11_gap_39, List.forall_mem_cons.mpr ⟨s_callV (ci := 11) C0 (kX11_isIn l) dX11_gap_41 rfl qX11_isIn tw7_74 tw7_76 twp_75 tw1_12 tw7_77 rfl (by decide) (by decide), List.forall_mem_cons.mpr ⟨s_if_eq C0 dX11_gap_44 rfl, List.forall_mem_cons.mpr ⟨s_aload_n C0 dX11_gap_47 rfl, List.forall_mem_cons.mpr ⟨s_get (ci := 11) (k := 7) C0 dX11_gap_48 inX11 rfl (by decide) tw6_18, List.forall_mem_cons.mpr ⟨s_bipush C0 dX11_gap_51 (by decide +kernel), List.forall_mem_cons.mpr ⟨s_iload C0 dX11_gap_53, List.forall_mem_cons.mpr ⟨s_iadd C0 dX11_gap_55, List.forall_mem_cons.mpr ⟨s_iald C0 dX11_gap_56, List.forall_mem_cons.mpr ⟨s_iload_n C0 dX11_gap_57 rfl, List.forall_mem_cons.mpr ⟨s_isub C0 dX11_gap_58, List.forall_mem_cons.mpr ⟨s_istore C0 dX11_gap_59 (by decide), List.forall_mem_cons.mpr ⟨s_iload_n C0 dX11_gap_61 rfl, List.forall_mem_cons.mpr ⟨s_bipush C0 dX11_gap_62 (by decide +kernel), List.forall_mem_cons.mpr ⟨s_icmp_eq C0 dX11_gap_64 rfl, List.forall_mem_cons.mpr ⟨s_iload_n C0 dX11_gap_67 rfl, List.forall_mem_cons.mpr ⟨s_bipush C0 dX11_gap_68 (by decide +kernel), fun _ h => absurd h List.not_mem_nil⟩⟩⟩⟩⟩⟩⟩⟩⟩⟩⟩⟩⟩⟩⟩⟩⟩⟩⟩⟩⟩⟩⟩⟩⟩⟩⟩⟩⟩⟩⟩⟩⟩⟩⟩⟩⟩⟩⟩⟩
set_option maxRecDepth 10000 in
theorem hX11_gap_1 (l : Launch) {p : Program} {e : Env} {s : State} {m : MethodId} {args : Array Value} {below : List Frame} {meth : Method} {c : Code} {D : va_G} {ad adV : Nat → Nat} {cA : Nat → ClassId} {K : Kt} (C0 : Cx p s m args meth c D ad adV cA cX11_gap 6 RX11) (hr : meth.sig.returnType = (some .int)) : ∀ q ∈ lX11_gap_1, Sd p l e (rmd 3) s m args below meth c (MQ below (QQ D ad cA K) args s 0 0 (AA ad)) D ad cA 6 q.1 (opOf K q.2) := List.forall_mem_cons.mpr ⟨s_icmp_eq C0 dX11_gap_70 rfl, List.forall_mem_cons.mpr ⟨s_iload C0 dX11_gap_73, List.forall_mem_cons.mpr ⟨s_iload_n C0 dX11_gap_75 rfl, List.forall_mem_cons.mpr ⟨s_icmp_ge C0 dX11_gap_76 rfl, List.forall_mem_cons.mpr ⟨s_iload C0 dX11_gap_79, List.forall_mem_cons.mpr ⟨s_goto C0 dX11_gap_81 rfl, List.forall_mem_cons.mpr ⟨s_iload_n C0 dX11_gap_84 rfl, List.forall_mem_cons.mpr ⟨s_istore_n C0 dX11_gap_85 rfl (by decide), List.forall_mem_cons.mpr ⟨s_aload_n C0 dX11_gap_86 rfl, List.forall_mem_cons.mpr ⟨s_get (ci := 11) (k := 7) C0 dX11_gap_87 inX11 rfl (by decide) tw6_18, List.forall_mem_cons.mpr ⟨s_bipush C0 dX11_gap_90 (by decide +kernel), List.forall_mem_cons.mpr ⟨s_iload C0 dX11_gap_92, List.forall_mem_cons.mpr ⟨s_iadd C0 dX11_gap_94, List.forall_mem_cons.mpr ⟨s_iald C0 dX11_gap_95, List.forall_mem_cons.mpr ⟨s_istore_n C0 dX11_gap_96 rfl (by decide), List.forall_mem_cons.mpr ⟨s_iinc C0 dX11_gap_97 rfl (by decide), List.forall_mem_cons.mpr ⟨s_goto C0 dX11_gap_100 rfl, List.forall_mem_cons.mpr ⟨s_iload_n C0 dX11_gap_103 rfl, List.forall_mem_cons.mpr ⟨s_iret C0 hr dX11_gap_104, fun _ h => absurd h List.not_mem_nil⟩⟩⟩⟩⟩⟩⟩⟩⟩⟩⟩⟩⟩⟩⟩⟩⟩⟩⟩
def fX11_gap : Mf := mf 6 (fun K => tl K lX11_gap)
theorem kX11_gap (l : Launch) : Okm l yX11_gap cX11_gap 6 (some .int) 3 fX11_gap := Okm_tl (own := RX11) (by decide +kernel) rfl (fun C0 hr => List.forall_mem_append.mpr ⟨hX11_gap_0 l C0 hr, hX11_gap_1 l C0 hr⟩)
theorem dX11_hands_0 : decode cX11_hands 0 = .ok (.aload_n 0, 1) := by decide +kernel
theorem dX11_hands_1 : decode cX11_hands 1 = .ok (.aload_n 0, 1) := by decide +kernel
theorem dX11_hands_2 : decode cX11_hands 2 = .ok (.iload_n 1, 1) := by decide +kernel
theorem dX11_hands_3 : decode cX11_hands 3 = .ok (.invokevirtual 217, 3) := by decide +kernel
theorem dX11_hands_6 : decode cX11_hands 6 = .ok (.invokestatic 182, 3) := by decide +kernel
theorem dX11_hands_9 : decode cX11_hands 9 = .ok (.invokevirtual 159, 3) := by decide +kernel
theorem dX11_hands_12 : decode cX11_hands 12 = .ok (.ifCond .eq 5, 3) := by decide +kernel
theorem dX11_hands_15 : decode cX11_hands 15 = .ok (.iconst (-1), 1) := by decide +kernel
theorem dX11_hands_16 : decode cX11_hands 16 = .ok (.ireturn, 1) := by decide +kernel
theorem dX11_hands_17 : decode cX11_hands 17 = .ok (.iconst 0, 1) := by decide +kernel
theorem dX11_hands_18 : decode cX11_hands 18 = .ok (.istore_n 3, 1) := by decide +kernel
theorem dX11_hands_19 : decode cX11_hands 19 = .ok (.iconst 0, 1) := by decide +kernel
theorem dX11_hands_20 : decode cX11_hands 20 = .ok (.istore 4, 2) := by decide +kernel
theorem dX11_hands_22 : decode cX11_hands 22 = .ok (.iload 4, 2) := by decide +kernel
theorem dX11_hands_24 : decode cX11_hands 24 = .ok (.aload_n 0, 1) := by decide +kernel
theorem dX11_hands_25 : decode cX11_hands 25 = .ok (.getfield 17, 3) := by decide +kernel
theorem dX11_hands_28 : decode cX11_hands 28 = .ok (.bipush 106, 2) := by decide +kernel
theorem dX11_hands_30 : decode cX11_hands 30 = .ok (.iload_n 1, 1) := by decide +kernel
theorem dX11_hands_31 : decode cX11_hands 31 = .ok (.iadd, 1) := by decide +kernel
theorem dX11_hands_32 : decode cX11_hands 32 = .ok (.iaload, 1) := by decide +kernel
theorem dX11_hands_33 : decode cX11_hands 33 = .ok (.if_icmp .ge 51, 3) := by decide +kernel
theorem dX11_hands_36 : decode cX11_hands 36 = .ok (.iload_n 3, 1) := by decide +kernel
theorem dX11_hands_37 : decode cX11_hands 37 = .ok (.aload_n 0, 1) := by decide +kernel
theorem dX11_hands_38 : decode cX11_hands 38 = .ok (.getfield 17, 3) := by decide +kernel
theorem dX11_hands_41 : decode cX11_hands 41 = .ok (.bipush 6, 2) := by decide +kernel
theorem dX11_hands_43 : decode cX11_hands 43 = .ok (.aload_n 0, 1) := by decide +kernel
theorem dX11_hands_44 : decode cX11_hands 44 = .ok (.iload_n 1, 1) := by decide +kernel
theorem dX11_hands_45 : decode cX11_hands 45 = .ok (.iload 4, 2) := by decide +kernel
theorem dX11_hands_47 : decode cX11_hands 47 = .ok (.invokevirtual 201, 3) := by decide +kernel
theorem dX11_hands_50 : decode cX11_hands 50 = .ok (.iadd, 1) := by decide +kernel
theorem dX11_hands_51 : decode cX11_hands 51 = .ok (.iaload, 1) := by decide +kernel
theorem dX11_hands_52 : decode cX11_hands 52 = .ok (.iconst 1, 1) := by decide +kernel
theorem dX11_hands_53 : decode cX11_hands 53 = .ok (.if_icmp .ne 7, 3) := by decide +kernel
theorem dX11_hands_56 : decode cX11_hands 56 = .ok (.iconst 1, 1) := by decide +kernel
theorem dX11_hands_57 : decode cX11_hands 57 = .ok (.goto 4, 3) := by decide +kernel
theorem dX11_hands_60 : decode cX11_hands 60 = .ok (.iconst 0, 1) := by decide +kernel
theorem dX11_hands_61 : decode cX11_hands 61 = .ok (.iload_n 2, 1) := by decide +kernel
theorem dX11_hands_62 : decode cX11_hands 62 = .ok (.if_icmp .ne 13, 3) := by decide +kernel
theorem dX11_hands_65 : decode cX11_hands 65 = .ok (.aload_n 0, 1) := by decide +kernel
theorem dX11_hands_66 : decode cX11_hands 66 = .ok (.iload_n 1, 1) := by decide +kernel
theorem dX11_hands_67 : decode cX11_hands 67 = .ok (.iload 4, 2) := by decide +kernel
theorem dX11_hands_69 : decode cX11_hands 69 = .ok (.invokevirtual 198, 3) := by decide +kernel
theorem dX11_hands_72 : decode cX11_hands 72 = .ok (.goto 4, 3) := by decide +kernel
theorem dX11_hands_75 : decode cX11_hands 75 = .ok (.iconst 0, 1) := by decide +kernel
theorem dX11_hands_76 : decode cX11_hands 76 = .ok (.iadd, 1) := by decide +kernel
theorem dX11_hands_77 : decode cX11_hands 77 = .ok (.istore_n 3, 1) := by decide +kernel
theorem dX11_hands_78 : decode cX11_hands 78 = .ok (.iinc 4 1, 3) := by decide +kernel
theorem dX11_hands_81 : decode cX11_hands 81 = .ok (.goto (-59), 3) := by decide +kernel
theorem dX11_hands_84 : decode cX11_hands 84 = .ok (.iload_n 3, 1) := by decide +kernel
theorem dX11_hands_85 : decode cX11_hands 85 = .ok (.ireturn, 1) := by decide +kernel
def lX11_hands_0 : List (Nat × (Op ⊕ Nat)) := [(0, .inl (o_aload 0 1)), (1, .inl (o_aload 0 2)), (2, .inl (o_iload 1 3)), (3, .inl (o_callV fX11_isGame 1 11 6)), (6, .inl (o_callS fX11_unless 1 9)), (9, .inl (o_callV fX11_isRefused 1 11 12)), (12, .inl (o_if_eq 17 15)), (15, .inl (o_pushI ((-1)) 16)), (16, .inr 0), (17, .inl (o_pushI (nI 0) 18)), (18, .inl (o_istore 3 19)), (19, .inl (o_pushI (nI 0) 20)), (20, .inl (o_istore 4 22)), (22, .inl (o_iload 4 24)), (24, .inl (o_aload 0 25)), (25, .inl (o_get 11 7 28)), (28, .inl (o_pushI (nI 106) 30)), (30, .inl (o_iload 1 31)), (31, .inl (o_iadd 32)), (32, .inl (o_iald 33)), (33, .inl (o_icmp_ge 84 36)), (36, .inl (o_iload 3 37)), (37, .inl (o_aload 0 38)), (38, .inl (o_get 11 7 41)), (41, .inl (o_pushI (nI 6) 43)), (43, .inl (o_aload 0 44)), (44, .inl (o_iload 1 45)), (45, .inl (o_iload 4 47)), (47, .inl (o_callV fX11_who 2 11 50)), (50, .inl (o_iadd 51)), (51, .inl (o_iald 52)), (52, .inl (o_pushI (nI 1) 53)), (53, .inl (o_icmp_ne 60 56)), (56, .inl (o_pushI (nI 1) 57)), (57, .inl (o_goto 61)), (60, .inl (o_pushI (nI 0) 61)), (61, .inl (o_iload 2 62)), (62, .inl (o_icmp_ne 75 65)), (65, .inl (o_aload 0 66)), (66, .inl (o_iload 1 67))]
def lX11_hands_1 : List (Nat × (Op ⊕ Nat)) := [(67, .inl (o_iload 4 69)), (69, .inl (o_callV fX11_throwsAt 2 11 72)), (72, .inl (o_goto 76)), (75, .inl (o_pushI (nI 0) 76)), (76, .inl (o_iadd 77)), (77, .inl (o_istore 3 78)), (78, .inl (o_iinc 4 (nI 1) 81)), (81, .inl (o_goto 22)), (84, .inl (o_iload 3 85)), (85, .inr 0)]
def lX11_hands : List (Nat × (Op ⊕ Nat)) := lX11_hands_0 ++ (lX11_hands_1)
theorem qX11_hands : yX11_hands.cls = RX11 ∧ yX11_hands.cls ≠ "java/lang/invoke/MethodHandle" ∧ yX11_hands.cls ≠ "java/lang/invoke/VarHandle" ∧ (parseMethodDescriptor yX11_hands.desc).map (fun d => d.parameters.length) = some 2 := by decide +kernel
set_option maxRecDepth 10000 in
theorem hX11_hands_0 (l : Launch) {p : Program} {e : Env} {s : State} {m : MethodId} {args : Array Value} {below : List Frame} {meth : Method} {c : Code} {D : va_G} {ad adV : Nat → Nat} {cA : Nat → ClassId} {K : Kt} (C0 : Cx p s m args meth c D ad adV cA cX11_hands 5 RX11) (hr : meth.sig.returnType = (some .int)) : ∀ q ∈ lX11_hands_0, Sd p l e (rmd 2) s m args below meth c (MQ below (QQ D ad cA K) args s 0 0 (AA ad)) D ad cA 5 q.1 (opOf K q.2) := List.forall_mem_cons.mpr ⟨s_aload_n C0 dX11_hands_0 rfl, List.forall_mem_cons.mpr ⟨s_aload_n C0 dX11_hands_1 rfl, List.forall_mem_cons.mpr ⟨s_iload_n C0 dX11_hands_2 rfl, List.forall_mem_cons.mpr ⟨s_callV (ci := 11) C0 (kX11_isGame l) dX11_hands_3 rfl qX11_isGame tw7_14 tw7_16 twp_66 tw1_12 tw7_17 rfl (by decide) (by decide), List.forall_mem_cons.mpr ⟨s_callS C0 (kX11_unless l) dX11_hands_6 qX11_unless tw6_203 tw6_204 tw1_12 tw6_205 rfl (by decide) (by decide), List.forall_mem_cons.mpr ⟨s_callV (ci := 11) C0 (kX11_isRefused l) dX11_hands_9 rfl qX11_isRefused tw6_118 tw6_120 twp_41 tw1_12 tw6_121 rfl (by decide) (by decide), List.forall_mem_cons.mpr ⟨s_if_eq C0 dX11_hands_12 rfl, List.forall_mem_cons.mpr ⟨s_iconst C0 dX11_hands_15 rfl, List.forall_mem_cons.mpr ⟨s_iret C0 hr dX11_hands_16, List.forall_mem_cons.mpr ⟨s_iconst C0 dX11_hands_17 rfl, List.forall_mem_cons.mpr ⟨s_istore_n C0 dX11_hands_18 rfl (by decide), List.forall_mem_cons.mpr ⟨s_iconst C0 dX11_hands_19 rfl, List.forall_mem_cons.mpr ⟨s_istore C0 dX11_hands_20 (by decide), List.forall_mem_cons.mpr ⟨s_iload C0 dX11_hands_22, List.forall_mem_cons.mpr ⟨s_aload_n C0 dX11_hands_24 rfl, List.forall_mem_cons.mpr ⟨s_get (ci := 11) (k := 7) C0 dX11_hands_25 inX11 rfl (by decide) tw6_18, List.forall_mem_cons.mpr ⟨s_bipush C0 dX11_hands_28 (by decide +kernel), List.forall_mem_cons.mpr ⟨s_iload_n C0 dX11_hands_30 rfl, List.forall_mem_cons.mpr ⟨s_iadd C0 dX11_hands_31, List.forall_mem_cons.mpr ⟨s_iald C0 dX11_hands_32, List.forall_mem_cons.mpr ⟨s_icmp_ge C0 dX11_hands_33 rfl, List.forall_mem_cons.mpr ⟨s_iload_n C0 dX11_hands_36 rfl, List.forall_mem_cons.mpr ⟨s_aload_n C0 dX11_hands_37 rfl, List.forall_mem_cons.mpr ⟨s_get (ci := 11) (k := 7) C0 dX11_hands_38 inX11 rfl (by decide) tw6_18, List.forall_mem_cons.mpr ⟨s_bipush C0 dX11_hands_41 (by decide +kernel), List.forall_mem_cons.mpr ⟨s_aload_n C0 dX11_hands_43 rfl, List.forall_mem_cons.mpr ⟨s_iload_n C0 dX11_hands_44 rfl, List.forall_mem_cons.mpr ⟨s_iload C0 dX11_hands_45, List.forall_mem_cons.mpr ⟨s_callV (ci := 11) C0 (kX11_who l) dX11_hands_47 rfl qX11_who tw6_230 tw6_232 twp_61 tw1_12 tw6_233 rfl (by decide) (by decide), List.forall_mem_cons.mpr ⟨s_iadd C0 dX11_hands_50, List.forall_mem_cons.mpr ⟨s_iald C0 dX11_hands_51, List.forall_mem_cons.mpr ⟨s_iconst C0 dX11_hands_52 rfl, List.forall_mem_cons.mpr ⟨s_icmp_ne C0 dX11_hands_53 rfl, List.forall_mem_cons.mpr ⟨s_iconst C0 dX11_hands_56 rfl, List.forall_mem_cons.mpr ⟨s_goto C0 dX11_hands_57 rfl, List.forall_mem_cons.mpr ⟨s_iconst C0 dX11_hands_60 rfl, List.forall_mem_cons.mpr ⟨s_iload_n C0 dX11_hands_61 rfl, List.forall_mem_cons.mpr ⟨s_icmp_ne C0 dX11_hands_62 rfl, List.forall_mem_cons.mpr ⟨s_aload_n C0 dX11_hands_65 rfl, List.forall_mem_cons.mpr ⟨s_iload_n C0 dX11_hands_66 rfl, fun _ h => absurd h List.not_mem_nil⟩⟩⟩⟩⟩⟩⟩⟩⟩⟩⟩⟩⟩⟩⟩⟩⟩⟩⟩⟩⟩⟩⟩⟩⟩⟩⟩⟩⟩⟩⟩⟩⟩⟩⟩⟩⟩⟩⟩⟩
set_option maxRecDepth 10000 in
theorem hX11_hands_1 (l : Launch) {p : Program} {e : Env} {s : State} {m : MethodId} {args : Array Value} {below : List Frame} {meth : Method} {c : Code} {D : va_G} {ad adV : Nat → Nat} {cA : Nat → ClassId} {K : Kt} (C0 : Cx p s m args meth c D ad adV cA cX11_hands 5 RX11) (hr : meth.sig.returnType = (some .int)) : ∀ q ∈ lX11_hands_1, Sd p l e (rmd 2) s m args below meth c (MQ below (QQ D ad cA K) args s 0 0 (AA ad)) D ad cA 5 q.1 (opOf K q.2) := List.forall_mem_cons.mpr ⟨s_iload C0 dX11_hands_67, List.forall_mem_cons.mpr ⟨s_callV (ci := 11) C0 (kX11_throwsAt l) dX11_hands_69 rfl qX11_throwsAt tw6_222 tw6_224 twp_59 tw1_12 tw6_225 rfl (by decide) (by decide), List.forall_mem_cons.mpr ⟨s_goto C0 dX11_hands_72 rfl, List.forall_mem_cons.mpr ⟨s_iconst C0 dX11_hands_75 rfl, List.forall_mem_cons.mpr ⟨s_iadd C0 dX11_hands_76, List.forall_mem_cons.mpr ⟨s_istore_n C0 dX11_hands_77 rfl (by decide), List.forall_mem_cons.mpr ⟨s_iinc C0 dX11_hands_78 rfl (by decide), List.forall_mem_cons.mpr ⟨s_goto C0 dX11_hands_81 rfl, List.forall_mem_cons.mpr ⟨s_iload_n C0 dX11_hands_84 rfl, List.forall_mem_cons.mpr ⟨s_iret C0 hr dX11_hands_85, fun _ h => absurd h List.not_mem_nil⟩⟩⟩⟩⟩⟩⟩⟩⟩⟩
def fX11_hands : Mf := mf 5 (fun K => tl K lX11_hands)
theorem kX11_hands (l : Launch) : Okm l yX11_hands cX11_hands 5 (some .int) 2 fX11_hands := Okm_tl (own := RX11) (by decide +kernel) rfl (fun C0 hr => List.forall_mem_append.mpr ⟨hX11_hands_0 l C0 hr, hX11_hands_1 l C0 hr⟩)
theorem dX11_bare_0 : decode cX11_bare 0 = .ok (.aload_n 0, 1) := by decide +kernel
theorem dX11_bare_1 : decode cX11_bare 1 = .ok (.aload_n 0, 1) := by decide +kernel
theorem dX11_bare_2 : decode cX11_bare 2 = .ok (.getfield 171, 3) := by decide +kernel
theorem dX11_bare_5 : decode cX11_bare 5 = .ok (.ifCond .eq 11, 3) := by decide +kernel
theorem dX11_bare_8 : decode cX11_bare 8 = .ok (.iload_n 1, 1) := by decide +kernel
theorem dX11_bare_9 : decode cX11_bare 9 = .ok (.ifCond .lt 7, 3) := by decide +kernel
theorem dX11_bare_12 : decode cX11_bare 12 = .ok (.iconst 1, 1) := by decide +kernel
theorem dX11_bare_13 : decode cX11_bare 13 = .ok (.goto 4, 3) := by decide +kernel
theorem dX11_bare_16 : decode cX11_bare 16 = .ok (.iconst 0, 1) := by decide +kernel
theorem dX11_bare_17 : decode cX11_bare 17 = .ok (.invokestatic 182, 3) := by decide +kernel
theorem dX11_bare_20 : decode cX11_bare 20 = .ok (.invokevirtual 159, 3) := by decide +kernel
theorem dX11_bare_23 : decode cX11_bare 23 = .ok (.ifCond .eq 5, 3) := by decide +kernel
theorem dX11_bare_26 : decode cX11_bare 26 = .ok (.iconst (-1), 1) := by decide +kernel
theorem dX11_bare_27 : decode cX11_bare 27 = .ok (.ireturn, 1) := by decide +kernel
theorem dX11_bare_28 : decode cX11_bare 28 = .ok (.iload_n 1, 1) := by decide +kernel
theorem dX11_bare_29 : decode cX11_bare 29 = .ok (.istore_n 2, 1) := by decide +kernel
theorem dX11_bare_30 : decode cX11_bare 30 = .ok (.iconst 0, 1) := by decide +kernel
theorem dX11_bare_31 : decode cX11_bare 31 = .ok (.istore_n 3, 1) := by decide +kernel
theorem dX11_bare_32 : decode cX11_bare 32 = .ok (.iload_n 3, 1) := by decide +kernel
theorem dX11_bare_33 : decode cX11_bare 33 = .ok (.aload_n 0, 1) := by decide +kernel
theorem dX11_bare_34 : decode cX11_bare 34 = .ok (.getfield 17, 3) := by decide +kernel
theorem dX11_bare_37 : decode cX11_bare 37 = .ok (.iconst 1, 1) := by decide +kernel
theorem dX11_bare_38 : decode cX11_bare 38 = .ok (.iaload, 1) := by decide +kernel
theorem dX11_bare_39 : decode cX11_bare 39 = .ok (.if_icmp .ge 30, 3) := by decide +kernel
theorem dX11_bare_42 : decode cX11_bare 42 = .ok (.aload_n 0, 1) := by decide +kernel
theorem dX11_bare_43 : decode cX11_bare 43 = .ok (.getfield 17, 3) := by decide +kernel
theorem dX11_bare_46 : decode cX11_bare 46 = .ok (.bipush 106, 2) := by decide +kernel
theorem dX11_bare_48 : decode cX11_bare 48 = .ok (.iload_n 3, 1) := by decide +kernel
theorem dX11_bare_49 : decode cX11_bare 49 = .ok (.iadd, 1) := by decide +kernel
theorem dX11_bare_50 : decode cX11_bare 50 = .ok (.iaload, 1) := by decide +kernel
theorem dX11_bare_51 : decode cX11_bare 51 = .ok (.ifCond .ne 12, 3) := by decide +kernel
theorem dX11_bare_54 : decode cX11_bare 54 = .ok (.iload_n 2, 1) := by decide +kernel
theorem dX11_bare_55 : decode cX11_bare 55 = .ok (.ifCond .ne 5, 3) := by decide +kernel
theorem dX11_bare_58 : decode cX11_bare 58 = .ok (.iload_n 3, 1) := by decide +kernel
theorem dX11_bare_59 : decode cX11_bare 59 = .ok (.ireturn, 1) := by decide +kernel
theorem dX11_bare_60 : decode cX11_bare 60 = .ok (.iinc 2 (-1), 3) := by decide +kernel
theorem dX11_bare_63 : decode cX11_bare 63 = .ok (.iinc 3 1, 3) := by decide +kernel
theorem dX11_bare_66 : decode cX11_bare 66 = .ok (.goto (-34), 3) := by decide +kernel
theorem dX11_bare_69 : decode cX11_bare 69 = .ok (.bipush (-2), 2) := by decide +kernel
theorem dX11_bare_71 : decode cX11_bare 71 = .ok (.ireturn, 1) := by decide +kernel
def lX11_bare : List (Nat × (Op ⊕ Nat)) := [(0, .inl (o_aload 0 1)), (1, .inl (o_aload 0 2)), (2, .inl (o_get 11 6 5)), (5, .inl (o_if_eq 16 8)), (8, .inl (o_iload 1 9)), (9, .inl (o_if_lt 16 12)), (12, .inl (o_pushI (nI 1) 13)), (13, .inl (o_goto 17)), (16, .inl (o_pushI (nI 0) 17)), (17, .inl (o_callS fX11_unless 1 20)), (20, .inl (o_callV fX11_isRefused 1 11 23)), (23, .inl (o_if_eq 28 26)), (26, .inl (o_pushI ((-1)) 27)), (27, .inr 0), (28, .inl (o_iload 1 29)), (29, .inl (o_istore 2 30)), (30, .inl (o_pushI (nI 0) 31)), (31, .inl (o_istore 3 32)), (32, .inl (o_iload 3 33)), (33, .inl (o_aload 0 34)), (34, .inl (o_get 11 7 37)), (37, .inl (o_pushI (nI 1) 38)), (38, .inl (o_iald 39)), (39, .inl (o_icmp_ge 69 42)), (42, .inl (o_aload 0 43)), (43, .inl (o_get 11 7 46)), (46, .inl (o_pushI (nI 106) 48)), (48, .inl (o_iload 3 49)), (49, .inl (o_iadd 50)), (50, .inl (o_iald 51)), (51, .inl (o_if_ne 63 54)), (54, .inl (o_iload 2 55)), (55, .inl (o_if_ne 60 58)), (58, .inl (o_iload 3 59)), (59, .inr 0), (60, .inl (o_iinc 2 ((-1)) 63)), (63, .inl (o_iinc 3 (nI 1) 66)), (66, .inl (o_goto 32)), (69, .inl (o_pushI ((-2)) 71)), (71, .inr 0)]
theorem qX11_bare : yX11_bare.cls = RX11 ∧ yX11_bare.cls ≠ "java/lang/invoke/MethodHandle" ∧ yX11_bare.cls ≠ "java/lang/invoke/VarHandle" ∧ (parseMethodDescriptor yX11_bare.desc).map (fun d => d.parameters.length) = some 1 := by decide +kernel
set_option maxRecDepth 10000 in
theorem hX11_bare_0 (l : Launch) {p : Program} {e : Env} {s : State} {m : MethodId} {args : Array Value} {below : List Frame} {meth : Method} {c : Code} {D : va_G} {ad adV : Nat → Nat} {cA : Nat → ClassId} {K : Kt} (C0 : Cx p s m args meth c D ad adV cA cX11_bare 4 RX11) (hr : meth.sig.returnType = (some .int)) : ∀ q ∈ lX11_bare, Sd p l e (rmd 1) s m args below meth c (MQ below (QQ D ad cA K) args s 0 0 (AA ad)) D ad cA 4 q.1 (opOf K q.2) := List.forall_mem_cons.mpr ⟨s_aload_n C0 dX11_bare_0 rfl, List.forall_mem_cons.mpr ⟨s_aload_n C0 dX11_bare_1 rfl, List.forall_mem_cons.mpr ⟨s_get (ci := 11) (k := 6) C0 dX11_bare_2 inX11 rfl (by decide) tw6_17, List.forall_mem_cons.mpr ⟨s_if_eq C0 dX11_bare_5 rfl, List.forall_mem_cons.mpr ⟨s_iload_n C0 dX11_bare_8 rfl, List.forall_mem_cons.mpr ⟨s_if_lt C0 dX11_bare_9 rfl, List.forall_mem_cons.mpr ⟨s_iconst C0 dX11_bare_12 rfl, List.forall_mem_cons.mpr ⟨s_goto C0 dX11_bare_13 rfl, List.forall_mem_cons.mpr ⟨s_iconst C0 dX11_bare_16 rfl, List.forall_mem_cons.mpr ⟨s_callS C0 (kX11_unless l) dX11_bare_17 qX11_unless tw6_203 tw6_204 tw1_12 tw6_205 rfl (by decide) (by decide), List.forall_mem_cons.mpr ⟨s_callV (ci := 11) C0 (kX11_isRefused l) dX11_bare_20 rfl qX11_isRefused tw6_118 tw6_120 twp_41 tw1_12 tw6_121 rfl (by decide) (by decide), List.forall_mem_cons.mpr ⟨s_if_eq C0 dX11_bare_23 rfl, List.forall_mem_cons.mpr ⟨s_iconst C0 dX11_bare_26 rfl, List.forall_mem_cons.mpr ⟨s_iret C0 hr dX11_bare_27, List.forall_mem_cons.mpr ⟨s_iload_n C0 dX11_bare_28 rfl, List.forall_mem_cons.mpr ⟨s_istore_n C0 dX11_bare_29 rfl (by decide), List.forall_mem_cons.mpr ⟨s_iconst C0 dX11_bare_30 rfl, List.forall_mem_cons.mpr ⟨s_istore_n C0 dX11_bare_31 rfl (by decide), List.forall_mem_cons.mpr ⟨s_iload_n C0 dX11_bare_32 rfl, List.forall_mem_cons.mpr ⟨s_aload_n C0 dX11_bare_33 rfl, List.forall_mem_cons.mpr ⟨s_get (ci := 11) (k := 7) C0 dX11_bare_34 inX11 rfl (by decide) tw6_18, List.forall_mem_cons.mpr ⟨s_iconst C0 dX11_bare_37 rfl, List.forall_mem_cons.mpr ⟨s_iald C0 dX11_bare_38, List.forall_mem_cons.mpr ⟨s_icmp_ge C0 dX11_bare_39 rfl, List.forall_mem_cons.mpr ⟨s_aload_n C0 dX11_bare_42 rfl, List.forall_mem_cons.mpr ⟨s_get (ci := 11) (k := 7) C0 dX11_bare_43 inX11 rfl (by decide) tw6_18, List.forall_mem_cons.mpr ⟨s_bipush C0 dX11_bare_46 (by decide +kernel), List.forall_mem_cons.mpr ⟨s_iload_n C0 dX11_bare_48 rfl, List.forall_mem_cons.mpr ⟨s_iadd C0 dX11_bare_49, List.forall_mem_cons.mpr ⟨s_iald C0 dX11_bare_50, List.forall_mem_cons.mpr ⟨s_if_ne C0 dX11_bare_51 rfl, List.forall_mem_cons.mpr ⟨s_iload_n C0 dX11_bare_54 rfl, List.forall_mem_cons.mpr ⟨s_if_ne C0 dX11_bare_55 rfl, List.forall_mem_cons.mpr ⟨s_iload_n C0 dX11_bare_58 rfl, List.forall_mem_cons.mpr ⟨s_iret C0 hr dX11_bare_59, List.forall_mem_cons.mpr ⟨s_iinc C0 dX11_bare_60 rfl (by decide), List.forall_mem_cons.mpr ⟨s_iinc C0 dX11_bare_63 rfl (by decide), List.forall_mem_cons.mpr ⟨s_goto C0 dX11_bare_66 rfl, List.forall_mem_cons.mpr ⟨s_bipush C0 dX11_bare_69 (by decide +kernel), List.forall_mem_cons.mpr ⟨s_iret C0 hr dX11_bare_71, fun _ h => absurd h List.not_mem_nil⟩⟩⟩⟩⟩⟩⟩⟩⟩⟩⟩⟩⟩⟩⟩⟩⟩⟩⟩⟩⟩⟩⟩⟩⟩⟩⟩⟩⟩⟩⟩⟩⟩⟩⟩⟩⟩⟩⟩⟩
def fX11_bare : Mf := mf 4 (fun K => tl K lX11_bare)
theorem kX11_bare (l : Launch) : Okm l yX11_bare cX11_bare 4 (some .int) 1 fX11_bare := Okm_tl (own := RX11) (by decide +kernel) rfl (fun C0 hr => hX11_bare_0 l C0 hr)
theorem dX11_common_0 : decode cX11_common 0 = .ok (.lload_n 0, 1) := by decide +kernel
theorem dX11_common_1 : decode cX11_common 1 = .ok (.lstore 4, 2) := by decide +kernel
theorem dX11_common_3 : decode cX11_common 3 = .ok (.lload_n 2, 1) := by decide +kernel
theorem dX11_common_4 : decode cX11_common 4 = .ok (.lstore 6, 2) := by decide +kernel
theorem dX11_common_6 : decode cX11_common 6 = .ok (.lload 6, 2) := by decide +kernel
theorem dX11_common_8 : decode cX11_common 8 = .ok (.lconst 0, 1) := by decide +kernel
theorem dX11_common_9 : decode cX11_common 9 = .ok (.lcmp, 1) := by decide +kernel
theorem dX11_common_10 : decode cX11_common 10 = .ok (.ifCond .eq 21, 3) := by decide +kernel
theorem dX11_common_13 : decode cX11_common 13 = .ok (.lload 4, 2) := by decide +kernel
theorem dX11_common_15 : decode cX11_common 15 = .ok (.lload 6, 2) := by decide +kernel
theorem dX11_common_17 : decode cX11_common 17 = .ok (.lrem, 1) := by decide +kernel
theorem dX11_common_18 : decode cX11_common 18 = .ok (.lstore 8, 2) := by decide +kernel
theorem dX11_common_20 : decode cX11_common 20 = .ok (.lload 6, 2) := by decide +kernel
theorem dX11_common_22 : decode cX11_common 22 = .ok (.lstore 4, 2) := by decide +kernel
theorem dX11_common_24 : decode cX11_common 24 = .ok (.lload 8, 2) := by decide +kernel
theorem dX11_common_26 : decode cX11_common 26 = .ok (.lstore 6, 2) := by decide +kernel
theorem dX11_common_28 : decode cX11_common 28 = .ok (.goto (-22), 3) := by decide +kernel
theorem dX11_common_31 : decode cX11_common 31 = .ok (.lload 4, 2) := by decide +kernel
theorem dX11_common_33 : decode cX11_common 33 = .ok (.lreturn, 1) := by decide +kernel
def lX11_common : List (Nat × (Op ⊕ Nat)) := [(0, .inl (o_lload 0 1)), (1, .inl (o_lstore 4 3)), (3, .inl (o_lload 2 4)), (4, .inl (o_lstore 6 6)), (6, .inl (o_lload 6 8)), (8, .inl (o_pushL (lN 0) 9)), (9, .inl (o_lcmp 10)), (10, .inl (o_if_eq 31 13)), (13, .inl (o_lload 4 15)), (15, .inl (o_lload 6 17)), (17, .inl (o_lrem 18)), (18, .inl (o_lstore 8 20)), (20, .inl (o_lload 6 22)), (22, .inl (o_lstore 4 24)), (24, .inl (o_lload 8 26)), (26, .inl (o_lstore 6 28)), (28, .inl (o_goto 6)), (31, .inl (o_lload 4 33)), (33, .inr 2)]
theorem qX11_common : yX11_common.cls ≠ "java/lang/invoke/MethodHandle" ∧ yX11_common.cls ≠ "java/lang/invoke/VarHandle" ∧ (parseMethodDescriptor yX11_common.desc).map (fun d => d.parameters.length) = some 2 := by decide +kernel
set_option maxRecDepth 10000 in
theorem hX11_common_0 (l : Launch) {p : Program} {e : Env} {s : State} {m : MethodId} {args : Array Value} {below : List Frame} {meth : Method} {c : Code} {D : va_G} {ad adV : Nat → Nat} {cA : Nat → ClassId} {K : Kt} (C0 : Cx p s m args meth c D ad adV cA cX11_common 10 RX11) (hr : meth.sig.returnType = (some .long)) : ∀ q ∈ lX11_common, Sd p l e (rmd 0) s m args below meth c (MQ below (QQ D ad cA K) args s 0 0 (AA ad)) D ad cA 10 q.1 (opOf K q.2) := List.forall_mem_cons.mpr ⟨s_lload_n C0 dX11_common_0 rfl, List.forall_mem_cons.mpr ⟨s_lstore C0 dX11_common_1 (by decide), List.forall_mem_cons.mpr ⟨s_lload_n C0 dX11_common_3 rfl, List.forall_mem_cons.mpr ⟨s_lstore C0 dX11_common_4 (by decide), List.forall_mem_cons.mpr ⟨s_lload C0 dX11_common_6, List.forall_mem_cons.mpr ⟨s_lconst C0 dX11_common_8 rfl, List.forall_mem_cons.mpr ⟨s_lcmp C0 dX11_common_9, List.forall_mem_cons.mpr ⟨s_if_eq C0 dX11_common_10 rfl, List.forall_mem_cons.mpr ⟨s_lload C0 dX11_common_13, List.forall_mem_cons.mpr ⟨s_lload C0 dX11_common_15, List.forall_mem_cons.mpr ⟨s_lrem C0 dX11_common_17, List.forall_mem_cons.mpr ⟨s_lstore C0 dX11_common_18 (by decide), List.forall_mem_cons.mpr ⟨s_lload C0 dX11_common_20, List.forall_mem_cons.mpr ⟨s_lstore C0 dX11_common_22 (by decide), List.forall_mem_cons.mpr ⟨s_lload C0 dX11_common_24, List.forall_mem_cons.mpr ⟨s_lstore C0 dX11_common_26 (by decide), List.forall_mem_cons.mpr ⟨s_goto C0 dX11_common_28 rfl, List.forall_mem_cons.mpr ⟨s_lload C0 dX11_common_31, List.forall_mem_cons.mpr ⟨s_lret C0 hr dX11_common_33, fun _ h => absurd h List.not_mem_nil⟩⟩⟩⟩⟩⟩⟩⟩⟩⟩⟩⟩⟩⟩⟩⟩⟩⟩⟩
def fX11_common : Mf := mf 10 (fun K => tl K lX11_common)
theorem kX11_common (l : Launch) : Okm l yX11_common cX11_common 10 (some .long) 0 fX11_common := Okm_tl (own := RX11) (by decide +kernel) rfl (fun C0 hr => hX11_common_0 l C0 hr)
theorem dX11_sound_0 : decode cX11_sound 0 = .ok (.aload_n 0, 1) := by decide +kernel
theorem dX11_sound_1 : decode cX11_sound 1 = .ok (.iload_n 1, 1) := by decide +kernel
theorem dX11_sound_2 : decode cX11_sound 2 = .ok (.invokevirtual 211, 3) := by decide +kernel
theorem dX11_sound_5 : decode cX11_sound 5 = .ok (.ifCond .eq 16, 3) := by decide +kernel
theorem dX11_sound_8 : decode cX11_sound 8 = .ok (.iload_n 2, 1) := by decide +kernel
theorem dX11_sound_9 : decode cX11_sound 9 = .ok (.iconst 0, 1) := by decide +kernel
theorem dX11_sound_10 : decode cX11_sound 10 = .ok (.iconst 1, 1) := by decide +kernel
theorem dX11_sound_11 : decode cX11_sound 11 = .ok (.invokestatic 76, 3) := by decide +kernel
theorem dX11_sound_14 : decode cX11_sound 14 = .ok (.ifCond .eq 7, 3) := by decide +kernel
theorem dX11_sound_17 : decode cX11_sound 17 = .ok (.iconst 1, 1) := by decide +kernel
theorem dX11_sound_18 : decode cX11_sound 18 = .ok (.goto 4, 3) := by decide +kernel
theorem dX11_sound_21 : decode cX11_sound 21 = .ok (.iconst 0, 1) := by decide +kernel
theorem dX11_sound_22 : decode cX11_sound 22 = .ok (.invokestatic 182, 3) := by decide +kernel
theorem dX11_sound_25 : decode cX11_sound 25 = .ok (.istore_n 3, 1) := by decide +kernel
theorem dX11_sound_26 : decode cX11_sound 26 = .ok (.aload_n 0, 1) := by decide +kernel
theorem dX11_sound_27 : decode cX11_sound 27 = .ok (.iload_n 3, 1) := by decide +kernel
theorem dX11_sound_28 : decode cX11_sound 28 = .ok (.ifCond .eq 7, 3) := by decide +kernel
theorem dX11_sound_31 : decode cX11_sound 31 = .ok (.iload_n 3, 1) := by decide +kernel
theorem dX11_sound_32 : decode cX11_sound 32 = .ok (.goto 19, 3) := by decide +kernel
theorem dX11_sound_35 : decode cX11_sound 35 = .ok (.aload_n 0, 1) := by decide +kernel
theorem dX11_sound_36 : decode cX11_sound 36 = .ok (.iload_n 1, 1) := by decide +kernel
theorem dX11_sound_37 : decode cX11_sound 37 = .ok (.iconst 1, 1) := by decide +kernel
theorem dX11_sound_38 : decode cX11_sound 38 = .ok (.invokevirtual 214, 3) := by decide +kernel
theorem dX11_sound_41 : decode cX11_sound 41 = .ok (.bipush 6, 2) := by decide +kernel
theorem dX11_sound_43 : decode cX11_sound 43 = .ok (.if_icmp .le 7, 3) := by decide +kernel
theorem dX11_sound_46 : decode cX11_sound 46 = .ok (.iconst 5, 1) := by decide +kernel
theorem dX11_sound_47 : decode cX11_sound 47 = .ok (.goto 4, 3) := by decide +kernel
theorem dX11_sound_50 : decode cX11_sound 50 = .ok (.iconst 0, 1) := by decide +kernel
theorem dX11_sound_51 : decode cX11_sound 51 = .ok (.invokevirtual 159, 3) := by decide +kernel
theorem dX11_sound_54 : decode cX11_sound 54 = .ok (.ifCond .eq 7, 3) := by decide +kernel
theorem dX11_sound_57 : decode cX11_sound 57 = .ok (.ldc2_w 279, 3) := by decide +kernel
theorem dX11_sound_60 : decode cX11_sound 60 = .ok (.lreturn, 1) := by decide +kernel
theorem dX11_sound_61 : decode cX11_sound 61 = .ok (.lconst 1, 1) := by decide +kernel
theorem dX11_sound_62 : decode cX11_sound 62 = .ok (.lstore 4, 2) := by decide +kernel
theorem dX11_sound_64 : decode cX11_sound 64 = .ok (.lconst 1, 1) := by decide +kernel
theorem dX11_sound_65 : decode cX11_sound 65 = .ok (.lstore 6, 2) := by decide +kernel
theorem dX11_sound_67 : decode cX11_sound 67 = .ok (.iconst 0, 1) := by decide +kernel
theorem dX11_sound_68 : decode cX11_sound 68 = .ok (.istore 8, 2) := by decide +kernel
theorem dX11_sound_70 : decode cX11_sound 70 = .ok (.iload 8, 2) := by decide +kernel
theorem dX11_sound_72 : decode cX11_sound 72 = .ok (.aload_n 0, 1) := by decide +kernel
theorem dX11_sound_73 : decode cX11_sound 73 = .ok (.getfield 17, 3) := by decide +kernel
theorem dX11_sound_76 : decode cX11_sound 76 = .ok (.iconst 1, 1) := by decide +kernel
theorem dX11_sound_77 : decode cX11_sound 77 = .ok (.iaload, 1) := by decide +kernel
theorem dX11_sound_78 : decode cX11_sound 78 = .ok (.if_icmp .ge 89, 3) := by decide +kernel
theorem dX11_sound_81 : decode cX11_sound 81 = .ok (.iconst 0, 1) := by decide +kernel
theorem dX11_sound_82 : decode cX11_sound 82 = .ok (.istore 9, 2) := by decide +kernel
theorem dX11_sound_84 : decode cX11_sound 84 = .ok (.iload 9, 2) := by decide +kernel
theorem dX11_sound_86 : decode cX11_sound 86 = .ok (.aload_n 0, 1) := by decide +kernel
theorem dX11_sound_87 : decode cX11_sound 87 = .ok (.getfield 17, 3) := by decide +kernel
theorem dX11_sound_90 : decode cX11_sound 90 = .ok (.bipush 106, 2) := by decide +kernel
theorem dX11_sound_92 : decode cX11_sound 92 = .ok (.iload 8, 2) := by decide +kernel
theorem dX11_sound_94 : decode cX11_sound 94 = .ok (.iadd, 1) := by decide +kernel
theorem dX11_sound_95 : decode cX11_sound 95 = .ok (.iaload, 1) := by decide +kernel
theorem dX11_sound_96 : decode cX11_sound 96 = .ok (.if_icmp .ge 65, 3) := by decide +kernel
theorem dX11_sound_99 : decode cX11_sound 99 = .ok (.aload_n 0, 1) := by decide +kernel
theorem dX11_sound_100 : decode cX11_sound 100 = .ok (.iload 8, 2) := by decide +kernel
theorem dX11_sound_102 : decode cX11_sound 102 = .ok (.iload 9, 2) := by decide +kernel
theorem dX11_sound_104 : decode cX11_sound 104 = .ok (.invokevirtual 201, 3) := by decide +kernel
theorem dX11_sound_107 : decode cX11_sound 107 = .ok (.iload_n 1, 1) := by decide +kernel
theorem dX11_sound_108 : decode cX11_sound 108 = .ok (.if_icmp .ne 47, 3) := by decide +kernel
theorem dX11_sound_111 : decode cX11_sound 111 = .ok (.sipush 1000, 3) := by decide +kernel
theorem dX11_sound_114 : decode cX11_sound 114 = .ok (.aload_n 0, 1) := by decide +kernel
theorem dX11_sound_115 : decode cX11_sound 115 = .ok (.iload_n 1, 1) := by decide +kernel
theorem dX11_sound_116 : decode cX11_sound 116 = .ok (.aload_n 0, 1) := by decide +kernel
theorem dX11_sound_117 : decode cX11_sound 117 = .ok (.iload 8, 2) := by decide +kernel
theorem dX11_sound_119 : decode cX11_sound 119 = .ok (.iload 9, 2) := by decide +kernel
theorem dX11_sound_121 : decode cX11_sound 121 = .ok (.invokevirtual 198, 3) := by decide +kernel
theorem dX11_sound_124 : decode cX11_sound 124 = .ok (.invokevirtual 208, 3) := by decide +kernel
theorem dX11_sound_127 : decode cX11_sound 127 = .ok (.isub, 1) := by decide +kernel
theorem dX11_sound_128 : decode cX11_sound 128 = .ok (.istore 10, 2) := by decide +kernel
theorem dX11_sound_130 : decode cX11_sound 130 = .ok (.lload 4, 2) := by decide +kernel
theorem dX11_sound_132 : decode cX11_sound 132 = .ok (.iload 10, 2) := by decide +kernel
theorem dX11_sound_134 : decode cX11_sound 134 = .ok (.ifCond .ge 7, 3) := by decide +kernel
theorem dX11_sound_137 : decode cX11_sound 137 = .ok (.lconst 0, 1) := by decide +kernel
theorem dX11_sound_138 : decode cX11_sound 138 = .ok (.goto 6, 3) := by decide +kernel
theorem dX11_sound_141 : decode cX11_sound 141 = .ok (.iload 10, 2) := by decide +kernel
theorem dX11_sound_143 : decode cX11_sound 143 = .ok (.i2l, 1) := by decide +kernel
theorem dX11_sound_144 : decode cX11_sound 144 = .ok (.lmul, 1) := by decide +kernel
theorem dX11_sound_145 : decode cX11_sound 145 = .ok (.lstore 4, 2) := by decide +kernel
theorem dX11_sound_147 : decode cX11_sound 147 = .ok (.lload 6, 2) := by decide +kernel
theorem dX11_sound_149 : decode cX11_sound 149 = .ok (.ldc2_w 281, 3) := by decide +kernel
theorem dX11_sound_152 : decode cX11_sound 152 = .ok (.lmul, 1) := by decide +kernel
theorem dX11_sound_153 : decode cX11_sound 153 = .ok (.lstore 6, 2) := by decide +kernel
theorem dX11_sound_155 : decode cX11_sound 155 = .ok (.iinc 9 1, 3) := by decide +kernel
theorem dX11_sound_158 : decode cX11_sound 158 = .ok (.goto (-74), 3) := by decide +kernel
theorem dX11_sound_161 : decode cX11_sound 161 = .ok (.iinc 8 1, 3) := by decide +kernel
theorem dX11_sound_164 : decode cX11_sound 164 = .ok (.goto (-94), 3) := by decide +kernel
theorem dX11_sound_167 : decode cX11_sound 167 = .ok (.iload_n 2, 1) := by decide +kernel
theorem dX11_sound_168 : decode cX11_sound 168 = .ok (.ifCond .ne 8, 3) := by decide +kernel
theorem dX11_sound_171 : decode cX11_sound 171 = .ok (.lload 4, 2) := by decide +kernel
theorem dX11_sound_173 : decode cX11_sound 173 = .ok (.goto 5, 3) := by decide +kernel
theorem dX11_sound_176 : decode cX11_sound 176 = .ok (.lload 6, 2) := by decide +kernel
theorem dX11_sound_178 : decode cX11_sound 178 = .ok (.lload 6, 2) := by decide +kernel
theorem dX11_sound_180 : decode cX11_sound 180 = .ok (.lload 4, 2) := by decide +kernel
theorem dX11_sound_182 : decode cX11_sound 182 = .ok (.invokestatic 283, 3) := by decide +kernel
theorem dX11_sound_185 : decode cX11_sound 185 = .ok (.ldiv, 1) := by decide +kernel
theorem dX11_sound_186 : decode cX11_sound 186 = .ok (.lreturn, 1) := by decide +kernel
def lX11_sound_0 : List (Nat × (Op ⊕ Nat)) := [(0, .inl (o_aload 0 1)), (1, .inl (o_iload 1 2)), (2, .inl (o_callV fX11_isArm 1 11 5)), (5, .inl (o_if_eq 21 8)), (8, .inl (o_iload 2 9)), (9, .inl (o_pushI (nI 0) 10)), (10, .inl (o_pushI (nI 1) 11)), (11, .inl (o_callS fX11_in 3 14)), (14, .inl (o_if_eq 21 17)), (17, .inl (o_pushI (nI 1) 18)), (18, .inl (o_goto 22)), (21, .inl (o_pushI (nI 0) 22)), (22, .inl (o_callS fX11_unless 1 25)), (25, .inl (o_istore 3 26)), (26, .inl (o_aload 0 27)), (27, .inl (o_iload 3 28)), (28, .inl (o_if_eq 35 31)), (31, .inl (o_iload 3 32)), (32, .inl (o_goto 51)), (35, .inl (o_aload 0 36)), (36, .inl (o_iload 1 37)), (37, .inl (o_pushI (nI 1) 38)), (38, .inl (o_callV fX11_sumOf 2 11 41)), (41, .inl (o_pushI (nI 6) 43)), (43, .inl (o_icmp_le 50 46)), (46, .inl (o_pushI (nI 5) 47)), (47, .inl (o_goto 51)), (50, .inl (o_pushI (nI 0) 51)), (51, .inl (o_callV fX11_isRefused 1 11 54)), (54, .inl (o_if_eq 61 57)), (57, .inl (o_pushL ((-1)) 60)), (60, .inr 2), (61, .inl (o_pushL (lN 1) 62)), (62, .inl (o_lstore 4 64)), (64, .inl (o_pushL (lN 1) 65)), (65, .inl (o_lstore 6 67)), (67, .inl (o_pushI (nI 0) 68)), (68, .inl (o_istore 8 70)), (70, .inl (o_iload 8 72)), (72, .inl (o_aload 0 73))]
def lX11_sound_1 : List (Nat × (Op ⊕ Nat)) := [(73, .inl (o_get 11 7 76)), (76, .inl (o_pushI (nI 1) 77)), (77, .inl (o_iald 78)), (78, .inl (o_icmp_ge 167 81)), (81, .inl (o_pushI (nI 0) 82)), (82, .inl (o_istore 9 84)), (84, .inl (o_iload 9 86)), (86, .inl (o_aload 0 87)), (87, .inl (o_get 11 7 90)), (90, .inl (o_pushI (nI 106) 92)), (92, .inl (o_iload 8 94)), (94, .inl (o_iadd 95)), (95, .inl (o_iald 96)), (96, .inl (o_icmp_ge 161 99)), (99, .inl (o_aload 0 100)), (100, .inl (o_iload 8 102)), (102, .inl (o_iload 9 104)), (104, .inl (o_callV fX11_who 2 11 107)), (107, .inl (o_iload 1 108)), (108, .inl (o_icmp_ne 155 111)), (111, .inl (o_pushI (nI 1000) 114)), (114, .inl (o_aload 0 115)), (115, .inl (o_iload 1 116)), (116, .inl (o_aload 0 117)), (117, .inl (o_iload 8 119)), (119, .inl (o_iload 9 121)), (121, .inl (o_callV fX11_throwsAt 2 11 124)), (124, .inl (o_callV fX11_riskOf 2 11 127)), (127, .inl (o_isub 128)), (128, .inl (o_istore 10 130)), (130, .inl (o_lload 4 132)), (132, .inl (o_iload 10 134)), (134, .inl (o_if_ge 141 137)), (137, .inl (o_pushL (lN 0) 138)), (138, .inl (o_goto 144)), (141, .inl (o_iload 10 143)), (143, .inl (o_i2l 144)), (144, .inl (o_lmul 145)), (145, .inl (o_lstore 4 147)), (147, .inl (o_lload 6 149))]
def lX11_sound_2 : List (Nat × (Op ⊕ Nat)) := [(149, .inl (o_pushL (lN 1000) 152)), (152, .inl (o_lmul 153)), (153, .inl (o_lstore 6 155)), (155, .inl (o_iinc 9 (nI 1) 158)), (158, .inl (o_goto 84)), (161, .inl (o_iinc 8 (nI 1) 164)), (164, .inl (o_goto 70)), (167, .inl (o_iload 2 168)), (168, .inl (o_if_ne 176 171)), (171, .inl (o_lload 4 173)), (173, .inl (o_goto 178)), (176, .inl (o_lload 6 178)), (178, .inl (o_lload 6 180)), (180, .inl (o_lload 4 182)), (182, .inl (o_callS fX11_common 2 185)), (185, .inl (o_ldiv 186)), (186, .inr 2)]
def lX11_sound : List (Nat × (Op ⊕ Nat)) := lX11_sound_0 ++ (lX11_sound_1 ++ (lX11_sound_2))
theorem qX11_sound : yX11_sound.cls = RX11 ∧ yX11_sound.cls ≠ "java/lang/invoke/MethodHandle" ∧ yX11_sound.cls ≠ "java/lang/invoke/VarHandle" ∧ (parseMethodDescriptor yX11_sound.desc).map (fun d => d.parameters.length) = some 2 := by decide +kernel
set_option maxRecDepth 10000 in
theorem hX11_sound_0 (l : Launch) {p : Program} {e : Env} {s : State} {m : MethodId} {args : Array Value} {below : List Frame} {meth : Method} {c : Code} {D : va_G} {ad adV : Nat → Nat} {cA : Nat → ClassId} {K : Kt} (C0 : Cx p s m args meth c D ad adV cA cX11_sound 11 RX11) (hr : meth.sig.returnType = (some .long)) : ∀ q ∈ lX11_sound_0, Sd p l e (rmd 3) s m args below meth c (MQ below (QQ D ad cA K) args s 0 0 (AA ad)) D ad cA 11 q.1 (opOf K q.2) := List.forall_mem_cons.mpr ⟨s_aload_n C0 dX11_sound_0 rfl, List.forall_mem_cons.mpr ⟨s_iload_n C0 dX11_sound_1 rfl, List.forall_mem_cons.mpr ⟨s_callV (ci := 11) C0 (kX11_isArm l) dX11_sound_2 rfl qX11_isArm tw6_214 tw6_216 twp_57 tw1_12 tw6_217 rfl (by decide) (by decide), List.forall_mem_cons.mpr ⟨s_if_eq C0 dX11_sound_5 rfl, List.forall_mem_cons.mpr ⟨s_iload_n C0 dX11_sound_8 rfl, List.forall_mem_cons.mpr ⟨s_iconst C0 dX11_sound_9 rfl, List.forall_mem_cons.mpr ⟨s_iconst C0 dX11_sound_10 rfl, List.forall_mem_cons.mpr ⟨s_callS C0 (kX11_in l) dX11_sound_11 qX11_in tw6_112 tw6_113 tw1_12 tw6_114 rfl (by decide) (by decide), List.forall_mem_cons.mpr ⟨s_if_eq C0 dX11_sound_14 rfl, List.forall_mem_cons.mpr ⟨s_iconst C0 dX11_sound_17 rfl, List.forall_mem_cons.mpr ⟨s_goto C0 dX11_sound_18 rfl, List.forall_mem_cons.mpr ⟨s_iconst C0 dX11_sound_21 rfl, List.forall_mem_cons.mpr ⟨s_callS C0 (kX11_unless l) dX11_sound_22 qX11_unless tw6_203 tw6_204 tw1_12 tw6_205 rfl (by decide) (by decide), List.forall_mem_cons.mpr ⟨s_istore_n C0 dX11_sound_25 rfl (by decide), List.forall_mem_cons.mpr ⟨s_aload_n C0 dX11_sound_26 rfl, List.forall_mem_cons.mpr ⟨s_iload_n C0 dX11_sound_27 rfl, List.forall_mem_cons.mpr ⟨s_if_eq C0 dX11_sound_28 rfl, List.forall_mem_cons.mpr ⟨s_iload_n C0 dX11_sound_31 rfl, List.forall_mem_cons.mpr ⟨s_goto C0 dX11_sound_32 rfl, List.forall_mem_cons.mpr ⟨s_aload_n C0 dX11_sound_35 rfl, List.forall_mem_cons.mpr ⟨s_iload_n C0 dX11_sound_36 rfl, List.forall_mem_cons.mpr ⟨s_iconst C0 dX11_sound_37 rfl, List.forall_mem_cons.mpr ⟨s_callV (ci := 11) C0 (kX11_sumOf l) dX11_sound_38 rfl qX11_sumOf tw6_218 tw6_220 twp_58 tw1_12 tw6_221 rfl (by decide) (by decide), List.forall_mem_cons.mpr ⟨s_bipush C0 dX11_sound_41 (by decide +kernel), List.forall_mem_cons.mpr ⟨s_icmp_le C0 dX11_sound_43 rfl, List.forall_mem_cons.mpr ⟨s_iconst C0 dX11_sound_46 rfl, List.forall_mem_cons.mpr ⟨s_goto C0 dX11_sound_47 rfl, List.forall_mem_cons.mpr ⟨s_iconst C0 dX11_sound_50 rfl, List.forall_mem_cons.mpr ⟨s_callV (ci := 11) C0 (kX11_isRefused l) dX11_sound_51 rfl qX11_isRefused tw6_118 tw6_120 twp_41 tw1_12 tw6_121 rfl (by decide) (by decide), List.forall_mem_cons.mpr ⟨s_if_eq C0 dX11_sound_54 rfl, List.forall_mem_cons.mpr ⟨s_ldc2 C0 dX11_sound_57 tw7_181, List.forall_mem_cons.mpr ⟨s_lret C0 hr dX11_sound_60, List.forall_mem_cons.mpr ⟨s_lconst C0 dX11_sound_61 rfl, List.forall_mem_cons.mpr ⟨s_lstore C0 dX11_sound_62 (by decide), List.forall_mem_cons.mpr ⟨s_lconst C0 dX11_sound_64 rfl, List.forall_mem_cons.mpr ⟨s_lstore C0 dX11_sound_65 (by decide), List.forall_mem_cons.mpr ⟨s_iconst C0 dX11_sound_67 rfl, List.forall_mem_cons.mpr ⟨s_istore C0 dX11_sound_68 (by decide), List.forall_mem_cons.mpr ⟨s_iload C0 dX11_sound_70, List.forall_mem_cons.mpr ⟨s_aload_n C0 dX11_sound_72 rfl, fun _ h => absurd h List.not_mem_nil⟩⟩⟩⟩⟩⟩⟩⟩⟩⟩⟩⟩⟩⟩⟩⟩⟩⟩⟩⟩⟩⟩⟩⟩⟩⟩⟩⟩⟩⟩⟩⟩⟩⟩⟩⟩⟩⟩⟩⟩
set_option maxRecDepth 10000 in
theorem hX11_sound_1 (l : Launch) {p : Program} {e : Env} {s : State} {m : MethodId} {args : Array Value} {below : List Frame} {meth : Method} {c : Code} {D : va_G} {ad adV : Nat → Nat} {cA : Nat → ClassId} {K : Kt} (C0 : Cx p s m args meth c D ad adV cA cX11_sound 11 RX11) (hr : meth.sig.returnType = (some .long)) : ∀ q ∈ lX11_sound_1, Sd p l e (rmd 3) s m args below meth c (MQ below (QQ D ad cA K) args s 0 0 (AA ad)) D ad cA 11 q.1 (opOf K q.2) := List.forall_mem_cons.mpr ⟨s_get (ci := 11) (k := 7) C0 dX11_sound_73 inX11 rfl (by decide) tw6_18, List.forall_mem_cons.mpr ⟨s_iconst C0 dX11_sound_76 rfl, List.forall_mem_cons.mpr ⟨s_iald C0 dX11_sound_77, List.forall_mem_cons.mpr ⟨s_icmp_ge C0 dX11_sound_78 rfl, List.forall_mem_cons.mpr ⟨s_iconst C0 dX11_sound_81 rfl, List.forall_mem_cons.mpr ⟨s_istore C0 dX11_sound_82 (by decide), List.forall_mem_cons.mpr ⟨s_iload C0 dX11_sound_84, List.forall_mem_cons.mpr ⟨s_aload_n C0 dX11_sound_86 rfl, List.forall_mem_cons.mpr ⟨s_get (ci := 11) (k := 7) C0 dX11_sound_87 inX11 rfl (by decide) tw6_18, List.forall_mem_cons.mpr ⟨s_bipush C0 dX11_sound_90 (by decide +kernel), List.forall_mem_cons.mpr ⟨s_iload C0 dX11_sound_92, List.forall_mem_cons.mpr ⟨s_iadd C0 dX11_sound_94, List.forall_mem_cons.mpr ⟨s_iald C0 dX11_sound_95, List.forall_mem_cons.mpr ⟨s_icmp_ge C0 dX11_sound_96 rfl, List.forall_mem_cons.mpr ⟨s_aload_n C0 dX11_sound_99 rfl, List.forall_mem_cons.mpr ⟨s_iload C0 dX11_sound_100, List.forall_mem_cons.mpr ⟨s_iload C0 dX11_sound_102, List.forall_mem_cons.mpr ⟨s_callV (ci := 11) C0 (kX11_who l) dX11_sound_104 rfl qX11_who tw6_230 tw6_232 twp_61 tw1_12 tw6_233 rfl (by decide) (by decide), List.forall_mem_cons.mpr ⟨s_iload_n C0 dX11_sound_107 rfl, List.forall_mem_cons.mpr ⟨s_icmp_ne C0 dX11_sound_108 rfl, List.forall_mem_cons.mpr ⟨s_sipush C0 dX11_sound_111 (by decide +kernel), List.forall_mem_cons.mpr ⟨s_aload_n C0 dX11_sound_114 rfl, List.forall_mem_cons.mpr ⟨s_iload_n C0 dX11_sound_115 rfl, List.forall_mem_cons.mpr ⟨s_aload_n C0 dX11_sound_116 rfl, List.forall_mem_cons.mpr ⟨s_iload C0 dX11_sound_117, List.forall_mem_cons.mpr ⟨s_iload C0 dX11_sound_119, List.forall_mem_cons.mpr ⟨s_callV (ci := 11) C0 (kX11_throwsAt l) dX11_sound_121 rfl qX11_throwsAt tw6_222 tw6_224 twp_59 tw1_12 tw6_225 rfl (by decide) (by decide), List.forall_mem_cons.mpr ⟨s_callV (ci := 11) C0 (kX11_riskOf l) dX11_sound_124 rfl qX11_riskOf tw7_6 tw7_8 twp_65 tw1_12 tw7_9 rfl (by decide) (by decide), List.forall_mem_cons.mpr ⟨s_isub C0 dX11_sound_127, List.forall_mem_cons.mpr ⟨s_istore C0 dX11_sound_128 (by decide), List.forall_mem_cons.mpr ⟨s_lload C0 dX11_sound_130, List.forall_mem_cons.mpr ⟨s_iload C0 dX11_sound_132, List.forall_mem_cons.mpr ⟨s_if_ge C0 dX11_sound_134 rfl, List.forall_mem_cons.mpr ⟨s_lconst C0 dX11_sound_137 rfl, List.forall_mem_cons.mpr ⟨s_goto C0 dX11_sound_138 rfl, List.forall_mem_cons.mpr ⟨s_iload C0 dX11_sound_141, List.forall_mem_cons.mpr ⟨s_i2l C0 dX11_sound_143, List.forall_mem_cons.mpr ⟨s_lmul C0 dX11_sound_144, List.forall_mem_cons.mpr ⟨s_lstore C0 dX11_sound_145 (by decide), List.forall_mem_cons.mpr ⟨s_lload C0 dX11_sound_147, fun _ h => absurd h List.not_mem_nil⟩⟩⟩⟩⟩⟩⟩⟩⟩⟩⟩⟩⟩⟩⟩⟩⟩⟩⟩⟩⟩⟩⟩⟩⟩⟩⟩⟩⟩⟩⟩⟩⟩⟩⟩⟩⟩⟩⟩⟩
set_option maxRecDepth 10000 in
theorem hX11_sound_2 (l : Launch) {p : Program} {e : Env} {s : State} {m : MethodId} {args : Array Value} {below : List Frame} {meth : Method} {c : Code} {D : va_G} {ad adV : Nat → Nat} {cA : Nat → ClassId} {K : Kt} (C0 : Cx p s m args meth c D ad adV cA cX11_sound 11 RX11) (hr : meth.sig.returnType = (some .long)) : ∀ q ∈ lX11_sound_2, Sd p l e (rmd 3) s m args below meth c (MQ below (QQ D ad cA K) args s 0 0 (AA ad)) D ad cA 11 q.1 (opOf K q.2) := List.forall_mem_cons.mpr ⟨s_ldc2 C0 dX11_sound_149 tw7_182, List.forall_mem_cons.mpr ⟨s_lmul C0 dX11_sound_152, List.forall_mem_cons.mpr ⟨s_lstore C0 dX11_sound_153 (by decide), List.forall_mem_cons.mpr ⟨s_iinc C0 dX11_sound_155 rfl (by decide), List.forall_mem_cons.mpr ⟨s_goto C0 dX11_sound_158 rfl, List.forall_mem_cons.mpr ⟨s_iinc C0 dX11_sound_161 rfl (by decide), List.forall_mem_cons.mpr ⟨s_goto C0 dX11_sound_164 rfl, List.forall_mem_cons.mpr ⟨s_iload_n C0 dX11_sound_167 rfl, List.forall_mem_cons.mpr ⟨s_if_ne C0 dX11_sound_168 rfl, List.forall_mem_cons.mpr ⟨s_lload C0 dX11_sound_171, List.forall_mem_cons.mpr ⟨s_goto C0 dX11_sound_173 rfl, List.forall_mem_cons.mpr ⟨s_lload C0 dX11_sound_176, List.forall_mem_cons.mpr ⟨s_lload C0 dX11_sound_178, List.forall_mem_cons.mpr ⟨s_lload C0 dX11_sound_180, List.forall_mem_cons.mpr ⟨s_callS C0 (kX11_common l) dX11_sound_182 qX11_common tw7_183 tw7_184 tw1_12 tw7_185 rfl (by decide) (by decide), List.forall_mem_cons.mpr ⟨s_ldiv C0 dX11_sound_185, List.forall_mem_cons.mpr ⟨s_lret C0 hr dX11_sound_186, fun _ h => absurd h List.not_mem_nil⟩⟩⟩⟩⟩⟩⟩⟩⟩⟩⟩⟩⟩⟩⟩⟩⟩
def fX11_sound : Mf := mf 11 (fun K => tl K lX11_sound)
theorem kX11_sound (l : Launch) : Okm l yX11_sound cX11_sound 11 (some .long) 3 fX11_sound := Okm_tl (own := RX11) (by decide +kernel) rfl (fun C0 hr => List.forall_mem_append.mpr ⟨hX11_sound_0 l C0 hr, List.forall_mem_append.mpr ⟨hX11_sound_1 l C0 hr, hX11_sound_2 l C0 hr⟩⟩)
theorem dX11_risk_0 : decode cX11_risk 0 = .ok (.aload_n 0, 1) := by decide +kernel
theorem dX11_risk_1 : decode cX11_risk 1 = .ok (.aload_n 0, 1) := by decide +kernel
theorem dX11_risk_2 : decode cX11_risk 2 = .ok (.iload_n 1, 1) := by decide +kernel
theorem dX11_risk_3 : decode cX11_risk 3 = .ok (.invokevirtual 211, 3) := by decide +kernel
theorem dX11_risk_6 : decode cX11_risk 6 = .ok (.invokestatic 182, 3) := by decide +kernel
theorem dX11_risk_9 : decode cX11_risk 9 = .ok (.invokevirtual 159, 3) := by decide +kernel
theorem dX11_risk_12 : decode cX11_risk 12 = .ok (.ifCond .eq 7, 3) := by decide +kernel
theorem dX11_risk_15 : decode cX11_risk 15 = .ok (.iconst (-1), 1) := by decide +kernel
theorem dX11_risk_16 : decode cX11_risk 16 = .ok (.goto 9, 3) := by decide +kernel
theorem dX11_risk_19 : decode cX11_risk 19 = .ok (.aload_n 0, 1) := by decide +kernel
theorem dX11_risk_20 : decode cX11_risk 20 = .ok (.iload_n 1, 1) := by decide +kernel
theorem dX11_risk_21 : decode cX11_risk 21 = .ok (.iconst 3, 1) := by decide +kernel
theorem dX11_risk_22 : decode cX11_risk 22 = .ok (.invokevirtual 214, 3) := by decide +kernel
theorem dX11_risk_25 : decode cX11_risk 25 = .ok (.ireturn, 1) := by decide +kernel
def lX11_risk : List (Nat × (Op ⊕ Nat)) := [(0, .inl (o_aload 0 1)), (1, .inl (o_aload 0 2)), (2, .inl (o_iload 1 3)), (3, .inl (o_callV fX11_isArm 1 11 6)), (6, .inl (o_callS fX11_unless 1 9)), (9, .inl (o_callV fX11_isRefused 1 11 12)), (12, .inl (o_if_eq 19 15)), (15, .inl (o_pushI ((-1)) 16)), (16, .inl (o_goto 25)), (19, .inl (o_aload 0 20)), (20, .inl (o_iload 1 21)), (21, .inl (o_pushI (nI 3) 22)), (22, .inl (o_callV fX11_sumOf 2 11 25)), (25, .inr 0)]
theorem qX11_risk : yX11_risk.cls = RX11 ∧ yX11_risk.cls ≠ "java/lang/invoke/MethodHandle" ∧ yX11_risk.cls ≠ "java/lang/invoke/VarHandle" ∧ (parseMethodDescriptor yX11_risk.desc).map (fun d => d.parameters.length) = some 1 := by decide +kernel
set_option maxRecDepth 10000 in
theorem hX11_risk_0 (l : Launch) {p : Program} {e : Env} {s : State} {m : MethodId} {args : Array Value} {below : List Frame} {meth : Method} {c : Code} {D : va_G} {ad adV : Nat → Nat} {cA : Nat → ClassId} {K : Kt} (C0 : Cx p s m args meth c D ad adV cA cX11_risk 2 RX11) (hr : meth.sig.returnType = (some .int)) : ∀ q ∈ lX11_risk, Sd p l e (rmd 3) s m args below meth c (MQ below (QQ D ad cA K) args s 0 0 (AA ad)) D ad cA 2 q.1 (opOf K q.2) := List.forall_mem_cons.mpr ⟨s_aload_n C0 dX11_risk_0 rfl, List.forall_mem_cons.mpr ⟨s_aload_n C0 dX11_risk_1 rfl, List.forall_mem_cons.mpr ⟨s_iload_n C0 dX11_risk_2 rfl, List.forall_mem_cons.mpr ⟨s_callV (ci := 11) C0 (kX11_isArm l) dX11_risk_3 rfl qX11_isArm tw6_214 tw6_216 twp_57 tw1_12 tw6_217 rfl (by decide) (by decide), List.forall_mem_cons.mpr ⟨s_callS C0 (kX11_unless l) dX11_risk_6 qX11_unless tw6_203 tw6_204 tw1_12 tw6_205 rfl (by decide) (by decide), List.forall_mem_cons.mpr ⟨s_callV (ci := 11) C0 (kX11_isRefused l) dX11_risk_9 rfl qX11_isRefused tw6_118 tw6_120 twp_41 tw1_12 tw6_121 rfl (by decide) (by decide), List.forall_mem_cons.mpr ⟨s_if_eq C0 dX11_risk_12 rfl, List.forall_mem_cons.mpr ⟨s_iconst C0 dX11_risk_15 rfl, List.forall_mem_cons.mpr ⟨s_goto C0 dX11_risk_16 rfl, List.forall_mem_cons.mpr ⟨s_aload_n C0 dX11_risk_19 rfl, List.forall_mem_cons.mpr ⟨s_iload_n C0 dX11_risk_20 rfl, List.forall_mem_cons.mpr ⟨s_iconst C0 dX11_risk_21 rfl, List.forall_mem_cons.mpr ⟨s_callV (ci := 11) C0 (kX11_sumOf l) dX11_risk_22 rfl qX11_sumOf tw6_218 tw6_220 twp_58 tw1_12 tw6_221 rfl (by decide) (by decide), List.forall_mem_cons.mpr ⟨s_iret C0 hr dX11_risk_25, fun _ h => absurd h List.not_mem_nil⟩⟩⟩⟩⟩⟩⟩⟩⟩⟩⟩⟩⟩⟩
def fX11_risk : Mf := mf 2 (fun K => tl K lX11_risk)
theorem kX11_risk (l : Launch) : Okm l yX11_risk cX11_risk 2 (some .int) 3 fX11_risk := Okm_tl (own := RX11) (by decide +kernel) rfl (fun C0 hr => hX11_risk_0 l C0 hr)
theorem dX11_goes_0 : decode cX11_goes 0 = .ok (.iconst 0, 1) := by decide +kernel
theorem dX11_goes_1 : decode cX11_goes 1 = .ok (.istore_n 2, 1) := by decide +kernel
theorem dX11_goes_2 : decode cX11_goes 2 = .ok (.iload_n 2, 1) := by decide +kernel
theorem dX11_goes_3 : decode cX11_goes 3 = .ok (.bipush 8, 2) := by decide +kernel
theorem dX11_goes_5 : decode cX11_goes 5 = .ok (.if_icmp .ge 16, 3) := by decide +kernel
theorem dX11_goes_8 : decode cX11_goes 8 = .ok (.aload_n 0, 1) := by decide +kernel
theorem dX11_goes_9 : decode cX11_goes 9 = .ok (.getfield 38, 3) := by decide +kernel
theorem dX11_goes_12 : decode cX11_goes 12 = .ok (.iload_n 2, 1) := by decide +kernel
theorem dX11_goes_13 : decode cX11_goes 13 = .ok (.iconst (-1), 1) := by decide +kernel
theorem dX11_goes_14 : decode cX11_goes 14 = .ok (.iastore, 1) := by decide +kernel
theorem dX11_goes_15 : decode cX11_goes 15 = .ok (.iinc 2 1, 3) := by decide +kernel
theorem dX11_goes_18 : decode cX11_goes 18 = .ok (.goto (-16), 3) := by decide +kernel
theorem dX11_goes_21 : decode cX11_goes 21 = .ok (.iconst 0, 1) := by decide +kernel
theorem dX11_goes_22 : decode cX11_goes 22 = .ok (.istore_n 2, 1) := by decide +kernel
theorem dX11_goes_23 : decode cX11_goes 23 = .ok (.iload_n 2, 1) := by decide +kernel
theorem dX11_goes_24 : decode cX11_goes 24 = .ok (.iconst 5, 1) := by decide +kernel
theorem dX11_goes_25 : decode cX11_goes 25 = .ok (.if_icmp .ge 26, 3) := by decide +kernel
theorem dX11_goes_28 : decode cX11_goes 28 = .ok (.aload_n 0, 1) := by decide +kernel
theorem dX11_goes_29 : decode cX11_goes 29 = .ok (.getfield 41, 3) := by decide +kernel
theorem dX11_goes_32 : decode cX11_goes 32 = .ok (.iload_n 2, 1) := by decide +kernel
theorem dX11_goes_33 : decode cX11_goes 33 = .ok (.iload_n 2, 1) := by decide +kernel
theorem dX11_goes_34 : decode cX11_goes 34 = .ok (.iconst 4, 1) := by decide +kernel
theorem dX11_goes_35 : decode cX11_goes 35 = .ok (.if_icmp .ne 8, 3) := by decide +kernel
theorem dX11_goes_38 : decode cX11_goes 38 = .ok (.bipush (-2), 2) := by decide +kernel
theorem dX11_goes_40 : decode cX11_goes 40 = .ok (.goto 4, 3) := by decide +kernel
theorem dX11_goes_43 : decode cX11_goes 43 = .ok (.iconst 0, 1) := by decide +kernel
theorem dX11_goes_44 : decode cX11_goes 44 = .ok (.iastore, 1) := by decide +kernel
theorem dX11_goes_45 : decode cX11_goes 45 = .ok (.iinc 2 1, 3) := by decide +kernel
theorem dX11_goes_48 : decode cX11_goes 48 = .ok (.goto (-25), 3) := by decide +kernel
theorem dX11_goes_51 : decode cX11_goes 51 = .ok (.iload_n 1, 1) := by decide +kernel
theorem dX11_goes_52 : decode cX11_goes 52 = .ok (.i2l, 1) := by decide +kernel
theorem dX11_goes_53 : decode cX11_goes 53 = .ok (.lstore_n 2, 1) := by decide +kernel
theorem dX11_goes_54 : decode cX11_goes 54 = .ok (.iconst 0, 1) := by decide +kernel
theorem dX11_goes_55 : decode cX11_goes 55 = .ok (.istore 4, 2) := by decide +kernel
theorem dX11_goes_57 : decode cX11_goes 57 = .ok (.iload 4, 2) := by decide +kernel
theorem dX11_goes_59 : decode cX11_goes 59 = .ok (.aload_n 0, 1) := by decide +kernel
theorem dX11_goes_60 : decode cX11_goes 60 = .ok (.getfield 17, 3) := by decide +kernel
theorem dX11_goes_63 : decode cX11_goes 63 = .ok (.iconst 1, 1) := by decide +kernel
theorem dX11_goes_64 : decode cX11_goes 64 = .ok (.iaload, 1) := by decide +kernel
theorem dX11_goes_65 : decode cX11_goes 65 = .ok (.if_icmp .ge 210, 3) := by decide +kernel
theorem dX11_goes_68 : decode cX11_goes 68 = .ok (.iconst 0, 1) := by decide +kernel
theorem dX11_goes_69 : decode cX11_goes 69 = .ok (.istore 5, 2) := by decide +kernel
theorem dX11_goes_71 : decode cX11_goes 71 = .ok (.iload 5, 2) := by decide +kernel
theorem dX11_goes_73 : decode cX11_goes 73 = .ok (.aload_n 0, 1) := by decide +kernel
theorem dX11_goes_74 : decode cX11_goes 74 = .ok (.getfield 17, 3) := by decide +kernel
theorem dX11_goes_77 : decode cX11_goes 77 = .ok (.bipush 106, 2) := by decide +kernel
theorem dX11_goes_79 : decode cX11_goes 79 = .ok (.iload 4, 2) := by decide +kernel
theorem dX11_goes_81 : decode cX11_goes 81 = .ok (.iadd, 1) := by decide +kernel
theorem dX11_goes_82 : decode cX11_goes 82 = .ok (.iaload, 1) := by decide +kernel
theorem dX11_goes_83 : decode cX11_goes 83 = .ok (.if_icmp .ge 186, 3) := by decide +kernel
theorem dX11_goes_86 : decode cX11_goes 86 = .ok (.aload_n 0, 1) := by decide +kernel
theorem dX11_goes_87 : decode cX11_goes 87 = .ok (.iload 4, 2) := by decide +kernel
theorem dX11_goes_89 : decode cX11_goes 89 = .ok (.iload 5, 2) := by decide +kernel
theorem dX11_goes_91 : decode cX11_goes 91 = .ok (.invokevirtual 201, 3) := by decide +kernel
theorem dX11_goes_94 : decode cX11_goes 94 = .ok (.istore 6, 2) := by decide +kernel
theorem dX11_goes_96 : decode cX11_goes 96 = .ok (.aload_n 0, 1) := by decide +kernel
theorem dX11_goes_97 : decode cX11_goes 97 = .ok (.getfield 17, 3) := by decide +kernel
theorem dX11_goes_100 : decode cX11_goes 100 = .ok (.bipush 46, 2) := by decide +kernel
theorem dX11_goes_102 : decode cX11_goes 102 = .ok (.iload 4, 2) := by decide +kernel
theorem dX11_goes_104 : decode cX11_goes 104 = .ok (.iadd, 1) := by decide +kernel
theorem dX11_goes_105 : decode cX11_goes 105 = .ok (.iaload, 1) := by decide +kernel
theorem dX11_goes_106 : decode cX11_goes 106 = .ok (.aload_n 0, 1) := by decide +kernel
theorem dX11_goes_107 : decode cX11_goes 107 = .ok (.getfield 38, 3) := by decide +kernel
theorem dX11_goes_110 : decode cX11_goes 110 = .ok (.iload 6, 2) := by decide +kernel
theorem dX11_goes_112 : decode cX11_goes 112 = .ok (.iaload, 1) := by decide +kernel
theorem dX11_goes_113 : decode cX11_goes 113 = .ok (.if_icmp .gt 16, 3) := by decide +kernel
theorem dX11_goes_116 : decode cX11_goes 116 = .ok (.aload_n 0, 1) := by decide +kernel
theorem dX11_goes_117 : decode cX11_goes 117 = .ok (.getfield 41, 3) := by decide +kernel
theorem dX11_goes_120 : decode cX11_goes 120 = .ok (.iconst 2, 1) := by decide +kernel
theorem dX11_goes_121 : decode cX11_goes 121 = .ok (.dup2, 1) := by decide +kernel
theorem dX11_goes_122 : decode cX11_goes 122 = .ok (.iaload, 1) := by decide +kernel
theorem dX11_goes_123 : decode cX11_goes 123 = .ok (.iconst 1, 1) := by decide +kernel
theorem dX11_goes_124 : decode cX11_goes 124 = .ok (.iadd, 1) := by decide +kernel
theorem dX11_goes_125 : decode cX11_goes 125 = .ok (.iastore, 1) := by decide +kernel
theorem dX11_goes_126 : decode cX11_goes 126 = .ok (.goto 137, 3) := by decide +kernel
theorem dX11_goes_129 : decode cX11_goes 129 = .ok (.aload_n 0, 1) := by decide +kernel
theorem dX11_goes_130 : decode cX11_goes 130 = .ok (.getfield 41, 3) := by decide +kernel
theorem dX11_goes_133 : decode cX11_goes 133 = .ok (.iconst 3, 1) := by decide +kernel
theorem dX11_goes_134 : decode cX11_goes 134 = .ok (.dup2, 1) := by decide +kernel
theorem dX11_goes_135 : decode cX11_goes 135 = .ok (.iaload, 1) := by decide +kernel
theorem dX11_goes_136 : decode cX11_goes 136 = .ok (.aload_n 0, 1) := by decide +kernel
theorem dX11_goes_137 : decode cX11_goes 137 = .ok (.iload 6, 2) := by decide +kernel
theorem dX11_goes_139 : decode cX11_goes 139 = .ok (.iload 4, 2) := by decide +kernel
theorem dX11_goes_141 : decode cX11_goes 141 = .ok (.aload_n 0, 1) := by decide +kernel
theorem dX11_goes_142 : decode cX11_goes 142 = .ok (.iload 4, 2) := by decide +kernel
theorem dX11_goes_144 : decode cX11_goes 144 = .ok (.iload 5, 2) := by decide +kernel
theorem dX11_goes_146 : decode cX11_goes 146 = .ok (.invokevirtual 198, 3) := by decide +kernel
theorem dX11_goes_149 : decode cX11_goes 149 = .ok (.invokevirtual 204, 3) := by decide +kernel
theorem dX11_goes_152 : decode cX11_goes 152 = .ok (.iadd, 1) := by decide +kernel
theorem dX11_goes_153 : decode cX11_goes 153 = .ok (.iastore, 1) := by decide +kernel
theorem dX11_goes_154 : decode cX11_goes 154 = .ok (.lload_n 2, 1) := by decide +kernel
theorem dX11_goes_155 : decode cX11_goes 155 = .ok (.ldc2_w 287, 3) := by decide +kernel
theorem dX11_goes_158 : decode cX11_goes 158 = .ok (.lmul, 1) := by decide +kernel
theorem dX11_goes_159 : decode cX11_goes 159 = .ok (.ldc2_w 289, 3) := by decide +kernel
theorem dX11_goes_162 : decode cX11_goes 162 = .ok (.lrem, 1) := by decide +kernel
theorem dX11_goes_163 : decode cX11_goes 163 = .ok (.lstore_n 2, 1) := by decide +kernel
theorem dX11_goes_164 : decode cX11_goes 164 = .ok (.lload_n 2, 1) := by decide +kernel
theorem dX11_goes_165 : decode cX11_goes 165 = .ok (.ldc2_w 281, 3) := by decide +kernel
theorem dX11_goes_168 : decode cX11_goes 168 = .ok (.lrem, 1) := by decide +kernel
theorem dX11_goes_169 : decode cX11_goes 169 = .ok (.aload_n 0, 1) := by decide +kernel
theorem dX11_goes_170 : decode cX11_goes 170 = .ok (.iload 6, 2) := by decide +kernel
theorem dX11_goes_172 : decode cX11_goes 172 = .ok (.aload_n 0, 1) := by decide +kernel
theorem dX11_goes_173 : decode cX11_goes 173 = .ok (.iload 4, 2) := by decide +kernel
theorem dX11_goes_175 : decode cX11_goes 175 = .ok (.iload 5, 2) := by decide +kernel
theorem dX11_goes_177 : decode cX11_goes 177 = .ok (.invokevirtual 198, 3) := by decide +kernel
theorem dX11_goes_180 : decode cX11_goes 180 = .ok (.invokevirtual 208, 3) := by decide +kernel
theorem dX11_goes_183 : decode cX11_goes 183 = .ok (.i2l, 1) := by decide +kernel
theorem dX11_goes_184 : decode cX11_goes 184 = .ok (.lcmp, 1) := by decide +kernel
theorem dX11_goes_185 : decode cX11_goes 185 = .ok (.ifCond .ge 78, 3) := by decide +kernel
theorem dX11_goes_188 : decode cX11_goes 188 = .ok (.aload_n 0, 1) := by decide +kernel
theorem dX11_goes_189 : decode cX11_goes 189 = .ok (.getfield 41, 3) := by decide +kernel
theorem dX11_goes_192 : decode cX11_goes 192 = .ok (.iconst 0, 1) := by decide +kernel
theorem dX11_goes_193 : decode cX11_goes 193 = .ok (.dup2, 1) := by decide +kernel
theorem dX11_goes_194 : decode cX11_goes 194 = .ok (.iaload, 1) := by decide +kernel
theorem dX11_goes_195 : decode cX11_goes 195 = .ok (.iconst 1, 1) := by decide +kernel
theorem dX11_goes_196 : decode cX11_goes 196 = .ok (.iadd, 1) := by decide +kernel
theorem dX11_goes_197 : decode cX11_goes 197 = .ok (.iastore, 1) := by decide +kernel
theorem dX11_goes_198 : decode cX11_goes 198 = .ok (.aload_n 0, 1) := by decide +kernel
theorem dX11_goes_199 : decode cX11_goes 199 = .ok (.getfield 41, 3) := by decide +kernel
theorem dX11_goes_202 : decode cX11_goes 202 = .ok (.iconst 1, 1) := by decide +kernel
theorem dX11_goes_203 : decode cX11_goes 203 = .ok (.dup2, 1) := by decide +kernel
theorem dX11_goes_204 : decode cX11_goes 204 = .ok (.iaload, 1) := by decide +kernel
theorem dX11_goes_205 : decode cX11_goes 205 = .ok (.iconst 1, 1) := by decide +kernel
theorem dX11_goes_206 : decode cX11_goes 206 = .ok (.iload 6, 2) := by decide +kernel
theorem dX11_goes_208 : decode cX11_goes 208 = .ok (.ishl, 1) := by decide +kernel
theorem dX11_goes_209 : decode cX11_goes 209 = .ok (.ior, 1) := by decide +kernel
theorem dX11_goes_210 : decode cX11_goes 210 = .ok (.iastore, 1) := by decide +kernel
theorem dX11_goes_211 : decode cX11_goes 211 = .ok (.aload_n 0, 1) := by decide +kernel
theorem dX11_goes_212 : decode cX11_goes 212 = .ok (.getfield 41, 3) := by decide +kernel
theorem dX11_goes_215 : decode cX11_goes 215 = .ok (.iconst 4, 1) := by decide +kernel
theorem dX11_goes_216 : decode cX11_goes 216 = .ok (.aload_n 0, 1) := by decide +kernel
theorem dX11_goes_217 : decode cX11_goes 217 = .ok (.getfield 41, 3) := by decide +kernel
theorem dX11_goes_220 : decode cX11_goes 220 = .ok (.iconst 4, 1) := by decide +kernel
theorem dX11_goes_221 : decode cX11_goes 221 = .ok (.iaload, 1) := by decide +kernel
theorem dX11_goes_222 : decode cX11_goes 222 = .ok (.bipush (-2), 2) := by decide +kernel
theorem dX11_goes_224 : decode cX11_goes 224 = .ok (.if_icmp .ne 8, 3) := by decide +kernel
theorem dX11_goes_227 : decode cX11_goes 227 = .ok (.iload 4, 2) := by decide +kernel
theorem dX11_goes_229 : decode cX11_goes 229 = .ok (.goto 9, 3) := by decide +kernel
theorem dX11_goes_232 : decode cX11_goes 232 = .ok (.aload_n 0, 1) := by decide +kernel
theorem dX11_goes_233 : decode cX11_goes 233 = .ok (.getfield 41, 3) := by decide +kernel
theorem dX11_goes_236 : decode cX11_goes 236 = .ok (.iconst 4, 1) := by decide +kernel
theorem dX11_goes_237 : decode cX11_goes 237 = .ok (.iaload, 1) := by decide +kernel
theorem dX11_goes_238 : decode cX11_goes 238 = .ok (.iastore, 1) := by decide +kernel
theorem dX11_goes_239 : decode cX11_goes 239 = .ok (.aload_n 0, 1) := by decide +kernel
theorem dX11_goes_240 : decode cX11_goes 240 = .ok (.getfield 38, 3) := by decide +kernel
theorem dX11_goes_243 : decode cX11_goes 243 = .ok (.iload 6, 2) := by decide +kernel
theorem dX11_goes_245 : decode cX11_goes 245 = .ok (.aload_n 0, 1) := by decide +kernel
theorem dX11_goes_246 : decode cX11_goes 246 = .ok (.getfield 17, 3) := by decide +kernel
theorem dX11_goes_249 : decode cX11_goes 249 = .ok (.bipush 46, 2) := by decide +kernel
theorem dX11_goes_251 : decode cX11_goes 251 = .ok (.iload 4, 2) := by decide +kernel
theorem dX11_goes_253 : decode cX11_goes 253 = .ok (.iadd, 1) := by decide +kernel
theorem dX11_goes_254 : decode cX11_goes 254 = .ok (.iaload, 1) := by decide +kernel
theorem dX11_goes_255 : decode cX11_goes 255 = .ok (.aload_n 0, 1) := by decide +kernel
theorem dX11_goes_256 : decode cX11_goes 256 = .ok (.getfield 17, 3) := by decide +kernel
theorem dX11_goes_259 : decode cX11_goes 259 = .ok (.iconst 5, 1) := by decide +kernel
theorem dX11_goes_260 : decode cX11_goes 260 = .ok (.iaload, 1) := by decide +kernel
theorem dX11_goes_261 : decode cX11_goes 261 = .ok (.iadd, 1) := by decide +kernel
theorem dX11_goes_262 : decode cX11_goes 262 = .ok (.iastore, 1) := by decide +kernel
theorem dX11_goes_263 : decode cX11_goes 263 = .ok (.iinc 5 1, 3) := by decide +kernel
theorem dX11_goes_266 : decode cX11_goes 266 = .ok (.goto (-195), 3) := by decide +kernel
theorem dX11_goes_269 : decode cX11_goes 269 = .ok (.iinc 4 1, 3) := by decide +kernel
theorem dX11_goes_272 : decode cX11_goes 272 = .ok (.goto (-215), 3) := by decide +kernel
theorem dX11_goes_275 : decode cX11_goes 275 = .ok (.return_, 1) := by decide +kernel
def lX11_goes_0 : List (Nat × (Op ⊕ Nat)) := [(0, .inl (o_pushI (nI 0) 1)), (1, .inl (o_istore 2 2)), (2, .inl (o_iload 2 3)), (3, .inl (o_pushI (nI 8) 5)), (5, .inl (o_icmp_ge 21 8)), (8, .inl (o_aload 0 9)), (9, .inl (o_get 11 22 12)), (12, .inl (o_iload 2 13)), (13, .inl (o_pushI ((-1)) 14)), (14, .inl (o_iast 15)), (15, .inl (o_iinc 2 (nI 1) 18)), (18, .inl (o_goto 2)), (21, .inl (o_pushI (nI 0) 22)), (22, .inl (o_istore 2 23)), (23, .inl (o_iload 2 24)), (24, .inl (o_pushI (nI 5) 25)), (25, .inl (o_icmp_ge 51 28)), (28, .inl (o_aload 0 29)), (29, .inl (o_get 11 23 32)), (32, .inl (o_iload 2 33)), (33, .inl (o_iload 2 34)), (34, .inl (o_pushI (nI 4) 35)), (35, .inl (o_icmp_ne 43 38)), (38, .inl (o_pushI ((-2)) 40)), (40, .inl (o_goto 44)), (43, .inl (o_pushI (nI 0) 44)), (44, .inl (o_iast 45)), (45, .inl (o_iinc 2 (nI 1) 48)), (48, .inl (o_goto 23)), (51, .inl (o_iload 1 52)), (52, .inl (o_i2l 53)), (53, .inl (o_lstore 2 54)), (54, .inl (o_pushI (nI 0) 55)), (55, .inl (o_istore 4 57)), (57, .inl (o_iload 4 59)), (59, .inl (o_aload 0 60)), (60, .inl (o_get 11 7 63)), (63, .inl (o_pushI (nI 1) 64)), (64, .inl (o_iald 65)), (65, .inl (o_icmp_ge 275 68))]
def lX11_goes_1 : List (Nat × (Op ⊕ Nat)) := [(68, .inl (o_pushI (nI 0) 69)), (69, .inl (o_istore 5 71)), (71, .inl (o_iload 5 73)), (73, .inl (o_aload 0 74)), (74, .inl (o_get 11 7 77)), (77, .inl (o_pushI (nI 106) 79)), (79, .inl (o_iload 4 81)), (81, .inl (o_iadd 82)), (82, .inl (o_iald 83)), (83, .inl (o_icmp_ge 269 86)), (86, .inl (o_aload 0 87)), (87, .inl (o_iload 4 89)), (89, .inl (o_iload 5 91)), (91, .inl (o_callV fX11_who 2 11 94)), (94, .inl (o_istore 6 96)), (96, .inl (o_aload 0 97)), (97, .inl (o_get 11 7 100)), (100, .inl (o_pushI (nI 46) 102)), (102, .inl (o_iload 4 104)), (104, .inl (o_iadd 105)), (105, .inl (o_iald 106)), (106, .inl (o_aload 0 107)), (107, .inl (o_get 11 22 110)), (110, .inl (o_iload 6 112)), (112, .inl (o_iald 113)), (113, .inl (o_icmp_gt 129 116)), (116, .inl (o_aload 0 117)), (117, .inl (o_get 11 23 120)), (120, .inl (o_pushI (nI 2) 121)), (121, .inl (o_dup2 122)), (122, .inl (o_iald 123)), (123, .inl (o_pushI (nI 1) 124)), (124, .inl (o_iadd 125)), (125, .inl (o_iast 126)), (126, .inl (o_goto 263)), (129, .inl (o_aload 0 130)), (130, .inl (o_get 11 23 133)), (133, .inl (o_pushI (nI 3) 134)), (134, .inl (o_dup2 135)), (135, .inl (o_iald 136))]
def lX11_goes_2 : List (Nat × (Op ⊕ Nat)) := [(136, .inl (o_aload 0 137)), (137, .inl (o_iload 6 139)), (139, .inl (o_iload 4 141)), (141, .inl (o_aload 0 142)), (142, .inl (o_iload 4 144)), (144, .inl (o_iload 5 146)), (146, .inl (o_callV fX11_throwsAt 2 11 149)), (149, .inl (o_callV fX11_worthOf 3 11 152)), (152, .inl (o_iadd 153)), (153, .inl (o_iast 154)), (154, .inl (o_lload 2 155)), (155, .inl (o_pushL (lN 16807) 158)), (158, .inl (o_lmul 159)), (159, .inl (o_pushL (lN 2147483647) 162)), (162, .inl (o_lrem 163)), (163, .inl (o_lstore 2 164)), (164, .inl (o_lload 2 165)), (165, .inl (o_pushL (lN 1000) 168)), (168, .inl (o_lrem 169)), (169, .inl (o_aload 0 170)), (170, .inl (o_iload 6 172)), (172, .inl (o_aload 0 173)), (173, .inl (o_iload 4 175)), (175, .inl (o_iload 5 177)), (177, .inl (o_callV fX11_throwsAt 2 11 180)), (180, .inl (o_callV fX11_riskOf 2 11 183)), (183, .inl (o_i2l 184)), (184, .inl (o_lcmp 185)), (185, .inl (o_if_ge 263 188)), (188, .inl (o_aload 0 189)), (189, .inl (o_get 11 23 192)), (192, .inl (o_pushI (nI 0) 193)), (193, .inl (o_dup2 194)), (194, .inl (o_iald 195)), (195, .inl (o_pushI (nI 1) 196)), (196, .inl (o_iadd 197)), (197, .inl (o_iast 198)), (198, .inl (o_aload 0 199)), (199, .inl (o_get 11 23 202)), (202, .inl (o_pushI (nI 1) 203))]
def lX11_goes_3 : List (Nat × (Op ⊕ Nat)) := [(203, .inl (o_dup2 204)), (204, .inl (o_iald 205)), (205, .inl (o_pushI (nI 1) 206)), (206, .inl (o_iload 6 208)), (208, .inl (o_ishl 209)), (209, .inl (o_ior 210)), (210, .inl (o_iast 211)), (211, .inl (o_aload 0 212)), (212, .inl (o_get 11 23 215)), (215, .inl (o_pushI (nI 4) 216)), (216, .inl (o_aload 0 217)), (217, .inl (o_get 11 23 220)), (220, .inl (o_pushI (nI 4) 221)), (221, .inl (o_iald 222)), (222, .inl (o_pushI ((-2)) 224)), (224, .inl (o_icmp_ne 232 227)), (227, .inl (o_iload 4 229)), (229, .inl (o_goto 238)), (232, .inl (o_aload 0 233)), (233, .inl (o_get 11 23 236)), (236, .inl (o_pushI (nI 4) 237)), (237, .inl (o_iald 238)), (238, .inl (o_iast 239)), (239, .inl (o_aload 0 240)), (240, .inl (o_get 11 22 243)), (243, .inl (o_iload 6 245)), (245, .inl (o_aload 0 246)), (246, .inl (o_get 11 7 249)), (249, .inl (o_pushI (nI 46) 251)), (251, .inl (o_iload 4 253)), (253, .inl (o_iadd 254)), (254, .inl (o_iald 255)), (255, .inl (o_aload 0 256)), (256, .inl (o_get 11 7 259)), (259, .inl (o_pushI (nI 5) 260)), (260, .inl (o_iald 261)), (261, .inl (o_iadd 262)), (262, .inl (o_iast 263)), (263, .inl (o_iinc 5 (nI 1) 266)), (266, .inl (o_goto 71))]
def lX11_goes_4 : List (Nat × (Op ⊕ Nat)) := [(269, .inl (o_iinc 4 (nI 1) 272)), (272, .inl (o_goto 57)), (275, .inr 3)]
def lX11_goes : List (Nat × (Op ⊕ Nat)) := lX11_goes_0 ++ (lX11_goes_1 ++ (lX11_goes_2 ++ (lX11_goes_3 ++ (lX11_goes_4))))
theorem qX11_goes : yX11_goes.cls = RX11 ∧ yX11_goes.cls ≠ "java/lang/invoke/MethodHandle" ∧ yX11_goes.cls ≠ "java/lang/invoke/VarHandle" ∧ (parseMethodDescriptor yX11_goes.desc).map (fun d => d.parameters.length) = some 1 := by decide +kernel
set_option maxRecDepth 10000 in
theorem hX11_goes_0 (l : Launch) {p : Program} {e : Env} {s : State} {m : MethodId} {args : Array Value} {below : List Frame} {meth : Method} {c : Code} {D : va_G} {ad adV : Nat → Nat} {cA : Nat → ClassId} {K : Kt} (C0 : Cx p s m args meth c D ad adV cA cX11_goes 7 RX11) (hr : meth.sig.returnType = none) : ∀ q ∈ lX11_goes_0, Sd p l e (rmd 2) s m args below meth c (MQ below (QQ D ad cA K) args s 0 0 (AA ad)) D ad cA 7 q.1 (opOf K q.2) := List.forall_mem_cons.mpr ⟨s_iconst C0 dX11_goes_0 rfl, List.forall_mem_cons.mpr ⟨s_istore_n C0 dX11_goes_1 rfl (by decide), List.forall_mem_cons.mpr ⟨s_iload_n C0 dX11_goes_2 rfl, List.forall_mem_cons.mpr ⟨s_bipush C0 dX11_goes_3 (by decide +kernel), List.forall_mem_cons.mpr ⟨s_icmp_ge C0 dX11_goes_5 rfl, List.forall_mem_cons.mpr ⟨s_aload_n C0 dX11_goes_8 rfl, List.forall_mem_cons.mpr ⟨s_get (ci := 11) (k := 22) C0 dX11_goes_9 inX11 rfl (by decide) tw6_33, List.forall_mem_cons.mpr ⟨s_iload_n C0 dX11_goes_12 rfl, List.forall_mem_cons.mpr ⟨s_iconst C0 dX11_goes_13 rfl, List.forall_mem_cons.mpr ⟨s_iast C0 dX11_goes_14, List.forall_mem_cons.mpr ⟨s_iinc C0 dX11_goes_15 rfl (by decide), List.forall_mem_cons.mpr ⟨s_goto C0 dX11_goes_18 rfl, List.forall_mem_cons.mpr ⟨s_iconst C0 dX11_goes_21 rfl, List.forall_mem_cons.mpr ⟨s_istore_n C0 dX11_goes_22 rfl (by decide), List.forall_mem_cons.mpr ⟨s_iload_n C0 dX11_goes_23 rfl, List.forall_mem_cons.mpr ⟨s_iconst C0 dX11_goes_24 rfl, List.forall_mem_cons.mpr ⟨s_icmp_ge C0 dX11_goes_25 rfl, List.forall_mem_cons.mpr ⟨s_aload_n C0 dX11_goes_28 rfl, List.forall_mem_cons.mpr ⟨s_get (ci := 11) (k := 23) C0 dX11_goes_29 inX11 rfl (by decide) tw6_34, List.forall_mem_cons.mpr ⟨s_iload_n C0 dX11_goes_32 rfl, List.forall_mem_cons.mpr ⟨s_iload_n C0 dX11_goes_33 rfl, List.forall_mem_cons.mpr ⟨s_iconst C0 dX11_goes_34 rfl, List.forall_mem_cons.mpr ⟨s_icmp_ne C0 dX11_goes_35 rfl, List.forall_mem_cons.mpr ⟨s_bipush C0 dX11_goes_38 (by decide +kernel), List.forall_mem_cons.mpr ⟨s_goto C0 dX11_goes_40 rfl, List.forall_mem_cons.mpr ⟨s_iconst C0 dX11_goes_43 rfl, List.forall_mem_cons.mpr ⟨s_iast C0 dX11_goes_44, List.forall_mem_cons.mpr ⟨s_iinc C0 dX11_goes_45 rfl (by decide), List.forall_mem_cons.mpr ⟨s_goto C0 dX11_goes_48 rfl, List.forall_mem_cons.mpr ⟨s_iload_n C0 dX11_goes_51 rfl, List.forall_mem_cons.mpr ⟨s_i2l C0 dX11_goes_52, List.forall_mem_cons.mpr ⟨s_lstore_n C0 dX11_goes_53 rfl (by decide), List.forall_mem_cons.mpr ⟨s_iconst C0 dX11_goes_54 rfl, List.forall_mem_cons.mpr ⟨s_istore C0 dX11_goes_55 (by decide), List.forall_mem_cons.mpr ⟨s_iload C0 dX11_goes_57, List.forall_mem_cons.mpr ⟨s_aload_n C0 dX11_goes_59 rfl, List.forall_mem_cons.mpr ⟨s_get (ci := 11) (k := 7) C0 dX11_goes_60 inX11 rfl (by decide) tw6_18, List.forall_mem_cons.mpr ⟨s_iconst C0 dX11_goes_63 rfl, List.forall_mem_cons.mpr ⟨s_iald C0 dX11_goes_64, List.forall_mem_cons.mpr ⟨s_icmp_ge C0 dX11_goes_65 rfl, fun _ h => absurd h List.not_mem_nil⟩⟩⟩⟩⟩⟩⟩⟩⟩⟩⟩⟩⟩⟩⟩⟩⟩⟩⟩⟩⟩⟩⟩⟩⟩⟩⟩⟩⟩⟩⟩⟩⟩⟩⟩⟩⟩⟩⟩⟩
set_option maxRecDepth 10000 in
theorem hX11_goes_1 (l : Launch) {p : Program} {e : Env} {s : State} {m : MethodId} {args : Array Value} {below : List Frame} {meth : Method} {c : Code} {D : va_G} {ad adV : Nat → Nat} {cA : Nat → ClassId} {K : Kt} (C0 : Cx p s m args meth c D ad adV cA cX11_goes 7 RX11) (hr : meth.sig.returnType = none) : ∀ q ∈ lX11_goes_1, Sd p l e (rmd 2) s m args below meth c (MQ below (QQ D ad cA K) args s 0 0 (AA ad)) D ad cA 7 q.1 (opOf K q.2) := List.forall_mem_cons.mpr ⟨s_iconst C0 dX11_goes_68 rfl, List.forall_mem_cons.mpr ⟨s_istore C0 dX11_goes_69 (by decide), List.forall_mem_cons.mpr ⟨s_iload C0 dX11_goes_71, List.forall_mem_cons.mpr ⟨s_aload_n C0 dX11_goes_73 rfl, List.forall_mem_cons.mpr ⟨s_get (ci := 11) (k := 7) C0 dX11_goes_74 inX11 rfl (by decide) tw6_18, List.forall_mem_cons.mpr ⟨s_bipush C0 dX11_goes_77 (by decide +kernel), List.forall_mem_cons.mpr ⟨s_iload C0 dX11_goes_79, List.forall_mem_cons.mpr ⟨s_iadd C0 dX11_goes_81, List.forall_mem_cons.mpr ⟨s_iald C0 dX11_goes_82, List.forall_mem_cons.mpr ⟨s_icmp_ge C0 dX11_goes_83 rfl, List.forall_mem_cons.mpr ⟨s_aload_n C0 dX11_goes_86 rfl, List.forall_mem_cons.mpr ⟨s_iload C0 dX11_goes_87, List.forall_mem_cons.mpr ⟨s_iload C0 dX11_goes_89, List.forall_mem_cons.mpr ⟨s_callV (ci := 11) C0 (kX11_who l) dX11_goes_91 rfl qX11_who tw6_230 tw6_232 twp_61 tw1_12 tw6_233 rfl (by decide) (by decide), List.forall_mem_cons.mpr ⟨s_istore C0 dX11_goes_94 (by decide), List.forall_mem_cons.mpr ⟨s_aload_n C0 dX11_goes_96 rfl, List.forall_mem_cons.mpr ⟨s_get (ci := 11) (k := 7) C0 dX11_goes_97 inX11 rfl (by decide) tw6_18, List.forall_mem_cons.mpr ⟨s_bipush C0 dX11_goes_100 (by decide +kernel), List.forall_mem_cons.mpr ⟨s_iload C0 dX11_goes_102, List.forall_mem_cons.mpr ⟨s_iadd C0 dX11_goes_104, List.forall_mem_cons.mpr ⟨s_iald C0 dX11_goes_105, List.forall_mem_cons.mpr ⟨s_aload_n C0 dX11_goes_106 rfl, List.forall_mem_cons.mpr ⟨s_get (ci := 11) (k := 22) C0 dX11_goes_107 inX11 rfl (by decide) tw6_33, List.forall_mem_cons.mpr ⟨s_iload C0 dX11_goes_110, List.forall_mem_cons.mpr ⟨s_iald C0 dX11_goes_112, List.forall_mem_cons.mpr ⟨s_icmp_gt C0 dX11_goes_113 rfl, List.forall_mem_cons.mpr ⟨s_aload_n C0 dX11_goes_116 rfl, List.forall_mem_cons.mpr ⟨s_get (ci := 11) (k := 23) C0 dX11_goes_117 inX11 rfl (by decide) tw6_34, List.forall_mem_cons.mpr ⟨s_iconst C0 dX11_goes_120 rfl, List.forall_mem_cons.mpr ⟨s_dup2 C0 dX11_goes_121, List.forall_mem_cons.mpr ⟨s_iald C0 dX11_goes_122, List.forall_mem_cons.mpr ⟨s_iconst C0 dX11_goes_123 rfl, List.forall_mem_cons.mpr ⟨s_iadd C0 dX11_goes_124, List.forall_mem_cons.mpr ⟨s_iast C0 dX11_goes_125, List.forall_mem_cons.mpr ⟨s_goto C0 dX11_goes_126 rfl, List.forall_mem_cons.mpr ⟨s_aload_n C0 dX11_goes_129 rfl, List.forall_mem_cons.mpr ⟨s_get (ci := 11) (k := 23) C0 dX11_goes_130 inX11 rfl (by decide) tw6_34, List.forall_mem_cons.mpr ⟨s_iconst C0 dX11_goes_133 rfl, List.forall_mem_cons.mpr ⟨s_dup2 C0 dX11_goes_134, List.forall_mem_cons.mpr ⟨s_iald C0 dX11_goes_135, fun _ h => absurd h List.not_mem_nil⟩⟩⟩⟩⟩⟩⟩⟩⟩⟩⟩⟩⟩⟩⟩⟩⟩⟩⟩⟩⟩⟩⟩⟩⟩⟩⟩⟩⟩⟩⟩⟩⟩⟩⟩⟩⟩⟩⟩⟩
set_option maxRecDepth 10000 in
theorem hX11_goes_2 (l : Launch) {p : Program} {e : Env} {s : State} {m : MethodId} {args : Array Value} {below : List Frame} {meth : Method} {c : Code} {D : va_G} {ad adV : Nat → Nat} {cA : Nat → ClassId} {K : Kt} (C0 : Cx p s m args meth c D ad adV cA cX11_goes 7 RX11) (hr : meth.sig.returnType = none) : ∀ q ∈ lX11_goes_2, Sd p l e (rmd 2) s m args below meth c (MQ below (QQ D ad cA K) args s 0 0 (AA ad)) D ad cA 7 q.1 (opOf K q.2) := List.forall_mem_cons.mpr ⟨s_aload_n C0 dX11_goes_136 rfl, List.forall_mem_cons.mpr ⟨s_iload C0 dX11_goes_137, List.forall_mem_cons.mpr ⟨s_iload C0 dX11_goes_139, List.forall_mem_cons.mpr ⟨s_aload_n C0 dX11_goes_141 rfl, List.forall_mem_cons.mpr ⟨s_iload C0 dX11_goes_142, List.forall_mem_cons.mpr ⟨s_iload C0 dX11_goes_144, List.forall_mem_cons.mpr ⟨s_callV (ci := 11) C0 (kX11_throwsAt l) dX11_goes_146 rfl qX11_throwsAt tw6_222 tw6_224 twp_59 tw1_12 tw6_225 rfl (by decide) (by decide), List.forall_mem_cons.mpr ⟨s_callV (ci := 11) C0 (kX11_worthOf l) dX11_goes_149 rfl qX11_worthOf tw6_234 tw6_236 twp_62 tw1_12 tw6_237 rfl (by decide) (by decide), List.forall_mem_cons.mpr ⟨s_iadd C0 dX11_goes_152, List.forall_mem_cons.mpr ⟨s_iast C0 dX11_goes_153, List.forall_mem_cons.mpr ⟨s_lload_n C0 dX11_goes_154 rfl, List.forall_mem_cons.mpr ⟨s_ldc2 C0 dX11_goes_155 tw7_199, List.forall_mem_cons.mpr ⟨s_lmul C0 dX11_goes_158, List.forall_mem_cons.mpr ⟨s_ldc2 C0 dX11_goes_159 tw7_200, List.forall_mem_cons.mpr ⟨s_lrem C0 dX11_goes_162, List.forall_mem_cons.mpr ⟨s_lstore_n C0 dX11_goes_163 rfl (by decide), List.forall_mem_cons.mpr ⟨s_lload_n C0 dX11_goes_164 rfl, List.forall_mem_cons.mpr ⟨s_ldc2 C0 dX11_goes_165 tw7_182, List.forall_mem_cons.mpr ⟨s_lrem C0 dX11_goes_168, List.forall_mem_cons.mpr ⟨s_aload_n C0 dX11_goes_169 rfl, List.forall_mem_cons.mpr ⟨s_iload C0 dX11_goes_170, List.forall_mem_cons.mpr ⟨s_aload_n C0 dX11_goes_172 rfl, List.forall_mem_cons.mpr ⟨s_iload C0 dX11_goes_173, List.forall_mem_cons.mpr ⟨s_iload C0 dX11_goes_175, List.forall_mem_cons.mpr ⟨s_callV (ci := 11) C0 (kX11_throwsAt l) dX11_goes_177 rfl qX11_throwsAt tw6_222 tw6_224 twp_59 tw1_12 tw6_225 rfl (by decide) (by decide), List.forall_mem_cons.mpr ⟨s_callV (ci := 11) C0 (kX11_riskOf l) dX11_goes_180 rfl qX11_riskOf tw7_6 tw7_8 twp_65 tw1_12 tw7_9 rfl (by decide) (by decide), List.forall_mem_cons.mpr ⟨s_i2l C0 dX11_goes_183, List.forall_mem_cons.mpr ⟨s_lcmp C0 dX11_goes_184, List.forall_mem_cons.mpr ⟨s_if_ge C0 dX11_goes_185 rfl, List.forall_mem_cons.mpr ⟨s_aload_n C0 dX11_goes_188 rfl, List.forall_mem_cons.mpr ⟨s_get (ci := 11) (k := 23) C0 dX11_goes_189 inX11 rfl (by decide) tw6_34, List.forall_mem_cons.mpr ⟨s_iconst C0 dX11_goes_192 rfl, List.forall_mem_cons.mpr ⟨s_dup2 C0 dX11_goes_193, List.forall_mem_cons.mpr ⟨s_iald C0 dX11_goes_194, List.forall_mem_cons.mpr ⟨s_iconst C0 dX11_goes_195 rfl, List.forall_mem_cons.mpr ⟨s_iadd C0 dX11_goes_196, List.forall_mem_cons.mpr ⟨s_iast C0 dX11_goes_197, List.forall_mem_cons.mpr ⟨s_aload_n C0 dX11_goes_198 rfl, List.forall_mem_cons.mpr ⟨s_get (ci := 11) (k := 23) C0 dX11_goes_199 inX11 rfl (by decide) tw6_34, List.forall_mem_cons.mpr ⟨s_iconst C0 dX11_goes_202 rfl, fun _ h => absurd h List.not_mem_nil⟩⟩⟩⟩⟩⟩⟩⟩⟩⟩⟩⟩⟩⟩⟩⟩⟩⟩⟩⟩⟩⟩⟩⟩⟩⟩⟩⟩⟩⟩⟩⟩⟩⟩⟩⟩⟩⟩⟩⟩
set_option maxRecDepth 10000 in
theorem hX11_goes_3 (l : Launch) {p : Program} {e : Env} {s : State} {m : MethodId} {args : Array Value} {below : List Frame} {meth : Method} {c : Code} {D : va_G} {ad adV : Nat → Nat} {cA : Nat → ClassId} {K : Kt} (C0 : Cx p s m args meth c D ad adV cA cX11_goes 7 RX11) (hr : meth.sig.returnType = none) : ∀ q ∈ lX11_goes_3, Sd p l e (rmd 2) s m args below meth c (MQ below (QQ D ad cA K) args s 0 0 (AA ad)) D ad cA 7 q.1 (opOf K q.2) := List.forall_mem_cons.mpr ⟨s_dup2 C0 dX11_goes_203, List.forall_mem_cons.mpr ⟨s_iald C0 dX11_goes_204, List.forall_mem_cons.mpr ⟨s_iconst C0 dX11_goes_205 rfl, List.forall_mem_cons.mpr ⟨s_iload C0 dX11_goes_206, List.forall_mem_cons.mpr ⟨s_ishl C0 dX11_goes_208, List.forall_mem_cons.mpr ⟨s_ior C0 dX11_goes_209, List.forall_mem_cons.mpr ⟨s_iast C0 dX11_goes_210, List.forall_mem_cons.mpr ⟨s_aload_n C0 dX11_goes_211 rfl, List.forall_mem_cons.mpr ⟨s_get (ci := 11) (k := 23) C0 dX11_goes_212 inX11 rfl (by decide) tw6_34, List.forall_mem_cons.mpr ⟨s_iconst C0 dX11_goes_215 rfl, List.forall_mem_cons.mpr ⟨s_aload_n C0 dX11_goes_216 rfl, List.forall_mem_cons.mpr ⟨s_get (ci := 11) (k := 23) C0 dX11_goes_217 inX11 rfl (by decide) tw6_34, List.forall_mem_cons.mpr ⟨s_iconst C0 dX11_goes_220 rfl, List.forall_mem_cons.mpr ⟨s_iald C0 dX11_goes_221, List.forall_mem_cons.mpr ⟨s_bipush C0 dX11_goes_222 (by decide +kernel), List.forall_mem_cons.mpr ⟨s_icmp_ne C0 dX11_goes_224 rfl, List.forall_mem_cons.mpr ⟨s_iload C0 dX11_goes_227, List.forall_mem_cons.mpr ⟨s_goto C0 dX11_goes_229 rfl, List.forall_mem_cons.mpr ⟨s_aload_n C0 dX11_goes_232 rfl, List.forall_mem_cons.mpr ⟨s_get (ci := 11) (k := 23) C0 dX11_goes_233 inX11 rfl (by decide) tw6_34, List.forall_mem_cons.mpr ⟨s_iconst C0 dX11_goes_236 rfl, List.forall_mem_cons.mpr ⟨s_iald C0 dX11_goes_237, List.forall_mem_cons.mpr ⟨s_iast C0 dX11_goes_238, List.forall_mem_cons.mpr ⟨s_aload_n C0 dX11_goes_239 rfl, List.forall_mem_cons.mpr ⟨s_get (ci := 11) (k := 22) C0 dX11_goes_240 inX11 rfl (by decide) tw6_33, List.forall_mem_cons.mpr ⟨s_iload C0 dX11_goes_243, List.forall_mem_cons.mpr ⟨s_aload_n C0 dX11_goes_245 rfl, List.forall_mem_cons.mpr ⟨s_get (ci := 11) (k := 7) C0 dX11_goes_246 inX11 rfl (by decide) tw6_18, List.forall_mem_cons.mpr ⟨s_bipush C0 dX11_goes_249 (by decide +kernel), List.forall_mem_cons.mpr ⟨s_iload C0 dX11_goes_251, List.forall_mem_cons.mpr ⟨s_iadd C0 dX11_goes_253, List.forall_mem_cons.mpr ⟨s_iald C0 dX11_goes_254, List.forall_mem_cons.mpr ⟨s_aload_n C0 dX11_goes_255 rfl, List.forall_mem_cons.mpr ⟨s_get (ci := 11) (k := 7) C0 dX11_goes_256 inX11 rfl (by decide) tw6_18, List.forall_mem_cons.mpr ⟨s_iconst C0 dX11_goes_259 rfl, List.forall_mem_cons.mpr ⟨s_iald C0 dX11_goes_260, List.forall_mem_cons.mpr ⟨s_iadd C0 dX11_goes_261, List.forall_mem_cons.mpr ⟨s_iast C0 dX11_goes_262, List.forall_mem_cons.mpr ⟨s_iinc C0 dX11_goes_263 rfl (by decide), List.forall_mem_cons.mpr ⟨s_goto C0 dX11_goes_266 rfl, fun _ h => absurd h List.not_mem_nil⟩⟩⟩⟩⟩⟩⟩⟩⟩⟩⟩⟩⟩⟩⟩⟩⟩⟩⟩⟩⟩⟩⟩⟩⟩⟩⟩⟩⟩⟩⟩⟩⟩⟩⟩⟩⟩⟩⟩⟩
set_option maxRecDepth 10000 in
theorem hX11_goes_4 (l : Launch) {p : Program} {e : Env} {s : State} {m : MethodId} {args : Array Value} {below : List Frame} {meth : Method} {c : Code} {D : va_G} {ad adV : Nat → Nat} {cA : Nat → ClassId} {K : Kt} (C0 : Cx p s m args meth c D ad adV cA cX11_goes 7 RX11) (hr : meth.sig.returnType = none) : ∀ q ∈ lX11_goes_4, Sd p l e (rmd 2) s m args below meth c (MQ below (QQ D ad cA K) args s 0 0 (AA ad)) D ad cA 7 q.1 (opOf K q.2) := List.forall_mem_cons.mpr ⟨s_iinc C0 dX11_goes_269 rfl (by decide), List.forall_mem_cons.mpr ⟨s_goto C0 dX11_goes_272 rfl, List.forall_mem_cons.mpr ⟨s_vret C0 hr dX11_goes_275, fun _ h => absurd h List.not_mem_nil⟩⟩⟩
def fX11_goes : Mf := mf 7 (fun K => tl K lX11_goes)
theorem kX11_goes (l : Launch) : Okm l yX11_goes cX11_goes 7 none 2 fX11_goes := Okm_tl (own := RX11) (by decide +kernel) rfl (fun C0 hr => List.forall_mem_append.mpr ⟨hX11_goes_0 l C0 hr, List.forall_mem_append.mpr ⟨hX11_goes_1 l C0 hr, List.forall_mem_append.mpr ⟨hX11_goes_2 l C0 hr, List.forall_mem_append.mpr ⟨hX11_goes_3 l C0 hr, hX11_goes_4 l C0 hr⟩⟩⟩⟩)
theorem dX11_season_0 : decode cX11_season 0 = .ok (.aload_n 0, 1) := by decide +kernel
theorem dX11_season_1 : decode cX11_season 1 = .ok (.aload_n 0, 1) := by decide +kernel
theorem dX11_season_2 : decode cX11_season 2 = .ok (.getfield 171, 3) := by decide +kernel
theorem dX11_season_5 : decode cX11_season 5 = .ok (.ifCond .eq 16, 3) := by decide +kernel
theorem dX11_season_8 : decode cX11_season 8 = .ok (.iload_n 2, 1) := by decide +kernel
theorem dX11_season_9 : decode cX11_season 9 = .ok (.iconst 0, 1) := by decide +kernel
theorem dX11_season_10 : decode cX11_season 10 = .ok (.iconst 4, 1) := by decide +kernel
theorem dX11_season_11 : decode cX11_season 11 = .ok (.invokestatic 76, 3) := by decide +kernel
theorem dX11_season_14 : decode cX11_season 14 = .ok (.ifCond .eq 7, 3) := by decide +kernel
theorem dX11_season_17 : decode cX11_season 17 = .ok (.iconst 1, 1) := by decide +kernel
theorem dX11_season_18 : decode cX11_season 18 = .ok (.goto 4, 3) := by decide +kernel
theorem dX11_season_21 : decode cX11_season 21 = .ok (.iconst 0, 1) := by decide +kernel
theorem dX11_season_22 : decode cX11_season 22 = .ok (.iload_n 1, 1) := by decide +kernel
theorem dX11_season_23 : decode cX11_season 23 = .ok (.iconst 1, 1) := by decide +kernel
theorem dX11_season_24 : decode cX11_season 24 = .ok (.ldc_w 291, 3) := by decide +kernel
theorem dX11_season_27 : decode cX11_season 27 = .ok (.invokestatic 76, 3) := by decide +kernel
theorem dX11_season_30 : decode cX11_season 30 = .ok (.invokestatic 155, 3) := by decide +kernel
theorem dX11_season_33 : decode cX11_season 33 = .ok (.invokevirtual 159, 3) := by decide +kernel
theorem dX11_season_36 : decode cX11_season 36 = .ok (.ifCond .eq 5, 3) := by decide +kernel
theorem dX11_season_39 : decode cX11_season 39 = .ok (.iconst (-1), 1) := by decide +kernel
theorem dX11_season_40 : decode cX11_season 40 = .ok (.ireturn, 1) := by decide +kernel
theorem dX11_season_41 : decode cX11_season 41 = .ok (.aload_n 0, 1) := by decide +kernel
theorem dX11_season_42 : decode cX11_season 42 = .ok (.iload_n 1, 1) := by decide +kernel
theorem dX11_season_43 : decode cX11_season 43 = .ok (.invokevirtual 292, 3) := by decide +kernel
theorem dX11_season_46 : decode cX11_season 46 = .ok (.aload_n 0, 1) := by decide +kernel
theorem dX11_season_47 : decode cX11_season 47 = .ok (.getfield 41, 3) := by decide +kernel
theorem dX11_season_50 : decode cX11_season 50 = .ok (.iload_n 2, 1) := by decide +kernel
theorem dX11_season_51 : decode cX11_season 51 = .ok (.iaload, 1) := by decide +kernel
theorem dX11_season_52 : decode cX11_season 52 = .ok (.ireturn, 1) := by decide +kernel
def lX11_season : List (Nat × (Op ⊕ Nat)) := [(0, .inl (o_aload 0 1)), (1, .inl (o_aload 0 2)), (2, .inl (o_get 11 6 5)), (5, .inl (o_if_eq 21 8)), (8, .inl (o_iload 2 9)), (9, .inl (o_pushI (nI 0) 10)), (10, .inl (o_pushI (nI 4) 11)), (11, .inl (o_callS fX11_in 3 14)), (14, .inl (o_if_eq 21 17)), (17, .inl (o_pushI (nI 1) 18)), (18, .inl (o_goto 22)), (21, .inl (o_pushI (nI 0) 22)), (22, .inl (o_iload 1 23)), (23, .inl (o_pushI (nI 1) 24)), (24, .inl (o_pushI (nI 2147483646) 27)), (27, .inl (o_callS fX11_in 3 30)), (30, .inl (o_callS fX11_unless_ 2 33)), (33, .inl (o_callV fX11_isRefused 1 11 36)), (36, .inl (o_if_eq 41 39)), (39, .inl (o_pushI ((-1)) 40)), (40, .inr 0), (41, .inl (o_aload 0 42)), (42, .inl (o_iload 1 43)), (43, .inl (o_callV fX11_goes 1 11 46)), (46, .inl (o_aload 0 47)), (47, .inl (o_get 11 23 50)), (50, .inl (o_iload 2 51)), (51, .inl (o_iald 52)), (52, .inr 0)]
theorem qX11_season : yX11_season.cls = RX11 ∧ yX11_season.cls ≠ "java/lang/invoke/MethodHandle" ∧ yX11_season.cls ≠ "java/lang/invoke/VarHandle" ∧ (parseMethodDescriptor yX11_season.desc).map (fun d => d.parameters.length) = some 2 := by decide +kernel
set_option maxRecDepth 10000 in
theorem hX11_season_0 (l : Launch) {p : Program} {e : Env} {s : State} {m : MethodId} {args : Array Value} {below : List Frame} {meth : Method} {c : Code} {D : va_G} {ad adV : Nat → Nat} {cA : Nat → ClassId} {K : Kt} (C0 : Cx p s m args meth c D ad adV cA cX11_season 3 RX11) (hr : meth.sig.returnType = (some .int)) : ∀ q ∈ lX11_season, Sd p l e (rmd 3) s m args below meth c (MQ below (QQ D ad cA K) args s 0 0 (AA ad)) D ad cA 3 q.1 (opOf K q.2) := List.forall_mem_cons.mpr ⟨s_aload_n C0 dX11_season_0 rfl, List.forall_mem_cons.mpr ⟨s_aload_n C0 dX11_season_1 rfl, List.forall_mem_cons.mpr ⟨s_get (ci := 11) (k := 6) C0 dX11_season_2 inX11 rfl (by decide) tw6_17, List.forall_mem_cons.mpr ⟨s_if_eq C0 dX11_season_5 rfl, List.forall_mem_cons.mpr ⟨s_iload_n C0 dX11_season_8 rfl, List.forall_mem_cons.mpr ⟨s_iconst C0 dX11_season_9 rfl, List.forall_mem_cons.mpr ⟨s_iconst C0 dX11_season_10 rfl, List.forall_mem_cons.mpr ⟨s_callS C0 (kX11_in l) dX11_season_11 qX11_in tw6_112 tw6_113 tw1_12 tw6_114 rfl (by decide) (by decide), List.forall_mem_cons.mpr ⟨s_if_eq C0 dX11_season_14 rfl, List.forall_mem_cons.mpr ⟨s_iconst C0 dX11_season_17 rfl, List.forall_mem_cons.mpr ⟨s_goto C0 dX11_season_18 rfl, List.forall_mem_cons.mpr ⟨s_iconst C0 dX11_season_21 rfl, List.forall_mem_cons.mpr ⟨s_iload_n C0 dX11_season_22 rfl, List.forall_mem_cons.mpr ⟨s_iconst C0 dX11_season_23 rfl, List.forall_mem_cons.mpr ⟨s_ldcw C0 dX11_season_24 tw7_194, List.forall_mem_cons.mpr ⟨s_callS C0 (kX11_in l) dX11_season_27 qX11_in tw6_112 tw6_113 tw1_12 tw6_114 rfl (by decide) (by decide), List.forall_mem_cons.mpr ⟨s_callS C0 (kX11_unless_ l) dX11_season_30 qX11_unless_ tw6_115 tw6_116 tw1_12 tw6_117 rfl (by decide) (by decide), List.forall_mem_cons.mpr ⟨s_callV (ci := 11) C0 (kX11_isRefused l) dX11_season_33 rfl qX11_isRefused tw6_118 tw6_120 twp_41 tw1_12 tw6_121 rfl (by decide) (by decide), List.forall_mem_cons.mpr ⟨s_if_eq C0 dX11_season_36 rfl, List.forall_mem_cons.mpr ⟨s_iconst C0 dX11_season_39 rfl, List.forall_mem_cons.mpr ⟨s_iret C0 hr dX11_season_40, List.forall_mem_cons.mpr ⟨s_aload_n C0 dX11_season_41 rfl, List.forall_mem_cons.mpr ⟨s_iload_n C0 dX11_season_42 rfl, List.forall_mem_cons.mpr ⟨s_callV (ci := 11) C0 (kX11_goes l) dX11_season_43 rfl qX11_goes tw7_195 tw7_197 twp_85 tw1_12 tw7_198 rfl (by decide) (by decide), List.forall_mem_cons.mpr ⟨s_aload_n C0 dX11_season_46 rfl, List.forall_mem_cons.mpr ⟨s_get (ci := 11) (k := 23) C0 dX11_season_47 inX11 rfl (by decide) tw6_34, List.forall_mem_cons.mpr ⟨s_iload_n C0 dX11_season_50 rfl, List.forall_mem_cons.mpr ⟨s_iald C0 dX11_season_51, List.forall_mem_cons.mpr ⟨s_iret C0 hr dX11_season_52, fun _ h => absurd h List.not_mem_nil⟩⟩⟩⟩⟩⟩⟩⟩⟩⟩⟩⟩⟩⟩⟩⟩⟩⟩⟩⟩⟩⟩⟩⟩⟩⟩⟩⟩⟩
def fX11_season : Mf := mf 3 (fun K => tl K lX11_season)
theorem kX11_season (l : Launch) : Okm l yX11_season cX11_season 3 (some .int) 3 fX11_season := Okm_tl (own := RX11) (by decide +kernel) rfl (fun C0 hr => hX11_season_0 l C0 hr)
theorem dX11_span_0 : decode cX11_span 0 = .ok (.iload_n 2, 1) := by decide +kernel
theorem dX11_span_1 : decode cX11_span 1 = .ok (.iconst 1, 1) := by decide +kernel
theorem dX11_span_2 : decode cX11_span 2 = .ok (.bipush 100, 2) := by decide +kernel
theorem dX11_span_4 : decode cX11_span 4 = .ok (.invokestatic 76, 3) := by decide +kernel
theorem dX11_span_7 : decode cX11_span 7 = .ok (.ifCond .eq 29, 3) := by decide +kernel
theorem dX11_span_10 : decode cX11_span 10 = .ok (.iload_n 1, 1) := by decide +kernel
theorem dX11_span_11 : decode cX11_span 11 = .ok (.iconst 1, 1) := by decide +kernel
theorem dX11_span_12 : decode cX11_span 12 = .ok (.ldc_w 291, 3) := by decide +kernel
theorem dX11_span_15 : decode cX11_span 15 = .ok (.invokestatic 76, 3) := by decide +kernel
theorem dX11_span_18 : decode cX11_span 18 = .ok (.ifCond .eq 18, 3) := by decide +kernel
theorem dX11_span_21 : decode cX11_span 21 = .ok (.iload_n 2, 1) := by decide +kernel
theorem dX11_span_22 : decode cX11_span 22 = .ok (.iconst 1, 1) := by decide +kernel
theorem dX11_span_23 : decode cX11_span 23 = .ok (.isub, 1) := by decide +kernel
theorem dX11_span_24 : decode cX11_span 24 = .ok (.ldc_w 291, 3) := by decide +kernel
theorem dX11_span_27 : decode cX11_span 27 = .ok (.iload_n 1, 1) := by decide +kernel
theorem dX11_span_28 : decode cX11_span 28 = .ok (.isub, 1) := by decide +kernel
theorem dX11_span_29 : decode cX11_span 29 = .ok (.if_icmp .gt 7, 3) := by decide +kernel
theorem dX11_span_32 : decode cX11_span 32 = .ok (.iconst 1, 1) := by decide +kernel
theorem dX11_span_33 : decode cX11_span 33 = .ok (.goto 4, 3) := by decide +kernel
theorem dX11_span_36 : decode cX11_span 36 = .ok (.iconst 0, 1) := by decide +kernel
theorem dX11_span_37 : decode cX11_span 37 = .ok (.istore 4, 2) := by decide +kernel
theorem dX11_span_39 : decode cX11_span 39 = .ok (.aload_n 0, 1) := by decide +kernel
theorem dX11_span_40 : decode cX11_span 40 = .ok (.aload_n 0, 1) := by decide +kernel
theorem dX11_span_41 : decode cX11_span 41 = .ok (.getfield 171, 3) := by decide +kernel
theorem dX11_span_44 : decode cX11_span 44 = .ok (.ifCond .eq 16, 3) := by decide +kernel
theorem dX11_span_47 : decode cX11_span 47 = .ok (.iload_n 3, 1) := by decide +kernel
theorem dX11_span_48 : decode cX11_span 48 = .ok (.iconst 0, 1) := by decide +kernel
theorem dX11_span_49 : decode cX11_span 49 = .ok (.iconst 2, 1) := by decide +kernel
theorem dX11_span_50 : decode cX11_span 50 = .ok (.invokestatic 76, 3) := by decide +kernel
theorem dX11_span_53 : decode cX11_span 53 = .ok (.ifCond .eq 7, 3) := by decide +kernel
theorem dX11_span_56 : decode cX11_span 56 = .ok (.iconst 1, 1) := by decide +kernel
theorem dX11_span_57 : decode cX11_span 57 = .ok (.goto 4, 3) := by decide +kernel
theorem dX11_span_60 : decode cX11_span 60 = .ok (.iconst 0, 1) := by decide +kernel
theorem dX11_span_61 : decode cX11_span 61 = .ok (.iload 4, 2) := by decide +kernel
theorem dX11_span_63 : decode cX11_span 63 = .ok (.invokestatic 155, 3) := by decide +kernel
theorem dX11_span_66 : decode cX11_span 66 = .ok (.invokevirtual 159, 3) := by decide +kernel
theorem dX11_span_69 : decode cX11_span 69 = .ok (.ifCond .eq 5, 3) := by decide +kernel
theorem dX11_span_72 : decode cX11_span 72 = .ok (.iconst (-1), 1) := by decide +kernel
theorem dX11_span_73 : decode cX11_span 73 = .ok (.ireturn, 1) := by decide +kernel
theorem dX11_span_74 : decode cX11_span 74 = .ok (.iconst 0, 1) := by decide +kernel
theorem dX11_span_75 : decode cX11_span 75 = .ok (.istore 5, 2) := by decide +kernel
theorem dX11_span_77 : decode cX11_span 77 = .ok (.iconst 0, 1) := by decide +kernel
theorem dX11_span_78 : decode cX11_span 78 = .ok (.istore 6, 2) := by decide +kernel
theorem dX11_span_80 : decode cX11_span 80 = .ok (.iconst 0, 1) := by decide +kernel
theorem dX11_span_81 : decode cX11_span 81 = .ok (.istore 7, 2) := by decide +kernel
theorem dX11_span_83 : decode cX11_span 83 = .ok (.iconst 0, 1) := by decide +kernel
theorem dX11_span_84 : decode cX11_span 84 = .ok (.istore 8, 2) := by decide +kernel
theorem dX11_span_86 : decode cX11_span 86 = .ok (.iload 8, 2) := by decide +kernel
theorem dX11_span_88 : decode cX11_span 88 = .ok (.iload_n 2, 1) := by decide +kernel
theorem dX11_span_89 : decode cX11_span 89 = .ok (.if_icmp .ge 89, 3) := by decide +kernel
theorem dX11_span_92 : decode cX11_span 92 = .ok (.aload_n 0, 1) := by decide +kernel
theorem dX11_span_93 : decode cX11_span 93 = .ok (.iload_n 1, 1) := by decide +kernel
theorem dX11_span_94 : decode cX11_span 94 = .ok (.iload 8, 2) := by decide +kernel
theorem dX11_span_96 : decode cX11_span 96 = .ok (.iadd, 1) := by decide +kernel
theorem dX11_span_97 : decode cX11_span 97 = .ok (.invokevirtual 292, 3) := by decide +kernel
theorem dX11_span_100 : decode cX11_span 100 = .ok (.iload 5, 2) := by decide +kernel
theorem dX11_span_102 : decode cX11_span 102 = .ok (.aload_n 0, 1) := by decide +kernel
theorem dX11_span_103 : decode cX11_span 103 = .ok (.getfield 41, 3) := by decide +kernel
theorem dX11_span_106 : decode cX11_span 106 = .ok (.iconst 0, 1) := by decide +kernel
theorem dX11_span_107 : decode cX11_span 107 = .ok (.iaload, 1) := by decide +kernel
theorem dX11_span_108 : decode cX11_span 108 = .ok (.ifCond .ne 7, 3) := by decide +kernel
theorem dX11_span_111 : decode cX11_span 111 = .ok (.iconst 1, 1) := by decide +kernel
theorem dX11_span_112 : decode cX11_span 112 = .ok (.goto 4, 3) := by decide +kernel
theorem dX11_span_115 : decode cX11_span 115 = .ok (.iconst 0, 1) := by decide +kernel
theorem dX11_span_116 : decode cX11_span 116 = .ok (.iadd, 1) := by decide +kernel
theorem dX11_span_117 : decode cX11_span 117 = .ok (.istore 5, 2) := by decide +kernel
theorem dX11_span_119 : decode cX11_span 119 = .ok (.iload 8, 2) := by decide +kernel
theorem dX11_span_121 : decode cX11_span 121 = .ok (.ifCond .eq 14, 3) := by decide +kernel
theorem dX11_span_124 : decode cX11_span 124 = .ok (.aload_n 0, 1) := by decide +kernel
theorem dX11_span_125 : decode cX11_span 125 = .ok (.getfield 41, 3) := by decide +kernel
theorem dX11_span_128 : decode cX11_span 128 = .ok (.iconst 3, 1) := by decide +kernel
theorem dX11_span_129 : decode cX11_span 129 = .ok (.iaload, 1) := by decide +kernel
theorem dX11_span_130 : decode cX11_span 130 = .ok (.iload 6, 2) := by decide +kernel
theorem dX11_span_132 : decode cX11_span 132 = .ok (.if_icmp .ge 12, 3) := by decide +kernel
theorem dX11_span_135 : decode cX11_span 135 = .ok (.aload_n 0, 1) := by decide +kernel
theorem dX11_span_136 : decode cX11_span 136 = .ok (.getfield 41, 3) := by decide +kernel
theorem dX11_span_139 : decode cX11_span 139 = .ok (.iconst 3, 1) := by decide +kernel
theorem dX11_span_140 : decode cX11_span 140 = .ok (.iaload, 1) := by decide +kernel
theorem dX11_span_141 : decode cX11_span 141 = .ok (.goto 5, 3) := by decide +kernel
theorem dX11_span_144 : decode cX11_span 144 = .ok (.iload 6, 2) := by decide +kernel
theorem dX11_span_146 : decode cX11_span 146 = .ok (.istore 6, 2) := by decide +kernel
theorem dX11_span_148 : decode cX11_span 148 = .ok (.aload_n 0, 1) := by decide +kernel
theorem dX11_span_149 : decode cX11_span 149 = .ok (.getfield 41, 3) := by decide +kernel
theorem dX11_span_152 : decode cX11_span 152 = .ok (.iconst 3, 1) := by decide +kernel
theorem dX11_span_153 : decode cX11_span 153 = .ok (.iaload, 1) := by decide +kernel
theorem dX11_span_154 : decode cX11_span 154 = .ok (.iload 7, 2) := by decide +kernel
theorem dX11_span_156 : decode cX11_span 156 = .ok (.if_icmp .le 12, 3) := by decide +kernel
theorem dX11_span_159 : decode cX11_span 159 = .ok (.aload_n 0, 1) := by decide +kernel
theorem dX11_span_160 : decode cX11_span 160 = .ok (.getfield 41, 3) := by decide +kernel
theorem dX11_span_163 : decode cX11_span 163 = .ok (.iconst 3, 1) := by decide +kernel
theorem dX11_span_164 : decode cX11_span 164 = .ok (.iaload, 1) := by decide +kernel
theorem dX11_span_165 : decode cX11_span 165 = .ok (.goto 5, 3) := by decide +kernel
theorem dX11_span_168 : decode cX11_span 168 = .ok (.iload 7, 2) := by decide +kernel
theorem dX11_span_170 : decode cX11_span 170 = .ok (.istore 7, 2) := by decide +kernel
theorem dX11_span_172 : decode cX11_span 172 = .ok (.iinc 8 1, 3) := by decide +kernel
theorem dX11_span_175 : decode cX11_span 175 = .ok (.goto (-89), 3) := by decide +kernel
theorem dX11_span_178 : decode cX11_span 178 = .ok (.iload_n 3, 1) := by decide +kernel
theorem dX11_span_179 : decode cX11_span 179 = .ok (.ifCond .ne 8, 3) := by decide +kernel
theorem dX11_span_182 : decode cX11_span 182 = .ok (.iload 5, 2) := by decide +kernel
theorem dX11_span_184 : decode cX11_span 184 = .ok (.goto 15, 3) := by decide +kernel
theorem dX11_span_187 : decode cX11_span 187 = .ok (.iload_n 3, 1) := by decide +kernel
theorem dX11_span_188 : decode cX11_span 188 = .ok (.iconst 1, 1) := by decide +kernel
theorem dX11_span_189 : decode cX11_span 189 = .ok (.if_icmp .ne 8, 3) := by decide +kernel
theorem dX11_span_192 : decode cX11_span 192 = .ok (.iload 6, 2) := by decide +kernel
theorem dX11_span_194 : decode cX11_span 194 = .ok (.goto 5, 3) := by decide +kernel
theorem dX11_span_197 : decode cX11_span 197 = .ok (.iload 7, 2) := by decide +kernel
theorem dX11_span_199 : decode cX11_span 199 = .ok (.ireturn, 1) := by decide +kernel
def lX11_span_0 : List (Nat × (Op ⊕ Nat)) := [(0, .inl (o_iload 2 1)), (1, .inl (o_pushI (nI 1) 2)), (2, .inl (o_pushI (nI 100) 4)), (4, .inl (o_callS fX11_in 3 7)), (7, .inl (o_if_eq 36 10)), (10, .inl (o_iload 1 11)), (11, .inl (o_pushI (nI 1) 12)), (12, .inl (o_pushI (nI 2147483646) 15)), (15, .inl (o_callS fX11_in 3 18)), (18, .inl (o_if_eq 36 21)), (21, .inl (o_iload 2 22)), (22, .inl (o_pushI (nI 1) 23)), (23, .inl (o_isub 24)), (24, .inl (o_pushI (nI 2147483646) 27)), (27, .inl (o_iload 1 28)), (28, .inl (o_isub 29)), (29, .inl (o_icmp_gt 36 32)), (32, .inl (o_pushI (nI 1) 33)), (33, .inl (o_goto 37)), (36, .inl (o_pushI (nI 0) 37)), (37, .inl (o_istore 4 39)), (39, .inl (o_aload 0 40)), (40, .inl (o_aload 0 41)), (41, .inl (o_get 11 6 44)), (44, .inl (o_if_eq 60 47)), (47, .inl (o_iload 3 48)), (48, .inl (o_pushI (nI 0) 49)), (49, .inl (o_pushI (nI 2) 50)), (50, .inl (o_callS fX11_in 3 53)), (53, .inl (o_if_eq 60 56)), (56, .inl (o_pushI (nI 1) 57)), (57, .inl (o_goto 61)), (60, .inl (o_pushI (nI 0) 61)), (61, .inl (o_iload 4 63)), (63, .inl (o_callS fX11_unless_ 2 66)), (66, .inl (o_callV fX11_isRefused 1 11 69)), (69, .inl (o_if_eq 74 72)), (72, .inl (o_pushI ((-1)) 73)), (73, .inr 0), (74, .inl (o_pushI (nI 0) 75))]
def lX11_span_1 : List (Nat × (Op ⊕ Nat)) := [(75, .inl (o_istore 5 77)), (77, .inl (o_pushI (nI 0) 78)), (78, .inl (o_istore 6 80)), (80, .inl (o_pushI (nI 0) 81)), (81, .inl (o_istore 7 83)), (83, .inl (o_pushI (nI 0) 84)), (84, .inl (o_istore 8 86)), (86, .inl (o_iload 8 88)), (88, .inl (o_iload 2 89)), (89, .inl (o_icmp_ge 178 92)), (92, .inl (o_aload 0 93)), (93, .inl (o_iload 1 94)), (94, .inl (o_iload 8 96)), (96, .inl (o_iadd 97)), (97, .inl (o_callV fX11_goes 1 11 100)), (100, .inl (o_iload 5 102)), (102, .inl (o_aload 0 103)), (103, .inl (o_get 11 23 106)), (106, .inl (o_pushI (nI 0) 107)), (107, .inl (o_iald 108)), (108, .inl (o_if_ne 115 111)), (111, .inl (o_pushI (nI 1) 112)), (112, .inl (o_goto 116)), (115, .inl (o_pushI (nI 0) 116)), (116, .inl (o_iadd 117)), (117, .inl (o_istore 5 119)), (119, .inl (o_iload 8 121)), (121, .inl (o_if_eq 135 124)), (124, .inl (o_aload 0 125)), (125, .inl (o_get 11 23 128)), (128, .inl (o_pushI (nI 3) 129)), (129, .inl (o_iald 130)), (130, .inl (o_iload 6 132)), (132, .inl (o_icmp_ge 144 135)), (135, .inl (o_aload 0 136)), (136, .inl (o_get 11 23 139)), (139, .inl (o_pushI (nI 3) 140)), (140, .inl (o_iald 141)), (141, .inl (o_goto 146)), (144, .inl (o_iload 6 146))]
def lX11_span_2 : List (Nat × (Op ⊕ Nat)) := [(146, .inl (o_istore 6 148)), (148, .inl (o_aload 0 149)), (149, .inl (o_get 11 23 152)), (152, .inl (o_pushI (nI 3) 153)), (153, .inl (o_iald 154)), (154, .inl (o_iload 7 156)), (156, .inl (o_icmp_le 168 159)), (159, .inl (o_aload 0 160)), (160, .inl (o_get 11 23 163)), (163, .inl (o_pushI (nI 3) 164)), (164, .inl (o_iald 165)), (165, .inl (o_goto 170)), (168, .inl (o_iload 7 170)), (170, .inl (o_istore 7 172)), (172, .inl (o_iinc 8 (nI 1) 175)), (175, .inl (o_goto 86)), (178, .inl (o_iload 3 179)), (179, .inl (o_if_ne 187 182)), (182, .inl (o_iload 5 184)), (184, .inl (o_goto 199)), (187, .inl (o_iload 3 188)), (188, .inl (o_pushI (nI 1) 189)), (189, .inl (o_icmp_ne 197 192)), (192, .inl (o_iload 6 194)), (194, .inl (o_goto 199)), (197, .inl (o_iload 7 199)), (199, .inr 0)]
def lX11_span : List (Nat × (Op ⊕ Nat)) := lX11_span_0 ++ (lX11_span_1 ++ (lX11_span_2))
theorem qX11_span : yX11_span.cls = RX11 ∧ yX11_span.cls ≠ "java/lang/invoke/MethodHandle" ∧ yX11_span.cls ≠ "java/lang/invoke/VarHandle" ∧ (parseMethodDescriptor yX11_span.desc).map (fun d => d.parameters.length) = some 3 := by decide +kernel
set_option maxRecDepth 10000 in
theorem hX11_span_0 (l : Launch) {p : Program} {e : Env} {s : State} {m : MethodId} {args : Array Value} {below : List Frame} {meth : Method} {c : Code} {D : va_G} {ad adV : Nat → Nat} {cA : Nat → ClassId} {K : Kt} (C0 : Cx p s m args meth c D ad adV cA cX11_span 9 RX11) (hr : meth.sig.returnType = (some .int)) : ∀ q ∈ lX11_span_0, Sd p l e (rmd 3) s m args below meth c (MQ below (QQ D ad cA K) args s 0 0 (AA ad)) D ad cA 9 q.1 (opOf K q.2) := List.forall_mem_cons.mpr ⟨s_iload_n C0 dX11_span_0 rfl, List.forall_mem_cons.mpr ⟨s_iconst C0 dX11_span_1 rfl, List.forall_mem_cons.mpr ⟨s_bipush C0 dX11_span_2 (by decide +kernel), List.forall_mem_cons.mpr ⟨s_callS C0 (kX11_in l) dX11_span_4 qX11_in tw6_112 tw6_113 tw1_12 tw6_114 rfl (by decide) (by decide), List.forall_mem_cons.mpr ⟨s_if_eq C0 dX11_span_7 rfl, List.forall_mem_cons.mpr ⟨s_iload_n C0 dX11_span_10 rfl, List.forall_mem_cons.mpr ⟨s_iconst C0 dX11_span_11 rfl, List.forall_mem_cons.mpr ⟨s_ldcw C0 dX11_span_12 tw7_194, List.forall_mem_cons.mpr ⟨s_callS C0 (kX11_in l) dX11_span_15 qX11_in tw6_112 tw6_113 tw1_12 tw6_114 rfl (by decide) (by decide), List.forall_mem_cons.mpr ⟨s_if_eq C0 dX11_span_18 rfl, List.forall_mem_cons.mpr ⟨s_iload_n C0 dX11_span_21 rfl, List.forall_mem_cons.mpr ⟨s_iconst C0 dX11_span_22 rfl, List.forall_mem_cons.mpr ⟨s_isub C0 dX11_span_23, List.forall_mem_cons.mpr ⟨s_ldcw C0 dX11_span_24 tw7_194, List.forall_mem_cons.mpr ⟨s_iload_n C0 dX11_span_27 rfl, List.forall_mem_cons.mpr ⟨s_isub C0 dX11_span_28, List.forall_mem_cons.mpr ⟨s_icmp_gt C0 dX11_span_29 rfl, List.forall_mem_cons.mpr ⟨s_iconst C0 dX11_span_32 rfl, List.forall_mem_cons.mpr ⟨s_goto C0 dX11_span_33 rfl, List.forall_mem_cons.mpr ⟨s_iconst C0 dX11_span_36 rfl, List.forall_mem_cons.mpr ⟨s_istore C0 dX11_span_37 (by decide), List.forall_mem_cons.mpr ⟨s_aload_n C0 dX11_span_39 rfl, List.forall_mem_cons.mpr ⟨s_aload_n C0 dX11_span_40 rfl, List.forall_mem_cons.mpr ⟨s_get (ci := 11) (k := 6) C0 dX11_span_41 inX11 rfl (by decide) tw6_17, List.forall_mem_cons.mpr ⟨s_if_eq C0 dX11_span_44 rfl, List.forall_mem_cons.mpr ⟨s_iload_n C0 dX11_span_47 rfl, List.forall_mem_cons.mpr ⟨s_iconst C0 dX11_span_48 rfl, List.forall_mem_cons.mpr ⟨s_iconst C0 dX11_span_49 rfl, List.forall_mem_cons.mpr ⟨s_callS C0 (kX11_in l) dX11_span_50 qX11_in tw6_112 tw6_113 tw1_12 tw6_114 rfl (by decide) (by decide), List.forall_mem_cons.mpr ⟨s_if_eq C0 dX11_span_53 rfl, List.forall_mem_cons.mpr ⟨s_iconst C0 dX11_span_56 rfl, List.forall_mem_cons.mpr ⟨s_goto C0 dX11_span_57 rfl, List.forall_mem_cons.mpr ⟨s_iconst C0 dX11_span_60 rfl, List.forall_mem_cons.mpr ⟨s_iload C0 dX11_span_61, List.forall_mem_cons.mpr ⟨s_callS C0 (kX11_unless_ l) dX11_span_63 qX11_unless_ tw6_115 tw6_116 tw1_12 tw6_117 rfl (by decide) (by decide), List.forall_mem_cons.mpr ⟨s_callV (ci := 11) C0 (kX11_isRefused l) dX11_span_66 rfl qX11_isRefused tw6_118 tw6_120 twp_41 tw1_12 tw6_121 rfl (by decide) (by decide), List.forall_mem_cons.mpr ⟨s_if_eq C0 dX11_span_69 rfl, List.forall_mem_cons.mpr ⟨s_iconst C0 dX11_span_72 rfl, List.forall_mem_cons.mpr ⟨s_iret C0 hr dX11_span_73, List.forall_mem_cons.mpr ⟨s_iconst C0 dX11_span_74 rfl, fun _ h => absurd h List.not_mem_nil⟩⟩⟩⟩⟩⟩⟩⟩⟩⟩⟩⟩⟩⟩⟩⟩⟩⟩⟩⟩⟩⟩⟩⟩⟩⟩⟩⟩⟩⟩⟩⟩⟩⟩⟩⟩⟩⟩⟩⟩
set_option maxRecDepth 10000 in
theorem hX11_span_1 (l : Launch) {p : Program} {e : Env} {s : State} {m : MethodId} {args : Array Value} {below : List Frame} {meth : Method} {c : Code} {D : va_G} {ad adV : Nat → Nat} {cA : Nat → ClassId} {K : Kt} (C0 : Cx p s m args meth c D ad adV cA cX11_span 9 RX11) (hr : meth.sig.returnType = (some .int)) : ∀ q ∈ lX11_span_1, Sd p l e (rmd 3) s m args below meth c (MQ below (QQ D ad cA K) args s 0 0 (AA ad)) D ad cA 9 q.1 (opOf K q.2) := List.forall_mem_cons.mpr ⟨s_istore C0 dX11_span_75 (by decide), List.forall_mem_cons.mpr ⟨s_iconst C0 dX11_span_77 rfl, List.forall_mem_cons.mpr ⟨s_istore C0 dX11_span_78 (by decide), List.forall_mem_cons.mpr ⟨s_iconst C0 dX11_span_80 rfl, List.forall_mem_cons.mpr ⟨s_istore C0 dX11_span_81 (by decide), List.forall_mem_cons.mpr ⟨s_iconst C0 dX11_span_83 rfl, List.forall_mem_cons.mpr ⟨s_istore C0 dX11_span_84 (by decide), List.forall_mem_cons.mpr ⟨s_iload C0 dX11_span_86, List.forall_mem_cons.mpr ⟨s_iload_n C0 dX11_span_88 rfl, List.forall_mem_cons.mpr ⟨s_icmp_ge C0 dX11_span_89 rfl, List.forall_mem_cons.mpr ⟨s_aload_n C0 dX11_span_92 rfl, List.forall_mem_cons.mpr ⟨s_iload_n C0 dX11_span_93 rfl, List.forall_mem_cons.mpr ⟨s_iload C0 dX11_span_94, List.forall_mem_cons.mpr ⟨s_iadd C0 dX11_span_96, List.forall_mem_cons.mpr ⟨s_callV (ci := 11) C0 (kX11_goes l) dX11_span_97 rfl qX11_goes tw7_195 tw7_197 twp_85 tw1_12 tw7_198 rfl (by decide) (by decide), List.forall_mem_cons.mpr ⟨s_iload C0 dX11_span_100, List.forall_mem_cons.mpr ⟨s_aload_n C0 dX11_span_102 rfl, List.forall_mem_cons.mpr ⟨s_get (ci := 11) (k := 23) C0 dX11_span_103 inX11 rfl (by decide) tw6_34, List.forall_mem_cons.mpr ⟨s_iconst C0 dX11_span_106 rfl, List.forall_mem_cons.mpr ⟨s_iald C0 dX11_span_107, List.forall_mem_cons.mpr ⟨s_if_ne C0 dX11_span_108 rfl, List.forall_mem_cons.mpr ⟨s_iconst C0 dX11_span_111 rfl, List.forall_mem_cons.mpr ⟨s_goto C0 dX11_span_112 rfl, List.forall_mem_cons.mpr ⟨s_iconst C0 dX11_span_115 rfl, List.forall_mem_cons.mpr ⟨s_iadd C0 dX11_span_116, List.forall_mem_cons.mpr ⟨s_istore C0 dX11_span_117 (by decide), List.forall_mem_cons.mpr ⟨s_iload C0 dX11_span_119, List.forall_mem_cons.mpr ⟨s_if_eq C0 dX11_span_121 rfl, List.forall_mem_cons.mpr ⟨s_aload_n C0 dX11_span_124 rfl, List.forall_mem_cons.mpr ⟨s_get (ci := 11) (k := 23) C0 dX11_span_125 inX11 rfl (by decide) tw6_34, List.forall_mem_cons.mpr ⟨s_iconst C0 dX11_span_128 rfl, List.forall_mem_cons.mpr ⟨s_iald C0 dX11_span_129, List.forall_mem_cons.mpr ⟨s_iload C0 dX11_span_130, List.forall_mem_cons.mpr ⟨s_icmp_ge C0 dX11_span_132 rfl, List.forall_mem_cons.mpr ⟨s_aload_n C0 dX11_span_135 rfl, List.forall_mem_cons.mpr ⟨s_get (ci := 11) (k := 23) C0 dX11_span_136 inX11 rfl (by decide) tw6_34, List.forall_mem_cons.mpr ⟨s_iconst C0 dX11_span_139 rfl, List.forall_mem_cons.mpr ⟨s_iald C0 dX11_span_140, List.forall_mem_cons.mpr ⟨s_goto C0 dX11_span_141 rfl, List.forall_mem_cons.mpr ⟨s_iload C0 dX11_span_144, fun _ h => absurd h List.not_mem_nil⟩⟩⟩⟩⟩⟩⟩⟩⟩⟩⟩⟩⟩⟩⟩⟩⟩⟩⟩⟩⟩⟩⟩⟩⟩⟩⟩⟩⟩⟩⟩⟩⟩⟩⟩⟩⟩⟩⟩⟩
set_option maxRecDepth 10000 in
theorem hX11_span_2 (l : Launch) {p : Program} {e : Env} {s : State} {m : MethodId} {args : Array Value} {below : List Frame} {meth : Method} {c : Code} {D : va_G} {ad adV : Nat → Nat} {cA : Nat → ClassId} {K : Kt} (C0 : Cx p s m args meth c D ad adV cA cX11_span 9 RX11) (hr : meth.sig.returnType = (some .int)) : ∀ q ∈ lX11_span_2, Sd p l e (rmd 3) s m args below meth c (MQ below (QQ D ad cA K) args s 0 0 (AA ad)) D ad cA 9 q.1 (opOf K q.2) := List.forall_mem_cons.mpr ⟨s_istore C0 dX11_span_146 (by decide), List.forall_mem_cons.mpr ⟨s_aload_n C0 dX11_span_148 rfl, List.forall_mem_cons.mpr ⟨s_get (ci := 11) (k := 23) C0 dX11_span_149 inX11 rfl (by decide) tw6_34, List.forall_mem_cons.mpr ⟨s_iconst C0 dX11_span_152 rfl, List.forall_mem_cons.mpr ⟨s_iald C0 dX11_span_153, List.forall_mem_cons.mpr ⟨s_iload C0 dX11_span_154, List.forall_mem_cons.mpr ⟨s_icmp_le C0 dX11_span_156 rfl, List.forall_mem_cons.mpr ⟨s_aload_n C0 dX11_span_159 rfl, List.forall_mem_cons.mpr ⟨s_get (ci := 11) (k := 23) C0 dX11_span_160 inX11 rfl (by decide) tw6_34, List.forall_mem_cons.mpr ⟨s_iconst C0 dX11_span_163 rfl, List.forall_mem_cons.mpr ⟨s_iald C0 dX11_span_164, List.forall_mem_cons.mpr ⟨s_goto C0 dX11_span_165 rfl, List.forall_mem_cons.mpr ⟨s_iload C0 dX11_span_168, List.forall_mem_cons.mpr ⟨s_istore C0 dX11_span_170 (by decide), List.forall_mem_cons.mpr ⟨s_iinc C0 dX11_span_172 rfl (by decide), List.forall_mem_cons.mpr ⟨s_goto C0 dX11_span_175 rfl, List.forall_mem_cons.mpr ⟨s_iload_n C0 dX11_span_178 rfl, List.forall_mem_cons.mpr ⟨s_if_ne C0 dX11_span_179 rfl, List.forall_mem_cons.mpr ⟨s_iload C0 dX11_span_182, List.forall_mem_cons.mpr ⟨s_goto C0 dX11_span_184 rfl, List.forall_mem_cons.mpr ⟨s_iload_n C0 dX11_span_187 rfl, List.forall_mem_cons.mpr ⟨s_iconst C0 dX11_span_188 rfl, List.forall_mem_cons.mpr ⟨s_icmp_ne C0 dX11_span_189 rfl, List.forall_mem_cons.mpr ⟨s_iload C0 dX11_span_192, List.forall_mem_cons.mpr ⟨s_goto C0 dX11_span_194 rfl, List.forall_mem_cons.mpr ⟨s_iload C0 dX11_span_197, List.forall_mem_cons.mpr ⟨s_iret C0 hr dX11_span_199, fun _ h => absurd h List.not_mem_nil⟩⟩⟩⟩⟩⟩⟩⟩⟩⟩⟩⟩⟩⟩⟩⟩⟩⟩⟩⟩⟩⟩⟩⟩⟩⟩⟩
def fX11_span : Mf := mf 9 (fun K => tl K lX11_span)
theorem kX11_span (l : Launch) : Okm l yX11_span cX11_span 9 (some .int) 3 fX11_span := Okm_tl (own := RX11) (by decide +kernel) rfl (fun C0 hr => List.forall_mem_append.mpr ⟨hX11_span_0 l C0 hr, List.forall_mem_append.mpr ⟨hX11_span_1 l C0 hr, hX11_span_2 l C0 hr⟩⟩)
theorem dX11_remembers_0 : decode cX11_remembers 0 = .ok (.aload_n 0, 1) := by decide +kernel
theorem dX11_remembers_1 : decode cX11_remembers 1 = .ok (.getfield 175, 3) := by decide +kernel
theorem dX11_remembers_4 : decode cX11_remembers 4 = .ok (.bipush 10, 2) := by decide +kernel
theorem dX11_remembers_6 : decode cX11_remembers 6 = .ok (.if_icmp .ne 49, 3) := by decide +kernel
theorem dX11_remembers_9 : decode cX11_remembers 9 = .ok (.aload_n 0, 1) := by decide +kernel
theorem dX11_remembers_10 : decode cX11_remembers 10 = .ok (.dup, 1) := by decide +kernel
theorem dX11_remembers_11 : decode cX11_remembers 11 = .ok (.getfield 175, 3) := by decide +kernel
theorem dX11_remembers_14 : decode cX11_remembers 14 = .ok (.iconst 1, 1) := by decide +kernel
theorem dX11_remembers_15 : decode cX11_remembers 15 = .ok (.isub, 1) := by decide +kernel
theorem dX11_remembers_16 : decode cX11_remembers 16 = .ok (.putfield 175, 3) := by decide +kernel
theorem dX11_remembers_19 : decode cX11_remembers 19 = .ok (.iconst 0, 1) := by decide +kernel
theorem dX11_remembers_20 : decode cX11_remembers 20 = .ok (.istore_n 1, 1) := by decide +kernel
theorem dX11_remembers_21 : decode cX11_remembers 21 = .ok (.iload_n 1, 1) := by decide +kernel
theorem dX11_remembers_22 : decode cX11_remembers 22 = .ok (.aload_n 0, 1) := by decide +kernel
theorem dX11_remembers_23 : decode cX11_remembers 23 = .ok (.getfield 175, 3) := by decide +kernel
theorem dX11_remembers_26 : decode cX11_remembers 26 = .ok (.sipush 256, 3) := by decide +kernel
theorem dX11_remembers_29 : decode cX11_remembers 29 = .ok (.imul, 1) := by decide +kernel
theorem dX11_remembers_30 : decode cX11_remembers 30 = .ok (.if_icmp .ge 25, 3) := by decide +kernel
theorem dX11_remembers_33 : decode cX11_remembers 33 = .ok (.aload_n 0, 1) := by decide +kernel
theorem dX11_remembers_34 : decode cX11_remembers 34 = .ok (.getfield 44, 3) := by decide +kernel
theorem dX11_remembers_37 : decode cX11_remembers 37 = .ok (.iload_n 1, 1) := by decide +kernel
theorem dX11_remembers_38 : decode cX11_remembers 38 = .ok (.aload_n 0, 1) := by decide +kernel
theorem dX11_remembers_39 : decode cX11_remembers 39 = .ok (.getfield 44, 3) := by decide +kernel
theorem dX11_remembers_42 : decode cX11_remembers 42 = .ok (.iload_n 1, 1) := by decide +kernel
theorem dX11_remembers_43 : decode cX11_remembers 43 = .ok (.sipush 256, 3) := by decide +kernel
theorem dX11_remembers_46 : decode cX11_remembers 46 = .ok (.iadd, 1) := by decide +kernel
theorem dX11_remembers_47 : decode cX11_remembers 47 = .ok (.iaload, 1) := by decide +kernel
theorem dX11_remembers_48 : decode cX11_remembers 48 = .ok (.iastore, 1) := by decide +kernel
theorem dX11_remembers_49 : decode cX11_remembers 49 = .ok (.iinc 1 1, 3) := by decide +kernel
theorem dX11_remembers_52 : decode cX11_remembers 52 = .ok (.goto (-31), 3) := by decide +kernel
theorem dX11_remembers_55 : decode cX11_remembers 55 = .ok (.aload_n 0, 1) := by decide +kernel
theorem dX11_remembers_56 : decode cX11_remembers 56 = .ok (.getfield 44, 3) := by decide +kernel
theorem dX11_remembers_59 : decode cX11_remembers 59 = .ok (.sipush 256, 3) := by decide +kernel
theorem dX11_remembers_62 : decode cX11_remembers 62 = .ok (.aload_n 0, 1) := by decide +kernel
theorem dX11_remembers_63 : decode cX11_remembers 63 = .ok (.getfield 175, 3) := by decide +kernel
theorem dX11_remembers_66 : decode cX11_remembers 66 = .ok (.imul, 1) := by decide +kernel
theorem dX11_remembers_67 : decode cX11_remembers 67 = .ok (.aload_n 0, 1) := by decide +kernel
theorem dX11_remembers_68 : decode cX11_remembers 68 = .ok (.getfield 17, 3) := by decide +kernel
theorem dX11_remembers_71 : decode cX11_remembers 71 = .ok (.iconst 0, 1) := by decide +kernel
theorem dX11_remembers_72 : decode cX11_remembers 72 = .ok (.sipush 256, 3) := by decide +kernel
theorem dX11_remembers_75 : decode cX11_remembers 75 = .ok (.invokestatic 178, 3) := by decide +kernel
theorem dX11_remembers_78 : decode cX11_remembers 78 = .ok (.aload_n 0, 1) := by decide +kernel
theorem dX11_remembers_79 : decode cX11_remembers 79 = .ok (.dup, 1) := by decide +kernel
theorem dX11_remembers_80 : decode cX11_remembers 80 = .ok (.getfield 175, 3) := by decide +kernel
theorem dX11_remembers_83 : decode cX11_remembers 83 = .ok (.iconst 1, 1) := by decide +kernel
theorem dX11_remembers_84 : decode cX11_remembers 84 = .ok (.iadd, 1) := by decide +kernel
theorem dX11_remembers_85 : decode cX11_remembers 85 = .ok (.putfield 175, 3) := by decide +kernel
theorem dX11_remembers_88 : decode cX11_remembers 88 = .ok (.return_, 1) := by decide +kernel
def lX11_remembers_0 : List (Nat × (Op ⊕ Nat)) := [(0, .inl (o_aload 0 1)), (1, .inl (o_get 11 24 4)), (4, .inl (o_pushI (nI 10) 6)), (6, .inl (o_icmp_ne 55 9)), (9, .inl (o_aload 0 10)), (10, .inl (o_dup 11)), (11, .inl (o_get 11 24 14)), (14, .inl (o_pushI (nI 1) 15)), (15, .inl (o_isub 16)), (16, .inl (o_putI 11 24 19)), (19, .inl (o_pushI (nI 0) 20)), (20, .inl (o_istore 1 21)), (21, .inl (o_iload 1 22)), (22, .inl (o_aload 0 23)), (23, .inl (o_get 11 24 26)), (26, .inl (o_pushI (nI 256) 29)), (29, .inl (o_imul 30)), (30, .inl (o_icmp_ge 55 33)), (33, .inl (o_aload 0 34)), (34, .inl (o_get 11 25 37)), (37, .inl (o_iload 1 38)), (38, .inl (o_aload 0 39)), (39, .inl (o_get 11 25 42)), (42, .inl (o_iload 1 43)), (43, .inl (o_pushI (nI 256) 46)), (46, .inl (o_iadd 47)), (47, .inl (o_iald 48)), (48, .inl (o_iast 49)), (49, .inl (o_iinc 1 (nI 1) 52)), (52, .inl (o_goto 21)), (55, .inl (o_aload 0 56)), (56, .inl (o_get 11 25 59)), (59, .inl (o_pushI (nI 256) 62)), (62, .inl (o_aload 0 63)), (63, .inl (o_get 11 24 66)), (66, .inl (o_imul 67)), (67, .inl (o_aload 0 68)), (68, .inl (o_get 11 7 71)), (71, .inl (o_pushI (nI 0) 72)), (72, .inl (o_pushI (nI 256) 75))]
def lX11_remembers_1 : List (Nat × (Op ⊕ Nat)) := [(75, .inl (o_callS fX11_lays 5 78)), (78, .inl (o_aload 0 79)), (79, .inl (o_dup 80)), (80, .inl (o_get 11 24 83)), (83, .inl (o_pushI (nI 1) 84)), (84, .inl (o_iadd 85)), (85, .inl (o_putI 11 24 88)), (88, .inr 3)]
def lX11_remembers : List (Nat × (Op ⊕ Nat)) := lX11_remembers_0 ++ (lX11_remembers_1)
theorem qX11_remembers : yX11_remembers.cls = RX11 ∧ yX11_remembers.cls ≠ "java/lang/invoke/MethodHandle" ∧ yX11_remembers.cls ≠ "java/lang/invoke/VarHandle" ∧ (parseMethodDescriptor yX11_remembers.desc).map (fun d => d.parameters.length) = some 0 := by decide +kernel
set_option maxRecDepth 10000 in
theorem hX11_remembers_0 (l : Launch) {p : Program} {e : Env} {s : State} {m : MethodId} {args : Array Value} {below : List Frame} {meth : Method} {c : Code} {D : va_G} {ad adV : Nat → Nat} {cA : Nat → ClassId} {K : Kt} (C0 : Cx p s m args meth c D ad adV cA cX11_remembers 2 RX11) (hr : meth.sig.returnType = none) : ∀ q ∈ lX11_remembers_0, Sd p l e (rmd 1) s m args below meth c (MQ below (QQ D ad cA K) args s 0 0 (AA ad)) D ad cA 2 q.1 (opOf K q.2) := List.forall_mem_cons.mpr ⟨s_aload_n C0 dX11_remembers_0 rfl, List.forall_mem_cons.mpr ⟨s_get (ci := 11) (k := 24) C0 dX11_remembers_1 inX11 rfl (by decide) tw6_35, List.forall_mem_cons.mpr ⟨s_bipush C0 dX11_remembers_4 (by decide +kernel), List.forall_mem_cons.mpr ⟨s_icmp_ne C0 dX11_remembers_6 rfl, List.forall_mem_cons.mpr ⟨s_aload_n C0 dX11_remembers_9 rfl, List.forall_mem_cons.mpr ⟨s_dup C0 dX11_remembers_10, List.forall_mem_cons.mpr ⟨s_get (ci := 11) (k := 24) C0 dX11_remembers_11 inX11 rfl (by decide) tw6_35, List.forall_mem_cons.mpr ⟨s_iconst C0 dX11_remembers_14 rfl, List.forall_mem_cons.mpr ⟨s_isub C0 dX11_remembers_15, List.forall_mem_cons.mpr ⟨s_putI (ci := 11) (k := 24) C0 dX11_remembers_16 inX11 tyX11_ok nmX11 rfl (by decide) rfl rfl tw6_35, List.forall_mem_cons.mpr ⟨s_iconst C0 dX11_remembers_19 rfl, List.forall_mem_cons.mpr ⟨s_istore_n C0 dX11_remembers_20 rfl (by decide), List.forall_mem_cons.mpr ⟨s_iload_n C0 dX11_remembers_21 rfl, List.forall_mem_cons.mpr ⟨s_aload_n C0 dX11_remembers_22 rfl, List.forall_mem_cons.mpr ⟨s_get (ci := 11) (k := 24) C0 dX11_remembers_23 inX11 rfl (by decide) tw6_35, List.forall_mem_cons.mpr ⟨s_sipush C0 dX11_remembers_26 (by decide +kernel), List.forall_mem_cons.mpr ⟨s_imul C0 dX11_remembers_29, List.forall_mem_cons.mpr ⟨s_icmp_ge C0 dX11_remembers_30 rfl, List.forall_mem_cons.mpr ⟨s_aload_n C0 dX11_remembers_33 rfl, List.forall_mem_cons.mpr ⟨s_get (ci := 11) (k := 25) C0 dX11_remembers_34 inX11 rfl (by decide) tw6_36, List.forall_mem_cons.mpr ⟨s_iload_n C0 dX11_remembers_37 rfl, List.forall_mem_cons.mpr ⟨s_aload_n C0 dX11_remembers_38 rfl, List.forall_mem_cons.mpr ⟨s_get (ci := 11) (k := 25) C0 dX11_remembers_39 inX11 rfl (by decide) tw6_36, List.forall_mem_cons.mpr ⟨s_iload_n C0 dX11_remembers_42 rfl, List.forall_mem_cons.mpr ⟨s_sipush C0 dX11_remembers_43 (by decide +kernel), List.forall_mem_cons.mpr ⟨s_iadd C0 dX11_remembers_46, List.forall_mem_cons.mpr ⟨s_iald C0 dX11_remembers_47, List.forall_mem_cons.mpr ⟨s_iast C0 dX11_remembers_48, List.forall_mem_cons.mpr ⟨s_iinc C0 dX11_remembers_49 rfl (by decide), List.forall_mem_cons.mpr ⟨s_goto C0 dX11_remembers_52 rfl, List.forall_mem_cons.mpr ⟨s_aload_n C0 dX11_remembers_55 rfl, List.forall_mem_cons.mpr ⟨s_get (ci := 11) (k := 25) C0 dX11_remembers_56 inX11 rfl (by decide) tw6_36, List.forall_mem_cons.mpr ⟨s_sipush C0 dX11_remembers_59 (by decide +kernel), List.forall_mem_cons.mpr ⟨s_aload_n C0 dX11_remembers_62 rfl, List.forall_mem_cons.mpr ⟨s_get (ci := 11) (k := 24) C0 dX11_remembers_63 inX11 rfl (by decide) tw6_35, List.forall_mem_cons.mpr ⟨s_imul C0 dX11_remembers_66, List.forall_mem_cons.mpr ⟨s_aload_n C0 dX11_remembers_67 rfl, List.forall_mem_cons.mpr ⟨s_get (ci := 11) (k := 7) C0 dX11_remembers_68 inX11 rfl (by decide) tw6_18, List.forall_mem_cons.mpr ⟨s_iconst C0 dX11_remembers_71 rfl, List.forall_mem_cons.mpr ⟨s_sipush C0 dX11_remembers_72 (by decide +kernel), fun _ h => absurd h List.not_mem_nil⟩⟩⟩⟩⟩⟩⟩⟩⟩⟩⟩⟩⟩⟩⟩⟩⟩⟩⟩⟩⟩⟩⟩⟩⟩⟩⟩⟩⟩⟩⟩⟩⟩⟩⟩⟩⟩⟩⟩⟩
set_option maxRecDepth 10000 in
theorem hX11_remembers_1 (l : Launch) {p : Program} {e : Env} {s : State} {m : MethodId} {args : Array Value} {below : List Frame} {meth : Method} {c : Code} {D : va_G} {ad adV : Nat → Nat} {cA : Nat → ClassId} {K : Kt} (C0 : Cx p s m args meth c D ad adV cA cX11_remembers 2 RX11) (hr : meth.sig.returnType = none) : ∀ q ∈ lX11_remembers_1, Sd p l e (rmd 1) s m args below meth c (MQ below (QQ D ad cA K) args s 0 0 (AA ad)) D ad cA 2 q.1 (opOf K q.2) := List.forall_mem_cons.mpr ⟨s_callS C0 (kX11_lays l) dX11_remembers_75 qX11_lays tw6_188 tw6_189 tw1_12 tw6_190 rfl (by decide) (by decide), List.forall_mem_cons.mpr ⟨s_aload_n C0 dX11_remembers_78 rfl, List.forall_mem_cons.mpr ⟨s_dup C0 dX11_remembers_79, List.forall_mem_cons.mpr ⟨s_get (ci := 11) (k := 24) C0 dX11_remembers_80 inX11 rfl (by decide) tw6_35, List.forall_mem_cons.mpr ⟨s_iconst C0 dX11_remembers_83 rfl, List.forall_mem_cons.mpr ⟨s_iadd C0 dX11_remembers_84, List.forall_mem_cons.mpr ⟨s_putI (ci := 11) (k := 24) C0 dX11_remembers_85 inX11 tyX11_ok nmX11 rfl (by decide) rfl rfl tw6_35, List.forall_mem_cons.mpr ⟨s_vret C0 hr dX11_remembers_88, fun _ h => absurd h List.not_mem_nil⟩⟩⟩⟩⟩⟩⟩⟩
def fX11_remembers : Mf := mf 2 (fun K => tl K lX11_remembers)
theorem kX11_remembers (l : Launch) : Okm l yX11_remembers cX11_remembers 2 none 1 fX11_remembers := Okm_tl (own := RX11) (by decide +kernel) rfl (fun C0 hr => List.forall_mem_append.mpr ⟨hX11_remembers_0 l C0 hr, hX11_remembers_1 l C0 hr⟩)
theorem dX11_comes_0 : decode cX11_comes 0 = .ok (.aload_n 0, 1) := by decide +kernel
theorem dX11_comes_1 : decode cX11_comes 1 = .ok (.getfield 17, 3) := by decide +kernel
theorem dX11_comes_4 : decode cX11_comes 4 = .ok (.bipush 126, 2) := by decide +kernel
theorem dX11_comes_6 : decode cX11_comes 6 = .ok (.aload_n 0, 1) := by decide +kernel
theorem dX11_comes_7 : decode cX11_comes 7 = .ok (.iload_n 1, 1) := by decide +kernel
theorem dX11_comes_8 : decode cX11_comes 8 = .ok (.aload_n 0, 1) := by decide +kernel
theorem dX11_comes_9 : decode cX11_comes 9 = .ok (.getfield 17, 3) := by decide +kernel
theorem dX11_comes_12 : decode cX11_comes 12 = .ok (.bipush 106, 2) := by decide +kernel
theorem dX11_comes_14 : decode cX11_comes 14 = .ok (.iload_n 1, 1) := by decide +kernel
theorem dX11_comes_15 : decode cX11_comes 15 = .ok (.iadd, 1) := by decide +kernel
theorem dX11_comes_16 : decode cX11_comes 16 = .ok (.iaload, 1) := by decide +kernel
theorem dX11_comes_17 : decode cX11_comes 17 = .ok (.invokevirtual 195, 3) := by decide +kernel
theorem dX11_comes_20 : decode cX11_comes 20 = .ok (.iadd, 1) := by decide +kernel
theorem dX11_comes_21 : decode cX11_comes 21 = .ok (.iload_n 2, 1) := by decide +kernel
theorem dX11_comes_22 : decode cX11_comes 22 = .ok (.iastore, 1) := by decide +kernel
theorem dX11_comes_23 : decode cX11_comes 23 = .ok (.aload_n 0, 1) := by decide +kernel
theorem dX11_comes_24 : decode cX11_comes 24 = .ok (.getfield 17, 3) := by decide +kernel
theorem dX11_comes_27 : decode cX11_comes 27 = .ok (.sipush 186, 3) := by decide +kernel
theorem dX11_comes_30 : decode cX11_comes 30 = .ok (.aload_n 0, 1) := by decide +kernel
theorem dX11_comes_31 : decode cX11_comes 31 = .ok (.iload_n 1, 1) := by decide +kernel
theorem dX11_comes_32 : decode cX11_comes 32 = .ok (.aload_n 0, 1) := by decide +kernel
theorem dX11_comes_33 : decode cX11_comes 33 = .ok (.getfield 17, 3) := by decide +kernel
theorem dX11_comes_36 : decode cX11_comes 36 = .ok (.bipush 106, 2) := by decide +kernel
theorem dX11_comes_38 : decode cX11_comes 38 = .ok (.iload_n 1, 1) := by decide +kernel
theorem dX11_comes_39 : decode cX11_comes 39 = .ok (.iadd, 1) := by decide +kernel
theorem dX11_comes_40 : decode cX11_comes 40 = .ok (.iaload, 1) := by decide +kernel
theorem dX11_comes_41 : decode cX11_comes 41 = .ok (.invokevirtual 195, 3) := by decide +kernel
theorem dX11_comes_44 : decode cX11_comes 44 = .ok (.iadd, 1) := by decide +kernel
theorem dX11_comes_45 : decode cX11_comes 45 = .ok (.iload_n 3, 1) := by decide +kernel
theorem dX11_comes_46 : decode cX11_comes 46 = .ok (.iastore, 1) := by decide +kernel
theorem dX11_comes_47 : decode cX11_comes 47 = .ok (.aload_n 0, 1) := by decide +kernel
theorem dX11_comes_48 : decode cX11_comes 48 = .ok (.getfield 17, 3) := by decide +kernel
theorem dX11_comes_51 : decode cX11_comes 51 = .ok (.bipush 106, 2) := by decide +kernel
theorem dX11_comes_53 : decode cX11_comes 53 = .ok (.iload_n 1, 1) := by decide +kernel
theorem dX11_comes_54 : decode cX11_comes 54 = .ok (.iadd, 1) := by decide +kernel
theorem dX11_comes_55 : decode cX11_comes 55 = .ok (.dup2, 1) := by decide +kernel
theorem dX11_comes_56 : decode cX11_comes 56 = .ok (.iaload, 1) := by decide +kernel
theorem dX11_comes_57 : decode cX11_comes 57 = .ok (.iconst 1, 1) := by decide +kernel
theorem dX11_comes_58 : decode cX11_comes 58 = .ok (.iadd, 1) := by decide +kernel
theorem dX11_comes_59 : decode cX11_comes 59 = .ok (.iastore, 1) := by decide +kernel
theorem dX11_comes_60 : decode cX11_comes 60 = .ok (.return_, 1) := by decide +kernel
def lX11_comes_0 : List (Nat × (Op ⊕ Nat)) := [(0, .inl (o_aload 0 1)), (1, .inl (o_get 11 7 4)), (4, .inl (o_pushI (nI 126) 6)), (6, .inl (o_aload 0 7)), (7, .inl (o_iload 1 8)), (8, .inl (o_aload 0 9)), (9, .inl (o_get 11 7 12)), (12, .inl (o_pushI (nI 106) 14)), (14, .inl (o_iload 1 15)), (15, .inl (o_iadd 16)), (16, .inl (o_iald 17)), (17, .inl (o_callV fX11_slot 2 11 20)), (20, .inl (o_iadd 21)), (21, .inl (o_iload 2 22)), (22, .inl (o_iast 23)), (23, .inl (o_aload 0 24)), (24, .inl (o_get 11 7 27)), (27, .inl (o_pushI (nI 186) 30)), (30, .inl (o_aload 0 31)), (31, .inl (o_iload 1 32)), (32, .inl (o_aload 0 33)), (33, .inl (o_get 11 7 36)), (36, .inl (o_pushI (nI 106) 38)), (38, .inl (o_iload 1 39)), (39, .inl (o_iadd 40)), (40, .inl (o_iald 41)), (41, .inl (o_callV fX11_slot 2 11 44)), (44, .inl (o_iadd 45)), (45, .inl (o_iload 3 46)), (46, .inl (o_iast 47)), (47, .inl (o_aload 0 48)), (48, .inl (o_get 11 7 51)), (51, .inl (o_pushI (nI 106) 53)), (53, .inl (o_iload 1 54)), (54, .inl (o_iadd 55)), (55, .inl (o_dup2 56)), (56, .inl (o_iald 57)), (57, .inl (o_pushI (nI 1) 58)), (58, .inl (o_iadd 59)), (59, .inl (o_iast 60))]
def lX11_comes_1 : List (Nat × (Op ⊕ Nat)) := [(60, .inr 3)]
def lX11_comes : List (Nat × (Op ⊕ Nat)) := lX11_comes_0 ++ (lX11_comes_1)
theorem qX11_comes : yX11_comes.cls = RX11 ∧ yX11_comes.cls ≠ "java/lang/invoke/MethodHandle" ∧ yX11_comes.cls ≠ "java/lang/invoke/VarHandle" ∧ (parseMethodDescriptor yX11_comes.desc).map (fun d => d.parameters.length) = some 3 := by decide +kernel
set_option maxRecDepth 10000 in
theorem hX11_comes_0 (l : Launch) {p : Program} {e : Env} {s : State} {m : MethodId} {args : Array Value} {below : List Frame} {meth : Method} {c : Code} {D : va_G} {ad adV : Nat → Nat} {cA : Nat → ClassId} {K : Kt} (C0 : Cx p s m args meth c D ad adV cA cX11_comes 4 RX11) (hr : meth.sig.returnType = none) : ∀ q ∈ lX11_comes_0, Sd p l e (rmd 1) s m args below meth c (MQ below (QQ D ad cA K) args s 0 0 (AA ad)) D ad cA 4 q.1 (opOf K q.2) := List.forall_mem_cons.mpr ⟨s_aload_n C0 dX11_comes_0 rfl, List.forall_mem_cons.mpr ⟨s_get (ci := 11) (k := 7) C0 dX11_comes_1 inX11 rfl (by decide) tw6_18, List.forall_mem_cons.mpr ⟨s_bipush C0 dX11_comes_4 (by decide +kernel), List.forall_mem_cons.mpr ⟨s_aload_n C0 dX11_comes_6 rfl, List.forall_mem_cons.mpr ⟨s_iload_n C0 dX11_comes_7 rfl, List.forall_mem_cons.mpr ⟨s_aload_n C0 dX11_comes_8 rfl, List.forall_mem_cons.mpr ⟨s_get (ci := 11) (k := 7) C0 dX11_comes_9 inX11 rfl (by decide) tw6_18, List.forall_mem_cons.mpr ⟨s_bipush C0 dX11_comes_12 (by decide +kernel), List.forall_mem_cons.mpr ⟨s_iload_n C0 dX11_comes_14 rfl, List.forall_mem_cons.mpr ⟨s_iadd C0 dX11_comes_15, List.forall_mem_cons.mpr ⟨s_iald C0 dX11_comes_16, List.forall_mem_cons.mpr ⟨s_callV (ci := 11) C0 (kX11_slot l) dX11_comes_17 rfl qX11_slot tw6_226 tw6_228 twp_60 tw1_12 tw6_229 rfl (by decide) (by decide), List.forall_mem_cons.mpr ⟨s_iadd C0 dX11_comes_20, List.forall_mem_cons.mpr ⟨s_iload_n C0 dX11_comes_21 rfl, List.forall_mem_cons.mpr ⟨s_iast C0 dX11_comes_22, List.forall_mem_cons.mpr ⟨s_aload_n C0 dX11_comes_23 rfl, List.forall_mem_cons.mpr ⟨s_get (ci := 11) (k := 7) C0 dX11_comes_24 inX11 rfl (by decide) tw6_18, List.forall_mem_cons.mpr ⟨s_sipush C0 dX11_comes_27 (by decide +kernel), List.forall_mem_cons.mpr ⟨s_aload_n C0 dX11_comes_30 rfl, List.forall_mem_cons.mpr ⟨s_iload_n C0 dX11_comes_31 rfl, List.forall_mem_cons.mpr ⟨s_aload_n C0 dX11_comes_32 rfl, List.forall_mem_cons.mpr ⟨s_get (ci := 11) (k := 7) C0 dX11_comes_33 inX11 rfl (by decide) tw6_18, List.forall_mem_cons.mpr ⟨s_bipush C0 dX11_comes_36 (by decide +kernel), List.forall_mem_cons.mpr ⟨s_iload_n C0 dX11_comes_38 rfl, List.forall_mem_cons.mpr ⟨s_iadd C0 dX11_comes_39, List.forall_mem_cons.mpr ⟨s_iald C0 dX11_comes_40, List.forall_mem_cons.mpr ⟨s_callV (ci := 11) C0 (kX11_slot l) dX11_comes_41 rfl qX11_slot tw6_226 tw6_228 twp_60 tw1_12 tw6_229 rfl (by decide) (by decide), List.forall_mem_cons.mpr ⟨s_iadd C0 dX11_comes_44, List.forall_mem_cons.mpr ⟨s_iload_n C0 dX11_comes_45 rfl, List.forall_mem_cons.mpr ⟨s_iast C0 dX11_comes_46, List.forall_mem_cons.mpr ⟨s_aload_n C0 dX11_comes_47 rfl, List.forall_mem_cons.mpr ⟨s_get (ci := 11) (k := 7) C0 dX11_comes_48 inX11 rfl (by decide) tw6_18, List.forall_mem_cons.mpr ⟨s_bipush C0 dX11_comes_51 (by decide +kernel), List.forall_mem_cons.mpr ⟨s_iload_n C0 dX11_comes_53 rfl, List.forall_mem_cons.mpr ⟨s_iadd C0 dX11_comes_54, List.forall_mem_cons.mpr ⟨s_dup2 C0 dX11_comes_55, List.forall_mem_cons.mpr ⟨s_iald C0 dX11_comes_56, List.forall_mem_cons.mpr ⟨s_iconst C0 dX11_comes_57 rfl, List.forall_mem_cons.mpr ⟨s_iadd C0 dX11_comes_58, List.forall_mem_cons.mpr ⟨s_iast C0 dX11_comes_59, fun _ h => absurd h List.not_mem_nil⟩⟩⟩⟩⟩⟩⟩⟩⟩⟩⟩⟩⟩⟩⟩⟩⟩⟩⟩⟩⟩⟩⟩⟩⟩⟩⟩⟩⟩⟩⟩⟩⟩⟩⟩⟩⟩⟩⟩⟩
set_option maxRecDepth 10000 in
theorem hX11_comes_1 (l : Launch) {p : Program} {e : Env} {s : State} {m : MethodId} {args : Array Value} {below : List Frame} {meth : Method} {c : Code} {D : va_G} {ad adV : Nat → Nat} {cA : Nat → ClassId} {K : Kt} (C0 : Cx p s m args meth c D ad adV cA cX11_comes 4 RX11) (hr : meth.sig.returnType = none) : ∀ q ∈ lX11_comes_1, Sd p l e (rmd 1) s m args below meth c (MQ below (QQ D ad cA K) args s 0 0 (AA ad)) D ad cA 4 q.1 (opOf K q.2) := List.forall_mem_cons.mpr ⟨s_vret C0 hr dX11_comes_60, fun _ h => absurd h List.not_mem_nil⟩
def fX11_comes : Mf := mf 4 (fun K => tl K lX11_comes)
theorem kX11_comes (l : Launch) : Okm l yX11_comes cX11_comes 4 none 1 fX11_comes := Okm_tl (own := RX11) (by decide +kernel) rfl (fun C0 hr => List.forall_mem_append.mpr ⟨hX11_comes_0 l C0 hr, hX11_comes_1 l C0 hr⟩)
theorem dX11_put_0 : decode cX11_put 0 = .ok (.aload_n 0, 1) := by decide +kernel
theorem dX11_put_1 : decode cX11_put 1 = .ok (.iload_n 1, 1) := by decide +kernel
theorem dX11_put_2 : decode cX11_put 2 = .ok (.invokevirtual 217, 3) := by decide +kernel
theorem dX11_put_5 : decode cX11_put 5 = .ok (.ifCond .eq 15, 3) := by decide +kernel
theorem dX11_put_8 : decode cX11_put 8 = .ok (.aload_n 0, 1) := by decide +kernel
theorem dX11_put_9 : decode cX11_put 9 = .ok (.iload_n 2, 1) := by decide +kernel
theorem dX11_put_10 : decode cX11_put 10 = .ok (.invokevirtual 211, 3) := by decide +kernel
theorem dX11_put_13 : decode cX11_put 13 = .ok (.ifCond .eq 7, 3) := by decide +kernel
theorem dX11_put_16 : decode cX11_put 16 = .ok (.iconst 1, 1) := by decide +kernel
theorem dX11_put_17 : decode cX11_put 17 = .ok (.goto 4, 3) := by decide +kernel
theorem dX11_put_20 : decode cX11_put 20 = .ok (.iconst 0, 1) := by decide +kernel
theorem dX11_put_21 : decode cX11_put 21 = .ok (.aload_n 0, 1) := by decide +kernel
theorem dX11_put_22 : decode cX11_put 22 = .ok (.iload_n 2, 1) := by decide +kernel
theorem dX11_put_23 : decode cX11_put 23 = .ok (.invokevirtual 211, 3) := by decide +kernel
theorem dX11_put_26 : decode cX11_put 26 = .ok (.ifCond .eq 24, 3) := by decide +kernel
theorem dX11_put_29 : decode cX11_put 29 = .ok (.iload_n 3, 1) := by decide +kernel
theorem dX11_put_30 : decode cX11_put 30 = .ok (.iconst 1, 1) := by decide +kernel
theorem dX11_put_31 : decode cX11_put 31 = .ok (.aload_n 0, 1) := by decide +kernel
theorem dX11_put_32 : decode cX11_put 32 = .ok (.getfield 17, 3) := by decide +kernel
theorem dX11_put_35 : decode cX11_put 35 = .ok (.bipush 22, 2) := by decide +kernel
theorem dX11_put_37 : decode cX11_put 37 = .ok (.iload_n 2, 1) := by decide +kernel
theorem dX11_put_38 : decode cX11_put 38 = .ok (.iadd, 1) := by decide +kernel
theorem dX11_put_39 : decode cX11_put 39 = .ok (.iaload, 1) := by decide +kernel
theorem dX11_put_40 : decode cX11_put 40 = .ok (.invokestatic 76, 3) := by decide +kernel
theorem dX11_put_43 : decode cX11_put 43 = .ok (.ifCond .eq 7, 3) := by decide +kernel
theorem dX11_put_46 : decode cX11_put 46 = .ok (.iconst 1, 1) := by decide +kernel
theorem dX11_put_47 : decode cX11_put 47 = .ok (.goto 4, 3) := by decide +kernel
theorem dX11_put_50 : decode cX11_put 50 = .ok (.iconst 0, 1) := by decide +kernel
theorem dX11_put_51 : decode cX11_put 51 = .ok (.invokestatic 155, 3) := by decide +kernel
theorem dX11_put_54 : decode cX11_put 54 = .ok (.istore 5, 2) := by decide +kernel
theorem dX11_put_56 : decode cX11_put 56 = .ok (.iload 5, 2) := by decide +kernel
theorem dX11_put_58 : decode cX11_put 58 = .ok (.ifCond .ne 60, 3) := by decide +kernel
theorem dX11_put_61 : decode cX11_put 61 = .ok (.aload_n 0, 1) := by decide +kernel
theorem dX11_put_62 : decode cX11_put 62 = .ok (.getfield 17, 3) := by decide +kernel
theorem dX11_put_65 : decode cX11_put 65 = .ok (.bipush 106, 2) := by decide +kernel
theorem dX11_put_67 : decode cX11_put 67 = .ok (.iload_n 1, 1) := by decide +kernel
theorem dX11_put_68 : decode cX11_put 68 = .ok (.iadd, 1) := by decide +kernel
theorem dX11_put_69 : decode cX11_put 69 = .ok (.iaload, 1) := by decide +kernel
theorem dX11_put_70 : decode cX11_put 70 = .ok (.iconst 3, 1) := by decide +kernel
theorem dX11_put_71 : decode cX11_put 71 = .ok (.if_icmp .eq 12, 3) := by decide +kernel
theorem dX11_put_74 : decode cX11_put 74 = .ok (.iload_n 3, 1) := by decide +kernel
theorem dX11_put_75 : decode cX11_put 75 = .ok (.aload_n 0, 1) := by decide +kernel
theorem dX11_put_76 : decode cX11_put 76 = .ok (.iload_n 1, 1) := by decide +kernel
theorem dX11_put_77 : decode cX11_put 77 = .ok (.invokevirtual 220, 3) := by decide +kernel
theorem dX11_put_80 : decode cX11_put 80 = .ok (.if_icmp .le 7, 3) := by decide +kernel
theorem dX11_put_83 : decode cX11_put 83 = .ok (.iconst 3, 1) := by decide +kernel
theorem dX11_put_84 : decode cX11_put 84 = .ok (.goto 32, 3) := by decide +kernel
theorem dX11_put_87 : decode cX11_put 87 = .ok (.aload_n 0, 1) := by decide +kernel
theorem dX11_put_88 : decode cX11_put 88 = .ok (.iload_n 2, 1) := by decide +kernel
theorem dX11_put_89 : decode cX11_put 89 = .ok (.iload_n 1, 1) := by decide +kernel
theorem dX11_put_90 : decode cX11_put 90 = .ok (.invokevirtual 242, 3) := by decide +kernel
theorem dX11_put_93 : decode cX11_put 93 = .ok (.ifCond .ne 18, 3) := by decide +kernel
theorem dX11_put_96 : decode cX11_put 96 = .ok (.iload 4, 2) := by decide +kernel
theorem dX11_put_98 : decode cX11_put 98 = .ok (.ifCond .ne 17, 3) := by decide +kernel
theorem dX11_put_101 : decode cX11_put 101 = .ok (.aload_n 0, 1) := by decide +kernel
theorem dX11_put_102 : decode cX11_put 102 = .ok (.iload_n 2, 1) := by decide +kernel
theorem dX11_put_103 : decode cX11_put 103 = .ok (.iload_n 1, 1) := by decide +kernel
theorem dX11_put_104 : decode cX11_put 104 = .ok (.iload_n 3, 1) := by decide +kernel
theorem dX11_put_105 : decode cX11_put 105 = .ok (.invokevirtual 273, 3) := by decide +kernel
theorem dX11_put_108 : decode cX11_put 108 = .ok (.ifCond .ne 7, 3) := by decide +kernel
theorem dX11_put_111 : decode cX11_put 111 = .ok (.iconst 5, 1) := by decide +kernel
theorem dX11_put_112 : decode cX11_put 112 = .ok (.goto 4, 3) := by decide +kernel
theorem dX11_put_115 : decode cX11_put 115 = .ok (.iconst 0, 1) := by decide +kernel
theorem dX11_put_116 : decode cX11_put 116 = .ok (.istore 5, 2) := by decide +kernel
theorem dX11_put_118 : decode cX11_put 118 = .ok (.aload_n 0, 1) := by decide +kernel
theorem dX11_put_119 : decode cX11_put 119 = .ok (.iload 5, 2) := by decide +kernel
theorem dX11_put_121 : decode cX11_put 121 = .ok (.invokevirtual 159, 3) := by decide +kernel
theorem dX11_put_124 : decode cX11_put 124 = .ok (.ifCond .eq 5, 3) := by decide +kernel
theorem dX11_put_127 : decode cX11_put 127 = .ok (.iconst (-1), 1) := by decide +kernel
theorem dX11_put_128 : decode cX11_put 128 = .ok (.ireturn, 1) := by decide +kernel
theorem dX11_put_129 : decode cX11_put 129 = .ok (.aload_n 0, 1) := by decide +kernel
theorem dX11_put_130 : decode cX11_put 130 = .ok (.invokevirtual 295, 3) := by decide +kernel
theorem dX11_put_133 : decode cX11_put 133 = .ok (.aload_n 0, 1) := by decide +kernel
theorem dX11_put_134 : decode cX11_put 134 = .ok (.iload_n 1, 1) := by decide +kernel
theorem dX11_put_135 : decode cX11_put 135 = .ok (.iload_n 2, 1) := by decide +kernel
theorem dX11_put_136 : decode cX11_put 136 = .ok (.iload_n 3, 1) := by decide +kernel
theorem dX11_put_137 : decode cX11_put 137 = .ok (.invokevirtual 298, 3) := by decide +kernel
theorem dX11_put_140 : decode cX11_put 140 = .ok (.aload_n 0, 1) := by decide +kernel
theorem dX11_put_141 : decode cX11_put 141 = .ok (.getfield 17, 3) := by decide +kernel
theorem dX11_put_144 : decode cX11_put 144 = .ok (.bipush 106, 2) := by decide +kernel
theorem dX11_put_146 : decode cX11_put 146 = .ok (.iload_n 1, 1) := by decide +kernel
theorem dX11_put_147 : decode cX11_put 147 = .ok (.iadd, 1) := by decide +kernel
theorem dX11_put_148 : decode cX11_put 148 = .ok (.iaload, 1) := by decide +kernel
theorem dX11_put_149 : decode cX11_put 149 = .ok (.ireturn, 1) := by decide +kernel
def lX11_put_0 : List (Nat × (Op ⊕ Nat)) := [(0, .inl (o_aload 0 1)), (1, .inl (o_iload 1 2)), (2, .inl (o_callV fX11_isGame 1 11 5)), (5, .inl (o_if_eq 20 8)), (8, .inl (o_aload 0 9)), (9, .inl (o_iload 2 10)), (10, .inl (o_callV fX11_isArm 1 11 13)), (13, .inl (o_if_eq 20 16)), (16, .inl (o_pushI (nI 1) 17)), (17, .inl (o_goto 21)), (20, .inl (o_pushI (nI 0) 21)), (21, .inl (o_aload 0 22)), (22, .inl (o_iload 2 23)), (23, .inl (o_callV fX11_isArm 1 11 26)), (26, .inl (o_if_eq 50 29)), (29, .inl (o_iload 3 30)), (30, .inl (o_pushI (nI 1) 31)), (31, .inl (o_aload 0 32)), (32, .inl (o_get 11 7 35)), (35, .inl (o_pushI (nI 22) 37)), (37, .inl (o_iload 2 38)), (38, .inl (o_iadd 39)), (39, .inl (o_iald 40)), (40, .inl (o_callS fX11_in 3 43)), (43, .inl (o_if_eq 50 46)), (46, .inl (o_pushI (nI 1) 47)), (47, .inl (o_goto 51)), (50, .inl (o_pushI (nI 0) 51)), (51, .inl (o_callS fX11_unless_ 2 54)), (54, .inl (o_istore 5 56)), (56, .inl (o_iload 5 58)), (58, .inl (o_if_ne 118 61)), (61, .inl (o_aload 0 62)), (62, .inl (o_get 11 7 65)), (65, .inl (o_pushI (nI 106) 67)), (67, .inl (o_iload 1 68)), (68, .inl (o_iadd 69)), (69, .inl (o_iald 70)), (70, .inl (o_pushI (nI 3) 71)), (71, .inl (o_icmp_eq 83 74))]
def lX11_put_1 : List (Nat × (Op ⊕ Nat)) := [(74, .inl (o_iload 3 75)), (75, .inl (o_aload 0 76)), (76, .inl (o_iload 1 77)), (77, .inl (o_callV fX11_leftOf 1 11 80)), (80, .inl (o_icmp_le 87 83)), (83, .inl (o_pushI (nI 3) 84)), (84, .inl (o_goto 116)), (87, .inl (o_aload 0 88)), (88, .inl (o_iload 2 89)), (89, .inl (o_iload 1 90)), (90, .inl (o_callV fX11_isIn 2 11 93)), (93, .inl (o_if_ne 111 96)), (96, .inl (o_iload 4 98)), (98, .inl (o_if_ne 115 101)), (101, .inl (o_aload 0 102)), (102, .inl (o_iload 2 103)), (103, .inl (o_iload 1 104)), (104, .inl (o_iload 3 105)), (105, .inl (o_callV fX11_isAloneAllowed 3 11 108)), (108, .inl (o_if_ne 115 111)), (111, .inl (o_pushI (nI 5) 112)), (112, .inl (o_goto 116)), (115, .inl (o_pushI (nI 0) 116)), (116, .inl (o_istore 5 118)), (118, .inl (o_aload 0 119)), (119, .inl (o_iload 5 121)), (121, .inl (o_callV fX11_isRefused 1 11 124)), (124, .inl (o_if_eq 129 127)), (127, .inl (o_pushI ((-1)) 128)), (128, .inr 0), (129, .inl (o_aload 0 130)), (130, .inl (o_callV fX11_remembers 0 11 133)), (133, .inl (o_aload 0 134)), (134, .inl (o_iload 1 135)), (135, .inl (o_iload 2 136)), (136, .inl (o_iload 3 137)), (137, .inl (o_callV fX11_comes 3 11 140)), (140, .inl (o_aload 0 141)), (141, .inl (o_get 11 7 144)), (144, .inl (o_pushI (nI 106) 146))]
def lX11_put_2 : List (Nat × (Op ⊕ Nat)) := [(146, .inl (o_iload 1 147)), (147, .inl (o_iadd 148)), (148, .inl (o_iald 149)), (149, .inr 0)]
def lX11_put : List (Nat × (Op ⊕ Nat)) := lX11_put_0 ++ (lX11_put_1 ++ (lX11_put_2))
theorem qX11_put : yX11_put.cls = RX11 ∧ yX11_put.cls ≠ "java/lang/invoke/MethodHandle" ∧ yX11_put.cls ≠ "java/lang/invoke/VarHandle" ∧ (parseMethodDescriptor yX11_put.desc).map (fun d => d.parameters.length) = some 4 := by decide +kernel
set_option maxRecDepth 10000 in
theorem hX11_put_0 (l : Launch) {p : Program} {e : Env} {s : State} {m : MethodId} {args : Array Value} {below : List Frame} {meth : Method} {c : Code} {D : va_G} {ad adV : Nat → Nat} {cA : Nat → ClassId} {K : Kt} (C0 : Cx p s m args meth c D ad adV cA cX11_put 6 RX11) (hr : meth.sig.returnType = (some .int)) : ∀ q ∈ lX11_put_0, Sd p l e (rmd 4) s m args below meth c (MQ below (QQ D ad cA K) args s 0 0 (AA ad)) D ad cA 6 q.1 (opOf K q.2) := List.forall_mem_cons.mpr ⟨s_aload_n C0 dX11_put_0 rfl, List.forall_mem_cons.mpr ⟨s_iload_n C0 dX11_put_1 rfl, List.forall_mem_cons.mpr ⟨s_callV (ci := 11) C0 (kX11_isGame l) dX11_put_2 rfl qX11_isGame tw7_14 tw7_16 twp_66 tw1_12 tw7_17 rfl (by decide) (by decide), List.forall_mem_cons.mpr ⟨s_if_eq C0 dX11_put_5 rfl, List.forall_mem_cons.mpr ⟨s_aload_n C0 dX11_put_8 rfl, List.forall_mem_cons.mpr ⟨s_iload_n C0 dX11_put_9 rfl, List.forall_mem_cons.mpr ⟨s_callV (ci := 11) C0 (kX11_isArm l) dX11_put_10 rfl qX11_isArm tw6_214 tw6_216 twp_57 tw1_12 tw6_217 rfl (by decide) (by decide), List.forall_mem_cons.mpr ⟨s_if_eq C0 dX11_put_13 rfl, List.forall_mem_cons.mpr ⟨s_iconst C0 dX11_put_16 rfl, List.forall_mem_cons.mpr ⟨s_goto C0 dX11_put_17 rfl, List.forall_mem_cons.mpr ⟨s_iconst C0 dX11_put_20 rfl, List.forall_mem_cons.mpr ⟨s_aload_n C0 dX11_put_21 rfl, List.forall_mem_cons.mpr ⟨s_iload_n C0 dX11_put_22 rfl, List.forall_mem_cons.mpr ⟨s_callV (ci := 11) C0 (kX11_isArm l) dX11_put_23 rfl qX11_isArm tw6_214 tw6_216 twp_57 tw1_12 tw6_217 rfl (by decide) (by decide), List.forall_mem_cons.mpr ⟨s_if_eq C0 dX11_put_26 rfl, List.forall_mem_cons.mpr ⟨s_iload_n C0 dX11_put_29 rfl, List.forall_mem_cons.mpr ⟨s_iconst C0 dX11_put_30 rfl, List.forall_mem_cons.mpr ⟨s_aload_n C0 dX11_put_31 rfl, List.forall_mem_cons.mpr ⟨s_get (ci := 11) (k := 7) C0 dX11_put_32 inX11 rfl (by decide) tw6_18, List.forall_mem_cons.mpr ⟨s_bipush C0 dX11_put_35 (by decide +kernel), List.forall_mem_cons.mpr ⟨s_iload_n C0 dX11_put_37 rfl, List.forall_mem_cons.mpr ⟨s_iadd C0 dX11_put_38, List.forall_mem_cons.mpr ⟨s_iald C0 dX11_put_39, List.forall_mem_cons.mpr ⟨s_callS C0 (kX11_in l) dX11_put_40 qX11_in tw6_112 tw6_113 tw1_12 tw6_114 rfl (by decide) (by decide), List.forall_mem_cons.mpr ⟨s_if_eq C0 dX11_put_43 rfl, List.forall_mem_cons.mpr ⟨s_iconst C0 dX11_put_46 rfl, List.forall_mem_cons.mpr ⟨s_goto C0 dX11_put_47 rfl, List.forall_mem_cons.mpr ⟨s_iconst C0 dX11_put_50 rfl, List.forall_mem_cons.mpr ⟨s_callS C0 (kX11_unless_ l) dX11_put_51 qX11_unless_ tw6_115 tw6_116 tw1_12 tw6_117 rfl (by decide) (by decide), List.forall_mem_cons.mpr ⟨s_istore C0 dX11_put_54 (by decide), List.forall_mem_cons.mpr ⟨s_iload C0 dX11_put_56, List.forall_mem_cons.mpr ⟨s_if_ne C0 dX11_put_58 rfl, List.forall_mem_cons.mpr ⟨s_aload_n C0 dX11_put_61 rfl, List.forall_mem_cons.mpr ⟨s_get (ci := 11) (k := 7) C0 dX11_put_62 inX11 rfl (by decide) tw6_18, List.forall_mem_cons.mpr ⟨s_bipush C0 dX11_put_65 (by decide +kernel), List.forall_mem_cons.mpr ⟨s_iload_n C0 dX11_put_67 rfl, List.forall_mem_cons.mpr ⟨s_iadd C0 dX11_put_68, List.forall_mem_cons.mpr ⟨s_iald C0 dX11_put_69, List.forall_mem_cons.mpr ⟨s_iconst C0 dX11_put_70 rfl, List.forall_mem_cons.mpr ⟨s_icmp_eq C0 dX11_put_71 rfl, fun _ h => absurd h List.not_mem_nil⟩⟩⟩⟩⟩⟩⟩⟩⟩⟩⟩⟩⟩⟩⟩⟩⟩⟩⟩⟩⟩⟩⟩⟩⟩⟩⟩⟩⟩⟩⟩⟩⟩⟩⟩⟩⟩⟩⟩⟩
set_option maxRecDepth 10000 in
theorem hX11_put_1 (l : Launch) {p : Program} {e : Env} {s : State} {m : MethodId} {args : Array Value} {below : List Frame} {meth : Method} {c : Code} {D : va_G} {ad adV : Nat → Nat} {cA : Nat → ClassId} {K : Kt} (C0 : Cx p s m args meth c D ad adV cA cX11_put 6 RX11) (hr : meth.sig.returnType = (some .int)) : ∀ q ∈ lX11_put_1, Sd p l e (rmd 4) s m args below meth c (MQ below (QQ D ad cA K) args s 0 0 (AA ad)) D ad cA 6 q.1 (opOf K q.2) := List.forall_mem_cons.mpr ⟨s_iload_n C0 dX11_put_74 rfl, List.forall_mem_cons.mpr ⟨s_aload_n C0 dX11_put_75 rfl, List.forall_mem_cons.mpr ⟨s_iload_n C0 dX11_put_76 rfl, List.forall_mem_cons.mpr ⟨s_callV (ci := 11) C0 (kX11_leftOf l) dX11_put_77 rfl qX11_leftOf tw7_18 tw7_20 twp_67 tw1_12 tw7_21 rfl (by decide) (by decide), List.forall_mem_cons.mpr ⟨s_icmp_le C0 dX11_put_80 rfl, List.forall_mem_cons.mpr ⟨s_iconst C0 dX11_put_83 rfl, List.forall_mem_cons.mpr ⟨s_goto C0 dX11_put_84 rfl, List.forall_mem_cons.mpr ⟨s_aload_n C0 dX11_put_87 rfl, List.forall_mem_cons.mpr ⟨s_iload_n C0 dX11_put_88 rfl, List.forall_mem_cons.mpr ⟨s_iload_n C0 dX11_put_89 rfl, List.forall_mem_cons.mpr ⟨s_callV (ci := 11) C0 (kX11_isIn l) dX11_put_90 rfl qX11_isIn tw7_74 tw7_76 twp_75 tw1_12 tw7_77 rfl (by decide) (by decide), List.forall_mem_cons.mpr ⟨s_if_ne C0 dX11_put_93 rfl, List.forall_mem_cons.mpr ⟨s_iload C0 dX11_put_96, List.forall_mem_cons.mpr ⟨s_if_ne C0 dX11_put_98 rfl, List.forall_mem_cons.mpr ⟨s_aload_n C0 dX11_put_101 rfl, List.forall_mem_cons.mpr ⟨s_iload_n C0 dX11_put_102 rfl, List.forall_mem_cons.mpr ⟨s_iload_n C0 dX11_put_103 rfl, List.forall_mem_cons.mpr ⟨s_iload_n C0 dX11_put_104 rfl, List.forall_mem_cons.mpr ⟨s_callV (ci := 11) C0 (kX11_isAloneAllowed l) dX11_put_105 rfl qX11_isAloneAllowed tw7_137 tw7_139 twp_83 tw1_12 tw7_140 rfl (by decide) (by decide), List.forall_mem_cons.mpr ⟨s_if_ne C0 dX11_put_108 rfl, List.forall_mem_cons.mpr ⟨s_iconst C0 dX11_put_111 rfl, List.forall_mem_cons.mpr ⟨s_goto C0 dX11_put_112 rfl, List.forall_mem_cons.mpr ⟨s_iconst C0 dX11_put_115 rfl, List.forall_mem_cons.mpr ⟨s_istore C0 dX11_put_116 (by decide), List.forall_mem_cons.mpr ⟨s_aload_n C0 dX11_put_118 rfl, List.forall_mem_cons.mpr ⟨s_iload C0 dX11_put_119, List.forall_mem_cons.mpr ⟨s_callV (ci := 11) C0 (kX11_isRefused l) dX11_put_121 rfl qX11_isRefused tw6_118 tw6_120 twp_41 tw1_12 tw6_121 rfl (by decide) (by decide), List.forall_mem_cons.mpr ⟨s_if_eq C0 dX11_put_124 rfl, List.forall_mem_cons.mpr ⟨s_iconst C0 dX11_put_127 rfl, List.forall_mem_cons.mpr ⟨s_iret C0 hr dX11_put_128, List.forall_mem_cons.mpr ⟨s_aload_n C0 dX11_put_129 rfl, List.forall_mem_cons.mpr ⟨s_callV (ci := 11) C0 (kX11_remembers l) dX11_put_130 rfl qX11_remembers tw7_209 tw7_211 twp_86 tw1_12 tw7_212 rfl (by decide) (by decide), List.forall_mem_cons.mpr ⟨s_aload_n C0 dX11_put_133 rfl, List.forall_mem_cons.mpr ⟨s_iload_n C0 dX11_put_134 rfl, List.forall_mem_cons.mpr ⟨s_iload_n C0 dX11_put_135 rfl, List.forall_mem_cons.mpr ⟨s_iload_n C0 dX11_put_136 rfl, List.forall_mem_cons.mpr ⟨s_callV (ci := 11) C0 (kX11_comes l) dX11_put_137 rfl qX11_comes tw7_213 tw7_215 twp_87 tw1_12 tw7_216 rfl (by decide) (by decide), List.forall_mem_cons.mpr ⟨s_aload_n C0 dX11_put_140 rfl, List.forall_mem_cons.mpr ⟨s_get (ci := 11) (k := 7) C0 dX11_put_141 inX11 rfl (by decide) tw6_18, List.forall_mem_cons.mpr ⟨s_bipush C0 dX11_put_144 (by decide +kernel), fun _ h => absurd h List.not_mem_nil⟩⟩⟩⟩⟩⟩⟩⟩⟩⟩⟩⟩⟩⟩⟩⟩⟩⟩⟩⟩⟩⟩⟩⟩⟩⟩⟩⟩⟩⟩⟩⟩⟩⟩⟩⟩⟩⟩⟩⟩
set_option maxRecDepth 10000 in
theorem hX11_put_2 (l : Launch) {p : Program} {e : Env} {s : State} {m : MethodId} {args : Array Value} {below : List Frame} {meth : Method} {c : Code} {D : va_G} {ad adV : Nat → Nat} {cA : Nat → ClassId} {K : Kt} (C0 : Cx p s m args meth c D ad adV cA cX11_put 6 RX11) (hr : meth.sig.returnType = (some .int)) : ∀ q ∈ lX11_put_2, Sd p l e (rmd 4) s m args below meth c (MQ below (QQ D ad cA K) args s 0 0 (AA ad)) D ad cA 6 q.1 (opOf K q.2) := List.forall_mem_cons.mpr ⟨s_iload_n C0 dX11_put_146 rfl, List.forall_mem_cons.mpr ⟨s_iadd C0 dX11_put_147, List.forall_mem_cons.mpr ⟨s_iald C0 dX11_put_148, List.forall_mem_cons.mpr ⟨s_iret C0 hr dX11_put_149, fun _ h => absurd h List.not_mem_nil⟩⟩⟩⟩
def fX11_put : Mf := mf 6 (fun K => tl K lX11_put)
theorem kX11_put (l : Launch) : Okm l yX11_put cX11_put 6 (some .int) 4 fX11_put := Okm_tl (own := RX11) (by decide +kernel) rfl (fun C0 hr => List.forall_mem_append.mpr ⟨hX11_put_0 l C0 hr, List.forall_mem_append.mpr ⟨hX11_put_1 l C0 hr, hX11_put_2 l C0 hr⟩⟩)
