theorem dX10_feed_0 : decode cX10_feed 0 = .ok (.aload_n 0, 1) := by decide +kernel
theorem dX10_feed_1 : decode cX10_feed 1 = .ok (.getfield 12, 3) := by decide +kernel
theorem dX10_feed_4 : decode cX10_feed 4 = .ok (.getfield 97, 3) := by decide +kernel
theorem dX10_feed_7 : decode cX10_feed 7 = .ok (.bipush 20, 2) := by decide +kernel
theorem dX10_feed_9 : decode cX10_feed 9 = .ok (.iadd, 1) := by decide +kernel
theorem dX10_feed_10 : decode cX10_feed 10 = .ok (.sipush 800, 3) := by decide +kernel
theorem dX10_feed_13 : decode cX10_feed 13 = .ok (.if_icmp .le 5, 3) := by decide +kernel
theorem dX10_feed_16 : decode cX10_feed 16 = .ok (.iconst (-1), 1) := by decide +kernel
theorem dX10_feed_17 : decode cX10_feed 17 = .ok (.ireturn, 1) := by decide +kernel
theorem dX10_feed_18 : decode cX10_feed 18 = .ok (.aload_n 0, 1) := by decide +kernel
theorem dX10_feed_19 : decode cX10_feed 19 = .ok (.getfield 12, 3) := by decide +kernel
theorem dX10_feed_22 : decode cX10_feed 22 = .ok (.iload_n 1, 1) := by decide +kernel
theorem dX10_feed_23 : decode cX10_feed 23 = .ok (.invokevirtual 100, 3) := by decide +kernel
theorem dX10_feed_26 : decode cX10_feed 26 = .ok (.aload_n 0, 1) := by decide +kernel
theorem dX10_feed_27 : decode cX10_feed 27 = .ok (.getfield 12, 3) := by decide +kernel
theorem dX10_feed_30 : decode cX10_feed 30 = .ok (.iload_n 2, 1) := by decide +kernel
theorem dX10_feed_31 : decode cX10_feed 31 = .ok (.invokevirtual 100, 3) := by decide +kernel
theorem dX10_feed_34 : decode cX10_feed 34 = .ok (.aload_n 0, 1) := by decide +kernel
theorem dX10_feed_35 : decode cX10_feed 35 = .ok (.getfield 12, 3) := by decide +kernel
theorem dX10_feed_38 : decode cX10_feed 38 = .ok (.iload_n 3, 1) := by decide +kernel
theorem dX10_feed_39 : decode cX10_feed 39 = .ok (.invokevirtual 100, 3) := by decide +kernel
theorem dX10_feed_42 : decode cX10_feed 42 = .ok (.aload_n 0, 1) := by decide +kernel
theorem dX10_feed_43 : decode cX10_feed 43 = .ok (.getfield 12, 3) := by decide +kernel
theorem dX10_feed_46 : decode cX10_feed 46 = .ok (.iload 4, 2) := by decide +kernel
theorem dX10_feed_48 : decode cX10_feed 48 = .ok (.invokevirtual 100, 3) := by decide +kernel
theorem dX10_feed_51 : decode cX10_feed 51 = .ok (.aload_n 0, 1) := by decide +kernel
theorem dX10_feed_52 : decode cX10_feed 52 = .ok (.getfield 12, 3) := by decide +kernel
theorem dX10_feed_55 : decode cX10_feed 55 = .ok (.iload 5, 2) := by decide +kernel
theorem dX10_feed_57 : decode cX10_feed 57 = .ok (.invokevirtual 100, 3) := by decide +kernel
theorem dX10_feed_60 : decode cX10_feed 60 = .ok (.aload_n 0, 1) := by decide +kernel
theorem dX10_feed_61 : decode cX10_feed 61 = .ok (.getfield 12, 3) := by decide +kernel
theorem dX10_feed_64 : decode cX10_feed 64 = .ok (.getfield 97, 3) := by decide +kernel
theorem dX10_feed_67 : decode cX10_feed 67 = .ok (.ireturn, 1) := by decide +kernel
def lX10_feed : List (Nat × (Op ⊕ Nat)) := [(0, .inl (o_aload 0 1)), (1, .inl (o_get 10 0 4)), (4, .inl (o_get 8 1 7)), (7, .inl (o_pushI (nI 20) 9)), (9, .inl (o_iadd 10)), (10, .inl (o_pushI (nI 800) 13)), (13, .inl (o_icmp_le 18 16)), (16, .inl (o_pushI ((-1)) 17)), (17, .inr 0), (18, .inl (o_aload 0 19)), (19, .inl (o_get 10 0 22)), (22, .inl (o_iload 1 23)), (23, .inl (o_callV fX8_append 1 8 26)), (26, .inl (o_aload 0 27)), (27, .inl (o_get 10 0 30)), (30, .inl (o_iload 2 31)), (31, .inl (o_callV fX8_append 1 8 34)), (34, .inl (o_aload 0 35)), (35, .inl (o_get 10 0 38)), (38, .inl (o_iload 3 39)), (39, .inl (o_callV fX8_append 1 8 42)), (42, .inl (o_aload 0 43)), (43, .inl (o_get 10 0 46)), (46, .inl (o_iload 4 48)), (48, .inl (o_callV fX8_append 1 8 51)), (51, .inl (o_aload 0 52)), (52, .inl (o_get 10 0 55)), (55, .inl (o_iload 5 57)), (57, .inl (o_callV fX8_append 1 8 60)), (60, .inl (o_aload 0 61)), (61, .inl (o_get 10 0 64)), (64, .inl (o_get 8 1 67)), (67, .inr 0)]
theorem qX10_feed : yX10_feed.cls = RX10 ∧ yX10_feed.cls ≠ "java/lang/invoke/MethodHandle" ∧ yX10_feed.cls ≠ "java/lang/invoke/VarHandle" ∧ (parseMethodDescriptor yX10_feed.desc).map (fun d => d.parameters.length) = some 5 := by decide +kernel
set_option maxRecDepth 10000 in
theorem hX10_feed_0 (l : Launch) {p : Program} {e : Env} {s : State} {m : MethodId} {args : Array Value} {below : List Frame} {meth : Method} {c : Code} {D : va_G} {ad adV : Nat → Nat} {cA : Nat → ClassId} {K : Kt} (C0 : Cx p s m args meth c D ad adV cA cX10_feed 6 RX10) (hr : meth.sig.returnType = (some .int)) : ∀ q ∈ lX10_feed, Sd p l e (rmd 1) s m args below meth c (MQ below (QQ D ad cA K) args s 0 0 (AA ad)) D ad cA 6 q.1 (opOf K q.2) := List.forall_mem_cons.mpr ⟨s_aload_n C0 dX10_feed_0 rfl, List.forall_mem_cons.mpr ⟨s_get (ci := 10) (k := 0) C0 dX10_feed_1 inX10 rfl (by decide) tw2_118, List.forall_mem_cons.mpr ⟨s_get (ci := 8) (k := 1) C0 dX10_feed_4 inX8 rfl (by decide) tw1_39, List.forall_mem_cons.mpr ⟨s_bipush C0 dX10_feed_7 (by decide +kernel), List.forall_mem_cons.mpr ⟨s_iadd C0 dX10_feed_9, List.forall_mem_cons.mpr ⟨s_sipush C0 dX10_feed_10 (by decide +kernel), List.forall_mem_cons.mpr ⟨s_icmp_le C0 dX10_feed_13 rfl, List.forall_mem_cons.mpr ⟨s_iconst C0 dX10_feed_16 rfl, List.forall_mem_cons.mpr ⟨s_iret C0 hr dX10_feed_17, List.forall_mem_cons.mpr ⟨s_aload_n C0 dX10_feed_18 rfl, List.forall_mem_cons.mpr ⟨s_get (ci := 10) (k := 0) C0 dX10_feed_19 inX10 rfl (by decide) tw2_118, List.forall_mem_cons.mpr ⟨s_iload_n C0 dX10_feed_22 rfl, List.forall_mem_cons.mpr ⟨s_callV (ci := 8) C0 (kX8_append l) dX10_feed_23 rfl qX8_append tw2_162 tw2_163 tw2_164 tw1_2 tw2_165 rfl (by decide) (by decide), List.forall_mem_cons.mpr ⟨s_aload_n C0 dX10_feed_26 rfl, List.forall_mem_cons.mpr ⟨s_get (ci := 10) (k := 0) C0 dX10_feed_27 inX10 rfl (by decide) tw2_118, List.forall_mem_cons.mpr ⟨s_iload_n C0 dX10_feed_30 rfl, List.forall_mem_cons.mpr ⟨s_callV (ci := 8) C0 (kX8_append l) dX10_feed_31 rfl qX8_append tw2_162 tw2_163 tw2_164 tw1_2 tw2_165 rfl (by decide) (by decide), List.forall_mem_cons.mpr ⟨s_aload_n C0 dX10_feed_34 rfl, List.forall_mem_cons.mpr ⟨s_get (ci := 10) (k := 0) C0 dX10_feed_35 inX10 rfl (by decide) tw2_118, List.forall_mem_cons.mpr ⟨s_iload_n C0 dX10_feed_38 rfl, List.forall_mem_cons.mpr ⟨s_callV (ci := 8) C0 (kX8_append l) dX10_feed_39 rfl qX8_append tw2_162 tw2_163 tw2_164 tw1_2 tw2_165 rfl (by decide) (by decide), List.forall_mem_cons.mpr ⟨s_aload_n C0 dX10_feed_42 rfl, List.forall_mem_cons.mpr ⟨s_get (ci := 10) (k := 0) C0 dX10_feed_43 inX10 rfl (by decide) tw2_118, List.forall_mem_cons.mpr ⟨s_iload C0 dX10_feed_46, List.forall_mem_cons.mpr ⟨s_callV (ci := 8) C0 (kX8_append l) dX10_feed_48 rfl qX8_append tw2_162 tw2_163 tw2_164 tw1_2 tw2_165 rfl (by decide) (by decide), List.forall_mem_cons.mpr ⟨s_aload_n C0 dX10_feed_51 rfl, List.forall_mem_cons.mpr ⟨s_get (ci := 10) (k := 0) C0 dX10_feed_52 inX10 rfl (by decide) tw2_118, List.forall_mem_cons.mpr ⟨s_iload C0 dX10_feed_55, List.forall_mem_cons.mpr ⟨s_callV (ci := 8) C0 (kX8_append l) dX10_feed_57 rfl qX8_append tw2_162 tw2_163 tw2_164 tw1_2 tw2_165 rfl (by decide) (by decide), List.forall_mem_cons.mpr ⟨s_aload_n C0 dX10_feed_60 rfl, List.forall_mem_cons.mpr ⟨s_get (ci := 10) (k := 0) C0 dX10_feed_61 inX10 rfl (by decide) tw2_118, List.forall_mem_cons.mpr ⟨s_get (ci := 8) (k := 1) C0 dX10_feed_64 inX8 rfl (by decide) tw1_39, List.forall_mem_cons.mpr ⟨s_iret C0 hr dX10_feed_67, fun _ h => absurd h List.not_mem_nil⟩⟩⟩⟩⟩⟩⟩⟩⟩⟩⟩⟩⟩⟩⟩⟩⟩⟩⟩⟩⟩⟩⟩⟩⟩⟩⟩⟩⟩⟩⟩⟩⟩
def fX10_feed : Mf := mf 6 (fun K => tl K lX10_feed)
theorem kX10_feed (l : Launch) : Okm l yX10_feed cX10_feed 6 (some .int) 1 fX10_feed := Okm_tl (own := RX10) (by decide +kernel) rfl (fun C0 hr => hX10_feed_0 l C0 hr)
theorem dX10_refuse_0 : decode cX10_refuse 0 = .ok (.aload_n 0, 1) := by decide +kernel
theorem dX10_refuse_1 : decode cX10_refuse 1 = .ok (.iload_n 1, 1) := by decide +kernel
theorem dX10_refuse_2 : decode cX10_refuse 2 = .ok (.putfield 87, 3) := by decide +kernel
theorem dX10_refuse_5 : decode cX10_refuse 5 = .ok (.aload_n 0, 1) := by decide +kernel
theorem dX10_refuse_6 : decode cX10_refuse 6 = .ok (.iconst (-1), 1) := by decide +kernel
theorem dX10_refuse_7 : decode cX10_refuse 7 = .ok (.putfield 94, 3) := by decide +kernel
theorem dX10_refuse_10 : decode cX10_refuse 10 = .ok (.iconst (-1), 1) := by decide +kernel
theorem dX10_refuse_11 : decode cX10_refuse 11 = .ok (.ireturn, 1) := by decide +kernel
def lX10_refuse : List (Nat × (Op ⊕ Nat)) := [(0, .inl (o_aload 0 1)), (1, .inl (o_iload 1 2)), (2, .inl (o_putI 10 10 5)), (5, .inl (o_aload 0 6)), (6, .inl (o_pushI ((-1)) 7)), (7, .inl (o_putI 10 12 10)), (10, .inl (o_pushI ((-1)) 11)), (11, .inr 0)]
theorem qX10_refuse : yX10_refuse.cls = RX10 ∧ yX10_refuse.cls ≠ "java/lang/invoke/MethodHandle" ∧ yX10_refuse.cls ≠ "java/lang/invoke/VarHandle" ∧ (parseMethodDescriptor yX10_refuse.desc).map (fun d => d.parameters.length) = some 1 := by decide +kernel
set_option maxRecDepth 10000 in
theorem hX10_refuse_0 (l : Launch) {p : Program} {e : Env} {s : State} {m : MethodId} {args : Array Value} {below : List Frame} {meth : Method} {c : Code} {D : va_G} {ad adV : Nat → Nat} {cA : Nat → ClassId} {K : Kt} (C0 : Cx p s m args meth c D ad adV cA cX10_refuse 2 RX10) (hr : meth.sig.returnType = (some .int)) : ∀ q ∈ lX10_refuse, Sd p l e (rmd 0) s m args below meth c (MQ below (QQ D ad cA K) args s 0 0 (AA ad)) D ad cA 2 q.1 (opOf K q.2) := List.forall_mem_cons.mpr ⟨s_aload_n C0 dX10_refuse_0 rfl, List.forall_mem_cons.mpr ⟨s_iload_n C0 dX10_refuse_1 rfl, List.forall_mem_cons.mpr ⟨s_putI (ci := 10) (k := 10) C0 dX10_refuse_2 inX10 tyX10_ok nmX10 rfl (by decide) rfl rfl tw2_128, List.forall_mem_cons.mpr ⟨s_aload_n C0 dX10_refuse_5 rfl, List.forall_mem_cons.mpr ⟨s_iconst C0 dX10_refuse_6 rfl, List.forall_mem_cons.mpr ⟨s_putI (ci := 10) (k := 12) C0 dX10_refuse_7 inX10 tyX10_ok nmX10 rfl (by decide) rfl rfl tw2_130, List.forall_mem_cons.mpr ⟨s_iconst C0 dX10_refuse_10 rfl, List.forall_mem_cons.mpr ⟨s_iret C0 hr dX10_refuse_11, fun _ h => absurd h List.not_mem_nil⟩⟩⟩⟩⟩⟩⟩⟩
def fX10_refuse : Mf := mf 2 (fun K => tl K lX10_refuse)
theorem kX10_refuse (l : Launch) : Okm l yX10_refuse cX10_refuse 2 (some .int) 0 fX10_refuse := Okm_tl (own := RX10) (by decide +kernel) rfl (fun C0 hr => hX10_refuse_0 l C0 hr)
theorem dX10_answer_0 : decode cX10_answer 0 = .ok (.aload_n 0, 1) := by decide +kernel
theorem dX10_answer_1 : decode cX10_answer 1 = .ok (.iconst 0, 1) := by decide +kernel
theorem dX10_answer_2 : decode cX10_answer 2 = .ok (.putfield 87, 3) := by decide +kernel
theorem dX10_answer_5 : decode cX10_answer 5 = .ok (.aload_n 0, 1) := by decide +kernel
theorem dX10_answer_6 : decode cX10_answer 6 = .ok (.iconst (-1), 1) := by decide +kernel
theorem dX10_answer_7 : decode cX10_answer 7 = .ok (.putfield 94, 3) := by decide +kernel
theorem dX10_answer_10 : decode cX10_answer 10 = .ok (.iload_n 1, 1) := by decide +kernel
theorem dX10_answer_11 : decode cX10_answer 11 = .ok (.ireturn, 1) := by decide +kernel
def lX10_answer : List (Nat × (Op ⊕ Nat)) := [(0, .inl (o_aload 0 1)), (1, .inl (o_pushI (nI 0) 2)), (2, .inl (o_putI 10 10 5)), (5, .inl (o_aload 0 6)), (6, .inl (o_pushI ((-1)) 7)), (7, .inl (o_putI 10 12 10)), (10, .inl (o_iload 1 11)), (11, .inr 0)]
theorem qX10_answer : yX10_answer.cls = RX10 ∧ yX10_answer.cls ≠ "java/lang/invoke/MethodHandle" ∧ yX10_answer.cls ≠ "java/lang/invoke/VarHandle" ∧ (parseMethodDescriptor yX10_answer.desc).map (fun d => d.parameters.length) = some 1 := by decide +kernel
set_option maxRecDepth 10000 in
theorem hX10_answer_0 (l : Launch) {p : Program} {e : Env} {s : State} {m : MethodId} {args : Array Value} {below : List Frame} {meth : Method} {c : Code} {D : va_G} {ad adV : Nat → Nat} {cA : Nat → ClassId} {K : Kt} (C0 : Cx p s m args meth c D ad adV cA cX10_answer 2 RX10) (hr : meth.sig.returnType = (some .int)) : ∀ q ∈ lX10_answer, Sd p l e (rmd 0) s m args below meth c (MQ below (QQ D ad cA K) args s 0 0 (AA ad)) D ad cA 2 q.1 (opOf K q.2) := List.forall_mem_cons.mpr ⟨s_aload_n C0 dX10_answer_0 rfl, List.forall_mem_cons.mpr ⟨s_iconst C0 dX10_answer_1 rfl, List.forall_mem_cons.mpr ⟨s_putI (ci := 10) (k := 10) C0 dX10_answer_2 inX10 tyX10_ok nmX10 rfl (by decide) rfl rfl tw2_128, List.forall_mem_cons.mpr ⟨s_aload_n C0 dX10_answer_5 rfl, List.forall_mem_cons.mpr ⟨s_iconst C0 dX10_answer_6 rfl, List.forall_mem_cons.mpr ⟨s_putI (ci := 10) (k := 12) C0 dX10_answer_7 inX10 tyX10_ok nmX10 rfl (by decide) rfl rfl tw2_130, List.forall_mem_cons.mpr ⟨s_iload_n C0 dX10_answer_10 rfl, List.forall_mem_cons.mpr ⟨s_iret C0 hr dX10_answer_11, fun _ h => absurd h List.not_mem_nil⟩⟩⟩⟩⟩⟩⟩⟩
def fX10_answer : Mf := mf 2 (fun K => tl K lX10_answer)
theorem kX10_answer (l : Launch) : Okm l yX10_answer cX10_answer 2 (some .int) 0 fX10_answer := Okm_tl (own := RX10) (by decide +kernel) rfl (fun C0 hr => hX10_answer_0 l C0 hr)
theorem dX10_text_0 : decode cX10_text 0 = .ok (.iload_n 1, 1) := by decide +kernel
theorem dX10_text_1 : decode cX10_text 1 = .ok (.iconst 0, 1) := by decide +kernel
theorem dX10_text_2 : decode cX10_text 2 = .ok (.aload_n 0, 1) := by decide +kernel
theorem dX10_text_3 : decode cX10_text 3 = .ok (.getfield 12, 3) := by decide +kernel
theorem dX10_text_6 : decode cX10_text 6 = .ok (.getfield 97, 3) := by decide +kernel
theorem dX10_text_9 : decode cX10_text 9 = .ok (.invokestatic 104, 3) := by decide +kernel
theorem dX10_text_12 : decode cX10_text 12 = .ok (.ifCond .ne 9, 3) := by decide +kernel
theorem dX10_text_15 : decode cX10_text 15 = .ok (.aload_n 0, 1) := by decide +kernel
theorem dX10_text_16 : decode cX10_text 16 = .ok (.iconst 2, 1) := by decide +kernel
theorem dX10_text_17 : decode cX10_text 17 = .ok (.invokevirtual 108, 3) := by decide +kernel
theorem dX10_text_20 : decode cX10_text 20 = .ok (.ireturn, 1) := by decide +kernel
theorem dX10_text_21 : decode cX10_text 21 = .ok (.aload_n 0, 1) := by decide +kernel
theorem dX10_text_22 : decode cX10_text 22 = .ok (.getfield 21, 3) := by decide +kernel
theorem dX10_text_25 : decode cX10_text 25 = .ok (.iload_n 1, 1) := by decide +kernel
theorem dX10_text_26 : decode cX10_text 26 = .ok (.invokevirtual 112, 3) := by decide +kernel
theorem dX10_text_29 : decode cX10_text 29 = .ok (.istore_n 2, 1) := by decide +kernel
theorem dX10_text_30 : decode cX10_text 30 = .ok (.aload_n 0, 1) := by decide +kernel
theorem dX10_text_31 : decode cX10_text 31 = .ok (.getfield 12, 3) := by decide +kernel
theorem dX10_text_34 : decode cX10_text 34 = .ok (.iconst 0, 1) := by decide +kernel
theorem dX10_text_35 : decode cX10_text 35 = .ok (.putfield 97, 3) := by decide +kernel
theorem dX10_text_38 : decode cX10_text 38 = .ok (.aload_n 0, 1) := by decide +kernel
theorem dX10_text_39 : decode cX10_text 39 = .ok (.aload_n 0, 1) := by decide +kernel
theorem dX10_text_40 : decode cX10_text 40 = .ok (.getfield 21, 3) := by decide +kernel
theorem dX10_text_43 : decode cX10_text 43 = .ok (.getfield 116, 3) := by decide +kernel
theorem dX10_text_46 : decode cX10_text 46 = .ok (.putfield 91, 3) := by decide +kernel
theorem dX10_text_49 : decode cX10_text 49 = .ok (.iload_n 2, 1) := by decide +kernel
theorem dX10_text_50 : decode cX10_text 50 = .ok (.ifCond .ne 22, 3) := by decide +kernel
theorem dX10_text_53 : decode cX10_text 53 = .ok (.aload_n 0, 1) := by decide +kernel
theorem dX10_text_54 : decode cX10_text 54 = .ok (.iconst 4, 1) := by decide +kernel
theorem dX10_text_55 : decode cX10_text 55 = .ok (.invokevirtual 108, 3) := by decide +kernel
theorem dX10_text_58 : decode cX10_text 58 = .ok (.pop, 1) := by decide +kernel
theorem dX10_text_59 : decode cX10_text 59 = .ok (.aload_n 0, 1) := by decide +kernel
theorem dX10_text_60 : decode cX10_text 60 = .ok (.aload_n 0, 1) := by decide +kernel
theorem dX10_text_61 : decode cX10_text 61 = .ok (.getfield 21, 3) := by decide +kernel
theorem dX10_text_64 : decode cX10_text 64 = .ok (.getfield 119, 3) := by decide +kernel
theorem dX10_text_67 : decode cX10_text 67 = .ok (.putfield 94, 3) := by decide +kernel
theorem dX10_text_70 : decode cX10_text 70 = .ok (.iconst (-1), 1) := by decide +kernel
theorem dX10_text_71 : decode cX10_text 71 = .ok (.ireturn, 1) := by decide +kernel
theorem dX10_text_72 : decode cX10_text 72 = .ok (.aload_n 0, 1) := by decide +kernel
theorem dX10_text_73 : decode cX10_text 73 = .ok (.getfield 28, 3) := by decide +kernel
theorem dX10_text_76 : decode cX10_text 76 = .ok (.aload_n 0, 1) := by decide +kernel
theorem dX10_text_77 : decode cX10_text 77 = .ok (.getfield 21, 3) := by decide +kernel
theorem dX10_text_80 : decode cX10_text 80 = .ok (.getfield 122, 3) := by decide +kernel
theorem dX10_text_83 : decode cX10_text 83 = .ok (.invokevirtual 125, 3) := by decide +kernel
theorem dX10_text_86 : decode cX10_text 86 = .ok (.aload_n 0, 1) := by decide +kernel
theorem dX10_text_87 : decode cX10_text 87 = .ok (.getfield 35, 3) := by decide +kernel
theorem dX10_text_90 : decode cX10_text 90 = .ok (.invokevirtual 129, 3) := by decide +kernel
theorem dX10_text_93 : decode cX10_text 93 = .ok (.aload_n 0, 1) := by decide +kernel
theorem dX10_text_94 : decode cX10_text 94 = .ok (.getfield 83, 3) := by decide +kernel
theorem dX10_text_97 : decode cX10_text 97 = .ok (.iconst 0, 1) := by decide +kernel
theorem dX10_text_98 : decode cX10_text 98 = .ok (.putfield 132, 3) := by decide +kernel
theorem dX10_text_101 : decode cX10_text 101 = .ok (.aload_n 0, 1) := by decide +kernel
theorem dX10_text_102 : decode cX10_text 102 = .ok (.aload_n 0, 1) := by decide +kernel
theorem dX10_text_103 : decode cX10_text 103 = .ok (.getfield 28, 3) := by decide +kernel
theorem dX10_text_106 : decode cX10_text 106 = .ok (.getfield 135, 3) := by decide +kernel
theorem dX10_text_109 : decode cX10_text 109 = .ok (.invokevirtual 138, 3) := by decide +kernel
theorem dX10_text_112 : decode cX10_text 112 = .ok (.ireturn, 1) := by decide +kernel
def lX10_text_0 : List (Nat × (Op ⊕ Nat)) := [(0, .inl (o_iload 1 1)), (1, .inl (o_pushI (nI 0) 2)), (2, .inl (o_aload 0 3)), (3, .inl (o_get 10 0 6)), (6, .inl (o_get 8 1 9)), (9, .inl (o_callS fX10_within 3 12)), (12, .inl (o_if_ne 21 15)), (15, .inl (o_aload 0 16)), (16, .inl (o_pushI (nI 2) 17)), (17, .inl (o_callV fX10_refuse 1 10 20)), (20, .inr 0), (21, .inl (o_aload 0 22)), (22, .inl (o_get 10 1 25)), (25, .inl (o_iload 1 26)), (26, .inl (o_callV fX6_read 1 6 29)), (29, .inl (o_istore 2 30)), (30, .inl (o_aload 0 31)), (31, .inl (o_get 10 0 34)), (34, .inl (o_pushI (nI 0) 35)), (35, .inl (o_putI 8 1 38)), (38, .inl (o_aload 0 39)), (39, .inl (o_aload 0 40)), (40, .inl (o_get 10 1 43)), (43, .inl (o_get 6 3 46)), (46, .inl (o_putI 10 11 49)), (49, .inl (o_iload 2 50)), (50, .inl (o_if_ne 72 53)), (53, .inl (o_aload 0 54)), (54, .inl (o_pushI (nI 4) 55)), (55, .inl (o_callV fX10_refuse 1 10 58)), (58, .inl (o_pop 59)), (59, .inl (o_aload 0 60)), (60, .inl (o_aload 0 61)), (61, .inl (o_get 10 1 64)), (64, .inl (o_get 6 4 67)), (67, .inl (o_putI 10 12 70)), (70, .inl (o_pushI ((-1)) 71)), (71, .inr 0), (72, .inl (o_aload 0 73)), (73, .inl (o_get 10 2 76))]
def lX10_text_1 : List (Nat × (Op ⊕ Nat)) := [(76, .inl (o_aload 0 77)), (77, .inl (o_get 10 1 80)), (80, .inl (o_get 6 2 83)), (83, .inl (o_callV fX9_copyFrom 1 9 86)), (86, .inl (o_aload 0 87)), (87, .inl (o_get 10 3 90)), (90, .inl (o_callV fX5_empty 0 5 93)), (93, .inl (o_aload 0 94)), (94, .inl (o_get 10 9 97)), (97, .inl (o_pushI (nI 0) 98)), (98, .inl (o_putI 4 4 101)), (101, .inl (o_aload 0 102)), (102, .inl (o_aload 0 103)), (103, .inl (o_get 10 2 106)), (106, .inl (o_get 9 4 109)), (109, .inl (o_callV fX10_answer 1 10 112)), (112, .inr 0)]
def lX10_text : List (Nat × (Op ⊕ Nat)) := lX10_text_0 ++ (lX10_text_1)
theorem qX10_text : yX10_text.cls = RX10 ∧ yX10_text.cls ≠ "java/lang/invoke/MethodHandle" ∧ yX10_text.cls ≠ "java/lang/invoke/VarHandle" ∧ (parseMethodDescriptor yX10_text.desc).map (fun d => d.parameters.length) = some 1 := by decide +kernel
set_option maxRecDepth 10000 in
theorem hX10_text_0 (l : Launch) {p : Program} {e : Env} {s : State} {m : MethodId} {args : Array Value} {below : List Frame} {meth : Method} {c : Code} {D : va_G} {ad adV : Nat → Nat} {cA : Nat → ClassId} {K : Kt} (C0 : Cx p s m args meth c D ad adV cA cX10_text 3 RX10) (hr : meth.sig.returnType = (some .int)) : ∀ q ∈ lX10_text_0, Sd p l e (rmd 11) s m args below meth c (MQ below (QQ D ad cA K) args s 0 0 (AA ad)) D ad cA 3 q.1 (opOf K q.2) := List.forall_mem_cons.mpr ⟨s_iload_n C0 dX10_text_0 rfl, List.forall_mem_cons.mpr ⟨s_iconst C0 dX10_text_1 rfl, List.forall_mem_cons.mpr ⟨s_aload_n C0 dX10_text_2 rfl, List.forall_mem_cons.mpr ⟨s_get (ci := 10) (k := 0) C0 dX10_text_3 inX10 rfl (by decide) tw2_118, List.forall_mem_cons.mpr ⟨s_get (ci := 8) (k := 1) C0 dX10_text_6 inX8 rfl (by decide) tw1_39, List.forall_mem_cons.mpr ⟨s_callS C0 (kX10_within l) dX10_text_9 qX10_within tw2_170 tw2_171 tw1_1 tw2_172 rfl (by decide) (by decide), List.forall_mem_cons.mpr ⟨s_if_ne C0 dX10_text_12 rfl, List.forall_mem_cons.mpr ⟨s_aload_n C0 dX10_text_15 rfl, List.forall_mem_cons.mpr ⟨s_iconst C0 dX10_text_16 rfl, List.forall_mem_cons.mpr ⟨s_callV (ci := 10) C0 (kX10_refuse l) dX10_text_17 rfl qX10_refuse tw2_173 tw2_175 twp_0 tw1_1 tw2_176 rfl (by decide) (by decide), List.forall_mem_cons.mpr ⟨s_iret C0 hr dX10_text_20, List.forall_mem_cons.mpr ⟨s_aload_n C0 dX10_text_21 rfl, List.forall_mem_cons.mpr ⟨s_get (ci := 10) (k := 1) C0 dX10_text_22 inX10 rfl (by decide) tw2_119, List.forall_mem_cons.mpr ⟨s_iload_n C0 dX10_text_25 rfl, List.forall_mem_cons.mpr ⟨s_callV (ci := 6) C0 (kX6_read l) dX10_text_26 rfl qX6_read tw2_177 tw2_178 tw2_179 tw1_3 tw2_180 rfl (by decide) (by decide), List.forall_mem_cons.mpr ⟨s_istore_n C0 dX10_text_29 rfl (by decide), List.forall_mem_cons.mpr ⟨s_aload_n C0 dX10_text_30 rfl, List.forall_mem_cons.mpr ⟨s_get (ci := 10) (k := 0) C0 dX10_text_31 inX10 rfl (by decide) tw2_118, List.forall_mem_cons.mpr ⟨s_iconst C0 dX10_text_34 rfl, List.forall_mem_cons.mpr ⟨s_putI (ci := 8) (k := 1) C0 dX10_text_35 inX8 tyX8_ok nmX8 rfl (by decide) rfl rfl tw1_39, List.forall_mem_cons.mpr ⟨s_aload_n C0 dX10_text_38 rfl, List.forall_mem_cons.mpr ⟨s_aload_n C0 dX10_text_39 rfl, List.forall_mem_cons.mpr ⟨s_get (ci := 10) (k := 1) C0 dX10_text_40 inX10 rfl (by decide) tw2_119, List.forall_mem_cons.mpr ⟨s_get (ci := 6) (k := 3) C0 dX10_text_43 inX6 rfl (by decide) tw1_144, List.forall_mem_cons.mpr ⟨s_putI (ci := 10) (k := 11) C0 dX10_text_46 inX10 tyX10_ok nmX10 rfl (by decide) rfl rfl tw2_129, List.forall_mem_cons.mpr ⟨s_iload_n C0 dX10_text_49 rfl, List.forall_mem_cons.mpr ⟨s_if_ne C0 dX10_text_50 rfl, List.forall_mem_cons.mpr ⟨s_aload_n C0 dX10_text_53 rfl, List.forall_mem_cons.mpr ⟨s_iconst C0 dX10_text_54 rfl, List.forall_mem_cons.mpr ⟨s_callV (ci := 10) C0 (kX10_refuse l) dX10_text_55 rfl qX10_refuse tw2_173 tw2_175 twp_0 tw1_1 tw2_176 rfl (by decide) (by decide), List.forall_mem_cons.mpr ⟨s_pop C0 dX10_text_58, List.forall_mem_cons.mpr ⟨s_aload_n C0 dX10_text_59 rfl, List.forall_mem_cons.mpr ⟨s_aload_n C0 dX10_text_60 rfl, List.forall_mem_cons.mpr ⟨s_get (ci := 10) (k := 1) C0 dX10_text_61 inX10 rfl (by decide) tw2_119, List.forall_mem_cons.mpr ⟨s_get (ci := 6) (k := 4) C0 dX10_text_64 inX6 rfl (by decide) tw1_146, List.forall_mem_cons.mpr ⟨s_putI (ci := 10) (k := 12) C0 dX10_text_67 inX10 tyX10_ok nmX10 rfl (by decide) rfl rfl tw2_130, List.forall_mem_cons.mpr ⟨s_iconst C0 dX10_text_70 rfl, List.forall_mem_cons.mpr ⟨s_iret C0 hr dX10_text_71, List.forall_mem_cons.mpr ⟨s_aload_n C0 dX10_text_72 rfl, List.forall_mem_cons.mpr ⟨s_get (ci := 10) (k := 2) C0 dX10_text_73 inX10 rfl (by decide) tw2_120, fun _ h => absurd h List.not_mem_nil⟩⟩⟩⟩⟩⟩⟩⟩⟩⟩⟩⟩⟩⟩⟩⟩⟩⟩⟩⟩⟩⟩⟩⟩⟩⟩⟩⟩⟩⟩⟩⟩⟩⟩⟩⟩⟩⟩⟩⟩
set_option maxRecDepth 10000 in
theorem hX10_text_1 (l : Launch) {p : Program} {e : Env} {s : State} {m : MethodId} {args : Array Value} {below : List Frame} {meth : Method} {c : Code} {D : va_G} {ad adV : Nat → Nat} {cA : Nat → ClassId} {K : Kt} (C0 : Cx p s m args meth c D ad adV cA cX10_text 3 RX10) (hr : meth.sig.returnType = (some .int)) : ∀ q ∈ lX10_text_1, Sd p l e (rmd 11) s m args below meth c (MQ below (QQ D ad cA K) args s 0 0 (AA ad)) D ad cA 3 q.1 (opOf K q.2) := List.forall_mem_cons.mpr ⟨s_aload_n C0 dX10_text_76 rfl, List.forall_mem_cons.mpr ⟨s_get (ci := 10) (k := 1) C0 dX10_text_77 inX10 rfl (by decide) tw2_119, List.forall_mem_cons.mpr ⟨s_get (ci := 6) (k := 2) C0 dX10_text_80 inX6 rfl (by decide) tw1_142, List.forall_mem_cons.mpr ⟨s_callV (ci := 9) C0 (kX9_copyFrom l) dX10_text_83 rfl qX9_copyFrom tw3_111 tw3_112 tw3_113 tw1_4 tw3_114 rfl (by decide) (by decide), List.forall_mem_cons.mpr ⟨s_aload_n C0 dX10_text_86 rfl, List.forall_mem_cons.mpr ⟨s_get (ci := 10) (k := 3) C0 dX10_text_87 inX10 rfl (by decide) tw2_121, List.forall_mem_cons.mpr ⟨s_callV (ci := 5) C0 (kX5_empty l) dX10_text_90 rfl qX5_empty tw3_115 tw3_116 tw3_117 tw1_5 tw3_118 rfl (by decide) (by decide), List.forall_mem_cons.mpr ⟨s_aload_n C0 dX10_text_93 rfl, List.forall_mem_cons.mpr ⟨s_get (ci := 10) (k := 9) C0 dX10_text_94 inX10 rfl (by decide) tw2_127, List.forall_mem_cons.mpr ⟨s_iconst C0 dX10_text_97 rfl, List.forall_mem_cons.mpr ⟨s_putI (ci := 4) (k := 4) C0 dX10_text_98 inX4 tyX4_ok nmX4 rfl (by decide) rfl rfl tw2_106, List.forall_mem_cons.mpr ⟨s_aload_n C0 dX10_text_101 rfl, List.forall_mem_cons.mpr ⟨s_aload_n C0 dX10_text_102 rfl, List.forall_mem_cons.mpr ⟨s_get (ci := 10) (k := 2) C0 dX10_text_103 inX10 rfl (by decide) tw2_120, List.forall_mem_cons.mpr ⟨s_get (ci := 9) (k := 4) C0 dX10_text_106 inX9 rfl (by decide) tw1_95, List.forall_mem_cons.mpr ⟨s_callV (ci := 10) C0 (kX10_answer l) dX10_text_109 rfl qX10_answer tw3_139 tw3_141 twp_14 tw1_1 tw3_142 rfl (by decide) (by decide), List.forall_mem_cons.mpr ⟨s_iret C0 hr dX10_text_112, fun _ h => absurd h List.not_mem_nil⟩⟩⟩⟩⟩⟩⟩⟩⟩⟩⟩⟩⟩⟩⟩⟩⟩
def fX10_text : Mf := mf 3 (fun K => tl K lX10_text)
theorem kX10_text (l : Launch) : Okm l yX10_text cX10_text 3 (some .int) 11 fX10_text := Okm_tl (own := RX10) (by decide +kernel) rfl (fun C0 hr => List.forall_mem_append.mpr ⟨hX10_text_0 l C0 hr, hX10_text_1 l C0 hr⟩)
theorem dX10_fault_0 : decode cX10_fault 0 = .ok (.aload_n 0, 1) := by decide +kernel
theorem dX10_fault_1 : decode cX10_fault 1 = .ok (.getfield 91, 3) := by decide +kernel
theorem dX10_fault_4 : decode cX10_fault 4 = .ok (.ireturn, 1) := by decide +kernel
def lX10_fault : List (Nat × (Op ⊕ Nat)) := [(0, .inl (o_aload 0 1)), (1, .inl (o_get 10 11 4)), (4, .inr 0)]
theorem qX10_fault : yX10_fault.cls = RX10 ∧ yX10_fault.cls ≠ "java/lang/invoke/MethodHandle" ∧ yX10_fault.cls ≠ "java/lang/invoke/VarHandle" ∧ (parseMethodDescriptor yX10_fault.desc).map (fun d => d.parameters.length) = some 0 := by decide +kernel
set_option maxRecDepth 10000 in
theorem hX10_fault_0 (l : Launch) {p : Program} {e : Env} {s : State} {m : MethodId} {args : Array Value} {below : List Frame} {meth : Method} {c : Code} {D : va_G} {ad adV : Nat → Nat} {cA : Nat → ClassId} {K : Kt} (C0 : Cx p s m args meth c D ad adV cA cX10_fault 1 RX10) (hr : meth.sig.returnType = (some .int)) : ∀ q ∈ lX10_fault, Sd p l e (rmd 0) s m args below meth c (MQ below (QQ D ad cA K) args s 0 0 (AA ad)) D ad cA 1 q.1 (opOf K q.2) := List.forall_mem_cons.mpr ⟨s_aload_n C0 dX10_fault_0 rfl, List.forall_mem_cons.mpr ⟨s_get (ci := 10) (k := 11) C0 dX10_fault_1 inX10 rfl (by decide) tw2_129, List.forall_mem_cons.mpr ⟨s_iret C0 hr dX10_fault_4, fun _ h => absurd h List.not_mem_nil⟩⟩⟩
def fX10_fault : Mf := mf 1 (fun K => tl K lX10_fault)
theorem kX10_fault (l : Launch) : Okm l yX10_fault cX10_fault 1 (some .int) 0 fX10_fault := Okm_tl (own := RX10) (by decide +kernel) rfl (fun C0 hr => hX10_fault_0 l C0 hr)
theorem dX10_where_0 : decode cX10_where 0 = .ok (.aload_n 0, 1) := by decide +kernel
theorem dX10_where_1 : decode cX10_where 1 = .ok (.getfield 94, 3) := by decide +kernel
theorem dX10_where_4 : decode cX10_where 4 = .ok (.ireturn, 1) := by decide +kernel
def lX10_where : List (Nat × (Op ⊕ Nat)) := [(0, .inl (o_aload 0 1)), (1, .inl (o_get 10 12 4)), (4, .inr 0)]
theorem qX10_where : yX10_where.cls = RX10 ∧ yX10_where.cls ≠ "java/lang/invoke/MethodHandle" ∧ yX10_where.cls ≠ "java/lang/invoke/VarHandle" ∧ (parseMethodDescriptor yX10_where.desc).map (fun d => d.parameters.length) = some 0 := by decide +kernel
set_option maxRecDepth 10000 in
theorem hX10_where_0 (l : Launch) {p : Program} {e : Env} {s : State} {m : MethodId} {args : Array Value} {below : List Frame} {meth : Method} {c : Code} {D : va_G} {ad adV : Nat → Nat} {cA : Nat → ClassId} {K : Kt} (C0 : Cx p s m args meth c D ad adV cA cX10_where 1 RX10) (hr : meth.sig.returnType = (some .int)) : ∀ q ∈ lX10_where, Sd p l e (rmd 0) s m args below meth c (MQ below (QQ D ad cA K) args s 0 0 (AA ad)) D ad cA 1 q.1 (opOf K q.2) := List.forall_mem_cons.mpr ⟨s_aload_n C0 dX10_where_0 rfl, List.forall_mem_cons.mpr ⟨s_get (ci := 10) (k := 12) C0 dX10_where_1 inX10 rfl (by decide) tw2_130, List.forall_mem_cons.mpr ⟨s_iret C0 hr dX10_where_4, fun _ h => absurd h List.not_mem_nil⟩⟩⟩
def fX10_where : Mf := mf 1 (fun K => tl K lX10_where)
theorem kX10_where (l : Launch) : Okm l yX10_where cX10_where 1 (some .int) 0 fX10_where := Okm_tl (own := RX10) (by decide +kernel) rfl (fun C0 hr => hX10_where_0 l C0 hr)
theorem dX10_hasText_0 : decode cX10_hasText 0 = .ok (.aload_n 0, 1) := by decide +kernel
theorem dX10_hasText_1 : decode cX10_hasText 1 = .ok (.getfield 28, 3) := by decide +kernel
theorem dX10_hasText_4 : decode cX10_hasText 4 = .ok (.getfield 135, 3) := by decide +kernel
theorem dX10_hasText_7 : decode cX10_hasText 7 = .ok (.ifCond .le 7, 3) := by decide +kernel
theorem dX10_hasText_10 : decode cX10_hasText 10 = .ok (.iconst 1, 1) := by decide +kernel
theorem dX10_hasText_11 : decode cX10_hasText 11 = .ok (.goto 4, 3) := by decide +kernel
theorem dX10_hasText_14 : decode cX10_hasText 14 = .ok (.iconst 0, 1) := by decide +kernel
theorem dX10_hasText_15 : decode cX10_hasText 15 = .ok (.ireturn, 1) := by decide +kernel
def lX10_hasText : List (Nat × (Op ⊕ Nat)) := [(0, .inl (o_aload 0 1)), (1, .inl (o_get 10 2 4)), (4, .inl (o_get 9 4 7)), (7, .inl (o_if_le 14 10)), (10, .inl (o_pushI (nI 1) 11)), (11, .inl (o_goto 15)), (14, .inl (o_pushI (nI 0) 15)), (15, .inr 1)]
theorem qX10_hasText : yX10_hasText.cls = RX10 ∧ yX10_hasText.cls ≠ "java/lang/invoke/MethodHandle" ∧ yX10_hasText.cls ≠ "java/lang/invoke/VarHandle" ∧ (parseMethodDescriptor yX10_hasText.desc).map (fun d => d.parameters.length) = some 0 := by decide +kernel
set_option maxRecDepth 10000 in
theorem hX10_hasText_0 (l : Launch) {p : Program} {e : Env} {s : State} {m : MethodId} {args : Array Value} {below : List Frame} {meth : Method} {c : Code} {D : va_G} {ad adV : Nat → Nat} {cA : Nat → ClassId} {K : Kt} (C0 : Cx p s m args meth c D ad adV cA cX10_hasText 1 RX10) (hr : meth.sig.returnType = (some .boolean)) : ∀ q ∈ lX10_hasText, Sd p l e (rmd 0) s m args below meth c (MQ below (QQ D ad cA K) args s 0 0 (AA ad)) D ad cA 1 q.1 (opOf K q.2) := List.forall_mem_cons.mpr ⟨s_aload_n C0 dX10_hasText_0 rfl, List.forall_mem_cons.mpr ⟨s_get (ci := 10) (k := 2) C0 dX10_hasText_1 inX10 rfl (by decide) tw2_120, List.forall_mem_cons.mpr ⟨s_get (ci := 9) (k := 4) C0 dX10_hasText_4 inX9 rfl (by decide) tw1_95, List.forall_mem_cons.mpr ⟨s_if_le C0 dX10_hasText_7 rfl, List.forall_mem_cons.mpr ⟨s_iconst C0 dX10_hasText_10 rfl, List.forall_mem_cons.mpr ⟨s_goto C0 dX10_hasText_11 rfl, List.forall_mem_cons.mpr ⟨s_iconst C0 dX10_hasText_14 rfl, List.forall_mem_cons.mpr ⟨s_zret C0 hr dX10_hasText_15, fun _ h => absurd h List.not_mem_nil⟩⟩⟩⟩⟩⟩⟩⟩
def fX10_hasText : Mf := mf 1 (fun K => tl K lX10_hasText)
theorem kX10_hasText (l : Launch) : Okm l yX10_hasText cX10_hasText 1 (some .boolean) 0 fX10_hasText := Okm_tl (own := RX10) (by decide +kernel) rfl (fun C0 hr => hX10_hasText_0 l C0 hr)
theorem dX10_tellAll_0 : decode cX10_tellAll 0 = .ok (.iload_n 1, 1) := by decide +kernel
theorem dX10_tellAll_1 : decode cX10_tellAll 1 = .ok (.tableswitch 105 0 6 #[43, 51, 59, 67, 77, 87, 97], 43) := by decide +kernel
theorem dX10_tellAll_44 : decode cX10_tellAll 44 = .ok (.aload_n 0, 1) := by decide +kernel
theorem dX10_tellAll_45 : decode cX10_tellAll 45 = .ok (.getfield 28, 3) := by decide +kernel
theorem dX10_tellAll_48 : decode cX10_tellAll 48 = .ok (.getfield 148, 3) := by decide +kernel
theorem dX10_tellAll_51 : decode cX10_tellAll 51 = .ok (.ireturn, 1) := by decide +kernel
theorem dX10_tellAll_52 : decode cX10_tellAll 52 = .ok (.aload_n 0, 1) := by decide +kernel
theorem dX10_tellAll_53 : decode cX10_tellAll 53 = .ok (.getfield 28, 3) := by decide +kernel
theorem dX10_tellAll_56 : decode cX10_tellAll 56 = .ok (.getfield 135, 3) := by decide +kernel
theorem dX10_tellAll_59 : decode cX10_tellAll 59 = .ok (.ireturn, 1) := by decide +kernel
theorem dX10_tellAll_60 : decode cX10_tellAll 60 = .ok (.aload_n 0, 1) := by decide +kernel
theorem dX10_tellAll_61 : decode cX10_tellAll 61 = .ok (.getfield 44, 3) := by decide +kernel
theorem dX10_tellAll_64 : decode cX10_tellAll 64 = .ok (.invokevirtual 151, 3) := by decide +kernel
theorem dX10_tellAll_67 : decode cX10_tellAll 67 = .ok (.ireturn, 1) := by decide +kernel
theorem dX10_tellAll_68 : decode cX10_tellAll 68 = .ok (.aload_n 0, 1) := by decide +kernel
theorem dX10_tellAll_69 : decode cX10_tellAll 69 = .ok (.getfield 28, 3) := by decide +kernel
theorem dX10_tellAll_72 : decode cX10_tellAll 72 = .ok (.getfield 155, 3) := by decide +kernel
theorem dX10_tellAll_75 : decode cX10_tellAll 75 = .ok (.iconst 0, 1) := by decide +kernel
theorem dX10_tellAll_76 : decode cX10_tellAll 76 = .ok (.iaload, 1) := by decide +kernel
theorem dX10_tellAll_77 : decode cX10_tellAll 77 = .ok (.ireturn, 1) := by decide +kernel
theorem dX10_tellAll_78 : decode cX10_tellAll 78 = .ok (.aload_n 0, 1) := by decide +kernel
theorem dX10_tellAll_79 : decode cX10_tellAll 79 = .ok (.getfield 28, 3) := by decide +kernel
theorem dX10_tellAll_82 : decode cX10_tellAll 82 = .ok (.getfield 155, 3) := by decide +kernel
theorem dX10_tellAll_85 : decode cX10_tellAll 85 = .ok (.iconst 1, 1) := by decide +kernel
theorem dX10_tellAll_86 : decode cX10_tellAll 86 = .ok (.iaload, 1) := by decide +kernel
theorem dX10_tellAll_87 : decode cX10_tellAll 87 = .ok (.ireturn, 1) := by decide +kernel
theorem dX10_tellAll_88 : decode cX10_tellAll 88 = .ok (.aload_n 0, 1) := by decide +kernel
theorem dX10_tellAll_89 : decode cX10_tellAll 89 = .ok (.getfield 28, 3) := by decide +kernel
theorem dX10_tellAll_92 : decode cX10_tellAll 92 = .ok (.getfield 155, 3) := by decide +kernel
theorem dX10_tellAll_95 : decode cX10_tellAll 95 = .ok (.iconst 2, 1) := by decide +kernel
theorem dX10_tellAll_96 : decode cX10_tellAll 96 = .ok (.iaload, 1) := by decide +kernel
theorem dX10_tellAll_97 : decode cX10_tellAll 97 = .ok (.ireturn, 1) := by decide +kernel
theorem dX10_tellAll_98 : decode cX10_tellAll 98 = .ok (.aload_n 0, 1) := by decide +kernel
theorem dX10_tellAll_99 : decode cX10_tellAll 99 = .ok (.getfield 28, 3) := by decide +kernel
theorem dX10_tellAll_102 : decode cX10_tellAll 102 = .ok (.getfield 159, 3) := by decide +kernel
theorem dX10_tellAll_105 : decode cX10_tellAll 105 = .ok (.ireturn, 1) := by decide +kernel
theorem dX10_tellAll_106 : decode cX10_tellAll 106 = .ok (.aload_n 0, 1) := by decide +kernel
theorem dX10_tellAll_107 : decode cX10_tellAll 107 = .ok (.getfield 83, 3) := by decide +kernel
theorem dX10_tellAll_110 : decode cX10_tellAll 110 = .ok (.getfield 132, 3) := by decide +kernel
theorem dX10_tellAll_113 : decode cX10_tellAll 113 = .ok (.ireturn, 1) := by decide +kernel
def lX10_tellAll : List (Nat × (Op ⊕ Nat)) := [(0, .inl (o_iload 1 1)), (1, .inl (o_table 0 6 106 [44, 52, 60, 68, 78, 88, 98])), (44, .inl (o_aload 0 45)), (45, .inl (o_get 10 2 48)), (48, .inl (o_get 9 0 51)), (51, .inr 0), (52, .inl (o_aload 0 53)), (53, .inl (o_get 10 2 56)), (56, .inl (o_get 9 4 59)), (59, .inr 0), (60, .inl (o_aload 0 61)), (61, .inl (o_get 10 4 64)), (64, .inl (o_callV fX1_allOutings 0 1 67)), (67, .inr 0), (68, .inl (o_aload 0 69)), (69, .inl (o_get 10 2 72)), (72, .inl (o_get 9 6 75)), (75, .inl (o_pushI (nI 0) 76)), (76, .inl (o_iald 77)), (77, .inr 0), (78, .inl (o_aload 0 79)), (79, .inl (o_get 10 2 82)), (82, .inl (o_get 9 6 85)), (85, .inl (o_pushI (nI 1) 86)), (86, .inl (o_iald 87)), (87, .inr 0), (88, .inl (o_aload 0 89)), (89, .inl (o_get 10 2 92)), (92, .inl (o_get 9 6 95)), (95, .inl (o_pushI (nI 2) 96)), (96, .inl (o_iald 97)), (97, .inr 0), (98, .inl (o_aload 0 99)), (99, .inl (o_get 10 2 102)), (102, .inl (o_get 9 7 105)), (105, .inr 0), (106, .inl (o_aload 0 107)), (107, .inl (o_get 10 9 110)), (110, .inl (o_get 4 4 113)), (113, .inr 0)]
theorem qX10_tellAll : yX10_tellAll.cls = RX10 ∧ yX10_tellAll.cls ≠ "java/lang/invoke/MethodHandle" ∧ yX10_tellAll.cls ≠ "java/lang/invoke/VarHandle" ∧ (parseMethodDescriptor yX10_tellAll.desc).map (fun d => d.parameters.length) = some 1 := by decide +kernel
set_option maxRecDepth 10000 in
theorem hX10_tellAll_0 (l : Launch) {p : Program} {e : Env} {s : State} {m : MethodId} {args : Array Value} {below : List Frame} {meth : Method} {c : Code} {D : va_G} {ad adV : Nat → Nat} {cA : Nat → ClassId} {K : Kt} (C0 : Cx p s m args meth c D ad adV cA cX10_tellAll 2 RX10) (hr : meth.sig.returnType = (some .int)) : ∀ q ∈ lX10_tellAll, Sd p l e (rmd 1) s m args below meth c (MQ below (QQ D ad cA K) args s 0 0 (AA ad)) D ad cA 2 q.1 (opOf K q.2) := List.forall_mem_cons.mpr ⟨s_iload_n C0 dX10_tellAll_0 rfl, List.forall_mem_cons.mpr ⟨s_table C0 dX10_tellAll_1 rfl rfl rfl, List.forall_mem_cons.mpr ⟨s_aload_n C0 dX10_tellAll_44 rfl, List.forall_mem_cons.mpr ⟨s_get (ci := 10) (k := 2) C0 dX10_tellAll_45 inX10 rfl (by decide) tw2_120, List.forall_mem_cons.mpr ⟨s_get (ci := 9) (k := 0) C0 dX10_tellAll_48 inX9 rfl (by decide) tw1_84, List.forall_mem_cons.mpr ⟨s_iret C0 hr dX10_tellAll_51, List.forall_mem_cons.mpr ⟨s_aload_n C0 dX10_tellAll_52 rfl, List.forall_mem_cons.mpr ⟨s_get (ci := 10) (k := 2) C0 dX10_tellAll_53 inX10 rfl (by decide) tw2_120, List.forall_mem_cons.mpr ⟨s_get (ci := 9) (k := 4) C0 dX10_tellAll_56 inX9 rfl (by decide) tw1_95, List.forall_mem_cons.mpr ⟨s_iret C0 hr dX10_tellAll_59, List.forall_mem_cons.mpr ⟨s_aload_n C0 dX10_tellAll_60 rfl, List.forall_mem_cons.mpr ⟨s_get (ci := 10) (k := 4) C0 dX10_tellAll_61 inX10 rfl (by decide) tw2_122, List.forall_mem_cons.mpr ⟨s_callV (ci := 1) C0 (kX1_allOutings l) dX10_tellAll_64 rfl qX1_allOutings tw3_163 tw3_164 tw3_165 tw1_6 tw3_166 rfl (by decide) (by decide), List.forall_mem_cons.mpr ⟨s_iret C0 hr dX10_tellAll_67, List.forall_mem_cons.mpr ⟨s_aload_n C0 dX10_tellAll_68 rfl, List.forall_mem_cons.mpr ⟨s_get (ci := 10) (k := 2) C0 dX10_tellAll_69 inX10 rfl (by decide) tw2_120, List.forall_mem_cons.mpr ⟨s_get (ci := 9) (k := 6) C0 dX10_tellAll_72 inX9 rfl (by decide) tw1_104, List.forall_mem_cons.mpr ⟨s_iconst C0 dX10_tellAll_75 rfl, List.forall_mem_cons.mpr ⟨s_iald C0 dX10_tellAll_76, List.forall_mem_cons.mpr ⟨s_iret C0 hr dX10_tellAll_77, List.forall_mem_cons.mpr ⟨s_aload_n C0 dX10_tellAll_78 rfl, List.forall_mem_cons.mpr ⟨s_get (ci := 10) (k := 2) C0 dX10_tellAll_79 inX10 rfl (by decide) tw2_120, List.forall_mem_cons.mpr ⟨s_get (ci := 9) (k := 6) C0 dX10_tellAll_82 inX9 rfl (by decide) tw1_104, List.forall_mem_cons.mpr ⟨s_iconst C0 dX10_tellAll_85 rfl, List.forall_mem_cons.mpr ⟨s_iald C0 dX10_tellAll_86, List.forall_mem_cons.mpr ⟨s_iret C0 hr dX10_tellAll_87, List.forall_mem_cons.mpr ⟨s_aload_n C0 dX10_tellAll_88 rfl, List.forall_mem_cons.mpr ⟨s_get (ci := 10) (k := 2) C0 dX10_tellAll_89 inX10 rfl (by decide) tw2_120, List.forall_mem_cons.mpr ⟨s_get (ci := 9) (k := 6) C0 dX10_tellAll_92 inX9 rfl (by decide) tw1_104, List.forall_mem_cons.mpr ⟨s_iconst C0 dX10_tellAll_95 rfl, List.forall_mem_cons.mpr ⟨s_iald C0 dX10_tellAll_96, List.forall_mem_cons.mpr ⟨s_iret C0 hr dX10_tellAll_97, List.forall_mem_cons.mpr ⟨s_aload_n C0 dX10_tellAll_98 rfl, List.forall_mem_cons.mpr ⟨s_get (ci := 10) (k := 2) C0 dX10_tellAll_99 inX10 rfl (by decide) tw2_120, List.forall_mem_cons.mpr ⟨s_get (ci := 9) (k := 7) C0 dX10_tellAll_102 inX9 rfl (by decide) tw1_108, List.forall_mem_cons.mpr ⟨s_iret C0 hr dX10_tellAll_105, List.forall_mem_cons.mpr ⟨s_aload_n C0 dX10_tellAll_106 rfl, List.forall_mem_cons.mpr ⟨s_get (ci := 10) (k := 9) C0 dX10_tellAll_107 inX10 rfl (by decide) tw2_127, List.forall_mem_cons.mpr ⟨s_get (ci := 4) (k := 4) C0 dX10_tellAll_110 inX4 rfl (by decide) tw2_106, List.forall_mem_cons.mpr ⟨s_iret C0 hr dX10_tellAll_113, fun _ h => absurd h List.not_mem_nil⟩⟩⟩⟩⟩⟩⟩⟩⟩⟩⟩⟩⟩⟩⟩⟩⟩⟩⟩⟩⟩⟩⟩⟩⟩⟩⟩⟩⟩⟩⟩⟩⟩⟩⟩⟩⟩⟩⟩⟩
def fX10_tellAll : Mf := mf 2 (fun K => tl K lX10_tellAll)
theorem kX10_tellAll (l : Launch) : Okm l yX10_tellAll cX10_tellAll 2 (some .int) 1 fX10_tellAll := Okm_tl (own := RX10) (by decide +kernel) rfl (fun C0 hr => hX10_tellAll_0 l C0 hr)
theorem dX10_about_0 : decode cX10_about 0 = .ok (.aload_n 0, 1) := by decide +kernel
theorem dX10_about_1 : decode cX10_about 1 = .ok (.invokevirtual 141, 3) := by decide +kernel
theorem dX10_about_4 : decode cX10_about 4 = .ok (.ifCond .eq 13, 3) := by decide +kernel
theorem dX10_about_7 : decode cX10_about 7 = .ok (.iload_n 1, 1) := by decide +kernel
theorem dX10_about_8 : decode cX10_about 8 = .ok (.iconst 0, 1) := by decide +kernel
theorem dX10_about_9 : decode cX10_about 9 = .ok (.bipush 7, 2) := by decide +kernel
theorem dX10_about_11 : decode cX10_about 11 = .ok (.invokestatic 104, 3) := by decide +kernel
theorem dX10_about_14 : decode cX10_about 14 = .ok (.ifCond .ne 9, 3) := by decide +kernel
theorem dX10_about_17 : decode cX10_about 17 = .ok (.aload_n 0, 1) := by decide +kernel
theorem dX10_about_18 : decode cX10_about 18 = .ok (.iconst 1, 1) := by decide +kernel
theorem dX10_about_19 : decode cX10_about 19 = .ok (.invokevirtual 108, 3) := by decide +kernel
theorem dX10_about_22 : decode cX10_about 22 = .ok (.ireturn, 1) := by decide +kernel
theorem dX10_about_23 : decode cX10_about 23 = .ok (.aload_n 0, 1) := by decide +kernel
theorem dX10_about_24 : decode cX10_about 24 = .ok (.aload_n 0, 1) := by decide +kernel
theorem dX10_about_25 : decode cX10_about 25 = .ok (.iload_n 1, 1) := by decide +kernel
theorem dX10_about_26 : decode cX10_about 26 = .ok (.invokevirtual 145, 3) := by decide +kernel
theorem dX10_about_29 : decode cX10_about 29 = .ok (.invokevirtual 138, 3) := by decide +kernel
theorem dX10_about_32 : decode cX10_about 32 = .ok (.ireturn, 1) := by decide +kernel
def lX10_about : List (Nat × (Op ⊕ Nat)) := [(0, .inl (o_aload 0 1)), (1, .inl (o_callV fX10_hasText 0 10 4)), (4, .inl (o_if_eq 17 7)), (7, .inl (o_iload 1 8)), (8, .inl (o_pushI (nI 0) 9)), (9, .inl (o_pushI (nI 7) 11)), (11, .inl (o_callS fX10_within 3 14)), (14, .inl (o_if_ne 23 17)), (17, .inl (o_aload 0 18)), (18, .inl (o_pushI (nI 1) 19)), (19, .inl (o_callV fX10_refuse 1 10 22)), (22, .inr 0), (23, .inl (o_aload 0 24)), (24, .inl (o_aload 0 25)), (25, .inl (o_iload 1 26)), (26, .inl (o_callV fX10_tellAll 1 10 29)), (29, .inl (o_callV fX10_answer 1 10 32)), (32, .inr 0)]
theorem qX10_about : yX10_about.cls = RX10 ∧ yX10_about.cls ≠ "java/lang/invoke/MethodHandle" ∧ yX10_about.cls ≠ "java/lang/invoke/VarHandle" ∧ (parseMethodDescriptor yX10_about.desc).map (fun d => d.parameters.length) = some 1 := by decide +kernel
set_option maxRecDepth 10000 in
theorem hX10_about_0 (l : Launch) {p : Program} {e : Env} {s : State} {m : MethodId} {args : Array Value} {below : List Frame} {meth : Method} {c : Code} {D : va_G} {ad adV : Nat → Nat} {cA : Nat → ClassId} {K : Kt} (C0 : Cx p s m args meth c D ad adV cA cX10_about 2 RX10) (hr : meth.sig.returnType = (some .int)) : ∀ q ∈ lX10_about, Sd p l e (rmd 2) s m args below meth c (MQ below (QQ D ad cA K) args s 0 0 (AA ad)) D ad cA 2 q.1 (opOf K q.2) := List.forall_mem_cons.mpr ⟨s_aload_n C0 dX10_about_0 rfl, List.forall_mem_cons.mpr ⟨s_callV (ci := 10) C0 (kX10_hasText l) dX10_about_1 rfl qX10_hasText tw3_155 tw3_157 twp_15 tw1_1 tw3_158 rfl (by decide) (by decide), List.forall_mem_cons.mpr ⟨s_if_eq C0 dX10_about_4 rfl, List.forall_mem_cons.mpr ⟨s_iload_n C0 dX10_about_7 rfl, List.forall_mem_cons.mpr ⟨s_iconst C0 dX10_about_8 rfl, List.forall_mem_cons.mpr ⟨s_bipush C0 dX10_about_9 (by decide +kernel), List.forall_mem_cons.mpr ⟨s_callS C0 (kX10_within l) dX10_about_11 qX10_within tw2_170 tw2_171 tw1_1 tw2_172 rfl (by decide) (by decide), List.forall_mem_cons.mpr ⟨s_if_ne C0 dX10_about_14 rfl, List.forall_mem_cons.mpr ⟨s_aload_n C0 dX10_about_17 rfl, List.forall_mem_cons.mpr ⟨s_iconst C0 dX10_about_18 rfl, List.forall_mem_cons.mpr ⟨s_callV (ci := 10) C0 (kX10_refuse l) dX10_about_19 rfl qX10_refuse tw2_173 tw2_175 twp_0 tw1_1 tw2_176 rfl (by decide) (by decide), List.forall_mem_cons.mpr ⟨s_iret C0 hr dX10_about_22, List.forall_mem_cons.mpr ⟨s_aload_n C0 dX10_about_23 rfl, List.forall_mem_cons.mpr ⟨s_aload_n C0 dX10_about_24 rfl, List.forall_mem_cons.mpr ⟨s_iload_n C0 dX10_about_25 rfl, List.forall_mem_cons.mpr ⟨s_callV (ci := 10) C0 (kX10_tellAll l) dX10_about_26 rfl qX10_tellAll tw3_159 tw3_161 twp_16 tw1_1 tw3_162 rfl (by decide) (by decide), List.forall_mem_cons.mpr ⟨s_callV (ci := 10) C0 (kX10_answer l) dX10_about_29 rfl qX10_answer tw3_139 tw3_141 twp_14 tw1_1 tw3_142 rfl (by decide) (by decide), List.forall_mem_cons.mpr ⟨s_iret C0 hr dX10_about_32, fun _ h => absurd h List.not_mem_nil⟩⟩⟩⟩⟩⟩⟩⟩⟩⟩⟩⟩⟩⟩⟩⟩⟩⟩
def fX10_about : Mf := mf 2 (fun K => tl K lX10_about)
theorem kX10_about (l : Launch) : Okm l yX10_about cX10_about 2 (some .int) 2 fX10_about := Okm_tl (own := RX10) (by decide +kernel) rfl (fun C0 hr => hX10_about_0 l C0 hr)
theorem dX10_hasArm_0 : decode cX10_hasArm 0 = .ok (.iload_n 1, 1) := by decide +kernel
theorem dX10_hasArm_1 : decode cX10_hasArm 1 = .ok (.iconst 0, 1) := by decide +kernel
theorem dX10_hasArm_2 : decode cX10_hasArm 2 = .ok (.aload_n 0, 1) := by decide +kernel
theorem dX10_hasArm_3 : decode cX10_hasArm 3 = .ok (.getfield 28, 3) := by decide +kernel
theorem dX10_hasArm_6 : decode cX10_hasArm 6 = .ok (.getfield 148, 3) := by decide +kernel
theorem dX10_hasArm_9 : decode cX10_hasArm 9 = .ok (.iconst 1, 1) := by decide +kernel
theorem dX10_hasArm_10 : decode cX10_hasArm 10 = .ok (.isub, 1) := by decide +kernel
theorem dX10_hasArm_11 : decode cX10_hasArm 11 = .ok (.invokestatic 104, 3) := by decide +kernel
theorem dX10_hasArm_14 : decode cX10_hasArm 14 = .ok (.ireturn, 1) := by decide +kernel
def lX10_hasArm : List (Nat × (Op ⊕ Nat)) := [(0, .inl (o_iload 1 1)), (1, .inl (o_pushI (nI 0) 2)), (2, .inl (o_aload 0 3)), (3, .inl (o_get 10 2 6)), (6, .inl (o_get 9 0 9)), (9, .inl (o_pushI (nI 1) 10)), (10, .inl (o_isub 11)), (11, .inl (o_callS fX10_within 3 14)), (14, .inr 1)]
theorem qX10_hasArm : yX10_hasArm.cls = RX10 ∧ yX10_hasArm.cls ≠ "java/lang/invoke/MethodHandle" ∧ yX10_hasArm.cls ≠ "java/lang/invoke/VarHandle" ∧ (parseMethodDescriptor yX10_hasArm.desc).map (fun d => d.parameters.length) = some 1 := by decide +kernel
set_option maxRecDepth 10000 in
theorem hX10_hasArm_0 (l : Launch) {p : Program} {e : Env} {s : State} {m : MethodId} {args : Array Value} {below : List Frame} {meth : Method} {c : Code} {D : va_G} {ad adV : Nat → Nat} {cA : Nat → ClassId} {K : Kt} (C0 : Cx p s m args meth c D ad adV cA cX10_hasArm 2 RX10) (hr : meth.sig.returnType = (some .boolean)) : ∀ q ∈ lX10_hasArm, Sd p l e (rmd 1) s m args below meth c (MQ below (QQ D ad cA K) args s 0 0 (AA ad)) D ad cA 2 q.1 (opOf K q.2) := List.forall_mem_cons.mpr ⟨s_iload_n C0 dX10_hasArm_0 rfl, List.forall_mem_cons.mpr ⟨s_iconst C0 dX10_hasArm_1 rfl, List.forall_mem_cons.mpr ⟨s_aload_n C0 dX10_hasArm_2 rfl, List.forall_mem_cons.mpr ⟨s_get (ci := 10) (k := 2) C0 dX10_hasArm_3 inX10 rfl (by decide) tw2_120, List.forall_mem_cons.mpr ⟨s_get (ci := 9) (k := 0) C0 dX10_hasArm_6 inX9 rfl (by decide) tw1_84, List.forall_mem_cons.mpr ⟨s_iconst C0 dX10_hasArm_9 rfl, List.forall_mem_cons.mpr ⟨s_isub C0 dX10_hasArm_10, List.forall_mem_cons.mpr ⟨s_callS C0 (kX10_within l) dX10_hasArm_11 qX10_within tw2_170 tw2_171 tw1_1 tw2_172 rfl (by decide) (by decide), List.forall_mem_cons.mpr ⟨s_zret C0 hr dX10_hasArm_14, fun _ h => absurd h List.not_mem_nil⟩⟩⟩⟩⟩⟩⟩⟩⟩
def fX10_hasArm : Mf := mf 2 (fun K => tl K lX10_hasArm)
theorem kX10_hasArm (l : Launch) : Okm l yX10_hasArm cX10_hasArm 2 (some .boolean) 1 fX10_hasArm := Okm_tl (own := RX10) (by decide +kernel) rfl (fun C0 hr => hX10_hasArm_0 l C0 hr)
theorem dX10_tellArm_0 : decode cX10_tellArm 0 = .ok (.iload_n 2, 1) := by decide +kernel
theorem dX10_tellArm_1 : decode cX10_tellArm 1 = .ok (.tableswitch 111 0 6 #[43, 53, 63, 73, 83, 93, 102], 43) := by decide +kernel
theorem dX10_tellArm_44 : decode cX10_tellArm 44 = .ok (.aload_n 0, 1) := by decide +kernel
theorem dX10_tellArm_45 : decode cX10_tellArm 45 = .ok (.getfield 28, 3) := by decide +kernel
theorem dX10_tellArm_48 : decode cX10_tellArm 48 = .ok (.getfield 169, 3) := by decide +kernel
theorem dX10_tellArm_51 : decode cX10_tellArm 51 = .ok (.iload_n 1, 1) := by decide +kernel
theorem dX10_tellArm_52 : decode cX10_tellArm 52 = .ok (.iaload, 1) := by decide +kernel
theorem dX10_tellArm_53 : decode cX10_tellArm 53 = .ok (.ireturn, 1) := by decide +kernel
theorem dX10_tellArm_54 : decode cX10_tellArm 54 = .ok (.aload_n 0, 1) := by decide +kernel
theorem dX10_tellArm_55 : decode cX10_tellArm 55 = .ok (.getfield 28, 3) := by decide +kernel
theorem dX10_tellArm_58 : decode cX10_tellArm 58 = .ok (.iload_n 1, 1) := by decide +kernel
theorem dX10_tellArm_59 : decode cX10_tellArm 59 = .ok (.iconst 0, 1) := by decide +kernel
theorem dX10_tellArm_60 : decode cX10_tellArm 60 = .ok (.invokevirtual 172, 3) := by decide +kernel
theorem dX10_tellArm_63 : decode cX10_tellArm 63 = .ok (.ireturn, 1) := by decide +kernel
theorem dX10_tellArm_64 : decode cX10_tellArm 64 = .ok (.aload_n 0, 1) := by decide +kernel
theorem dX10_tellArm_65 : decode cX10_tellArm 65 = .ok (.getfield 28, 3) := by decide +kernel
theorem dX10_tellArm_68 : decode cX10_tellArm 68 = .ok (.iload_n 1, 1) := by decide +kernel
theorem dX10_tellArm_69 : decode cX10_tellArm 69 = .ok (.iconst 1, 1) := by decide +kernel
theorem dX10_tellArm_70 : decode cX10_tellArm 70 = .ok (.invokevirtual 172, 3) := by decide +kernel
theorem dX10_tellArm_73 : decode cX10_tellArm 73 = .ok (.ireturn, 1) := by decide +kernel
theorem dX10_tellArm_74 : decode cX10_tellArm 74 = .ok (.aload_n 0, 1) := by decide +kernel
theorem dX10_tellArm_75 : decode cX10_tellArm 75 = .ok (.getfield 28, 3) := by decide +kernel
theorem dX10_tellArm_78 : decode cX10_tellArm 78 = .ok (.iload_n 1, 1) := by decide +kernel
theorem dX10_tellArm_79 : decode cX10_tellArm 79 = .ok (.iconst 2, 1) := by decide +kernel
theorem dX10_tellArm_80 : decode cX10_tellArm 80 = .ok (.invokevirtual 172, 3) := by decide +kernel
theorem dX10_tellArm_83 : decode cX10_tellArm 83 = .ok (.ireturn, 1) := by decide +kernel
theorem dX10_tellArm_84 : decode cX10_tellArm 84 = .ok (.aload_n 0, 1) := by decide +kernel
theorem dX10_tellArm_85 : decode cX10_tellArm 85 = .ok (.getfield 28, 3) := by decide +kernel
theorem dX10_tellArm_88 : decode cX10_tellArm 88 = .ok (.iload_n 1, 1) := by decide +kernel
theorem dX10_tellArm_89 : decode cX10_tellArm 89 = .ok (.iconst 3, 1) := by decide +kernel
theorem dX10_tellArm_90 : decode cX10_tellArm 90 = .ok (.invokevirtual 172, 3) := by decide +kernel
theorem dX10_tellArm_93 : decode cX10_tellArm 93 = .ok (.ireturn, 1) := by decide +kernel
theorem dX10_tellArm_94 : decode cX10_tellArm 94 = .ok (.aload_n 0, 1) := by decide +kernel
theorem dX10_tellArm_95 : decode cX10_tellArm 95 = .ok (.getfield 44, 3) := by decide +kernel
theorem dX10_tellArm_98 : decode cX10_tellArm 98 = .ok (.iload_n 1, 1) := by decide +kernel
theorem dX10_tellArm_99 : decode cX10_tellArm 99 = .ok (.invokevirtual 175, 3) := by decide +kernel
theorem dX10_tellArm_102 : decode cX10_tellArm 102 = .ok (.ireturn, 1) := by decide +kernel
theorem dX10_tellArm_103 : decode cX10_tellArm 103 = .ok (.aload_n 0, 1) := by decide +kernel
theorem dX10_tellArm_104 : decode cX10_tellArm 104 = .ok (.getfield 44, 3) := by decide +kernel
theorem dX10_tellArm_107 : decode cX10_tellArm 107 = .ok (.iload_n 1, 1) := by decide +kernel
theorem dX10_tellArm_108 : decode cX10_tellArm 108 = .ok (.invokevirtual 178, 3) := by decide +kernel
theorem dX10_tellArm_111 : decode cX10_tellArm 111 = .ok (.ireturn, 1) := by decide +kernel
theorem dX10_tellArm_112 : decode cX10_tellArm 112 = .ok (.aload_n 0, 1) := by decide +kernel
theorem dX10_tellArm_113 : decode cX10_tellArm 113 = .ok (.getfield 44, 3) := by decide +kernel
theorem dX10_tellArm_116 : decode cX10_tellArm 116 = .ok (.iload_n 1, 1) := by decide +kernel
theorem dX10_tellArm_117 : decode cX10_tellArm 117 = .ok (.invokevirtual 181, 3) := by decide +kernel
theorem dX10_tellArm_120 : decode cX10_tellArm 120 = .ok (.ireturn, 1) := by decide +kernel
def lX10_tellArm_0 : List (Nat × (Op ⊕ Nat)) := [(0, .inl (o_iload 2 1)), (1, .inl (o_table 0 6 112 [44, 54, 64, 74, 84, 94, 103])), (44, .inl (o_aload 0 45)), (45, .inl (o_get 10 2 48)), (48, .inl (o_get 9 2 51)), (51, .inl (o_iload 1 52)), (52, .inl (o_iald 53)), (53, .inr 0), (54, .inl (o_aload 0 55)), (55, .inl (o_get 10 2 58)), (58, .inl (o_iload 1 59)), (59, .inl (o_pushI (nI 0) 60)), (60, .inl (o_callV fX9_trait 2 9 63)), (63, .inr 0), (64, .inl (o_aload 0 65)), (65, .inl (o_get 10 2 68)), (68, .inl (o_iload 1 69)), (69, .inl (o_pushI (nI 1) 70)), (70, .inl (o_callV fX9_trait 2 9 73)), (73, .inr 0), (74, .inl (o_aload 0 75)), (75, .inl (o_get 10 2 78)), (78, .inl (o_iload 1 79)), (79, .inl (o_pushI (nI 2) 80)), (80, .inl (o_callV fX9_trait 2 9 83)), (83, .inr 0), (84, .inl (o_aload 0 85)), (85, .inl (o_get 10 2 88)), (88, .inl (o_iload 1 89)), (89, .inl (o_pushI (nI 3) 90)), (90, .inl (o_callV fX9_trait 2 9 93)), (93, .inr 0), (94, .inl (o_aload 0 95)), (95, .inl (o_get 10 4 98)), (98, .inl (o_iload 1 99)), (99, .inl (o_callV fX1_throwsOfArm 1 1 102)), (102, .inr 0), (103, .inl (o_aload 0 104)), (104, .inl (o_get 10 4 107)), (107, .inl (o_iload 1 108))]
def lX10_tellArm_1 : List (Nat × (Op ⊕ Nat)) := [(108, .inl (o_callV fX1_outingsOfArm 1 1 111)), (111, .inr 0), (112, .inl (o_aload 0 113)), (113, .inl (o_get 10 4 116)), (116, .inl (o_iload 1 117)), (117, .inl (o_callV fX1_valueOfArm 1 1 120)), (120, .inr 0)]
def lX10_tellArm : List (Nat × (Op ⊕ Nat)) := lX10_tellArm_0 ++ (lX10_tellArm_1)
theorem qX10_tellArm : yX10_tellArm.cls = RX10 ∧ yX10_tellArm.cls ≠ "java/lang/invoke/MethodHandle" ∧ yX10_tellArm.cls ≠ "java/lang/invoke/VarHandle" ∧ (parseMethodDescriptor yX10_tellArm.desc).map (fun d => d.parameters.length) = some 2 := by decide +kernel
set_option maxRecDepth 10000 in
theorem hX10_tellArm_0 (l : Launch) {p : Program} {e : Env} {s : State} {m : MethodId} {args : Array Value} {below : List Frame} {meth : Method} {c : Code} {D : va_G} {ad adV : Nat → Nat} {cA : Nat → ClassId} {K : Kt} (C0 : Cx p s m args meth c D ad adV cA cX10_tellArm 3 RX10) (hr : meth.sig.returnType = (some .int)) : ∀ q ∈ lX10_tellArm_0, Sd p l e (rmd 4) s m args below meth c (MQ below (QQ D ad cA K) args s 0 0 (AA ad)) D ad cA 3 q.1 (opOf K q.2) := List.forall_mem_cons.mpr ⟨s_iload_n C0 dX10_tellArm_0 rfl, List.forall_mem_cons.mpr ⟨s_table C0 dX10_tellArm_1 rfl rfl rfl, List.forall_mem_cons.mpr ⟨s_aload_n C0 dX10_tellArm_44 rfl, List.forall_mem_cons.mpr ⟨s_get (ci := 10) (k := 2) C0 dX10_tellArm_45 inX10 rfl (by decide) tw2_120, List.forall_mem_cons.mpr ⟨s_get (ci := 9) (k := 2) C0 dX10_tellArm_48 inX9 rfl (by decide) tw1_90, List.forall_mem_cons.mpr ⟨s_iload_n C0 dX10_tellArm_51 rfl, List.forall_mem_cons.mpr ⟨s_iald C0 dX10_tellArm_52, List.forall_mem_cons.mpr ⟨s_iret C0 hr dX10_tellArm_53, List.forall_mem_cons.mpr ⟨s_aload_n C0 dX10_tellArm_54 rfl, List.forall_mem_cons.mpr ⟨s_get (ci := 10) (k := 2) C0 dX10_tellArm_55 inX10 rfl (by decide) tw2_120, List.forall_mem_cons.mpr ⟨s_iload_n C0 dX10_tellArm_58 rfl, List.forall_mem_cons.mpr ⟨s_iconst C0 dX10_tellArm_59 rfl, List.forall_mem_cons.mpr ⟨s_callV (ci := 9) C0 (kX9_trait l) dX10_tellArm_60 rfl qX9_trait tw3_179 tw3_73 tw3_74 tw1_4 tw3_75 rfl (by decide) (by decide), List.forall_mem_cons.mpr ⟨s_iret C0 hr dX10_tellArm_63, List.forall_mem_cons.mpr ⟨s_aload_n C0 dX10_tellArm_64 rfl, List.forall_mem_cons.mpr ⟨s_get (ci := 10) (k := 2) C0 dX10_tellArm_65 inX10 rfl (by decide) tw2_120, List.forall_mem_cons.mpr ⟨s_iload_n C0 dX10_tellArm_68 rfl, List.forall_mem_cons.mpr ⟨s_iconst C0 dX10_tellArm_69 rfl, List.forall_mem_cons.mpr ⟨s_callV (ci := 9) C0 (kX9_trait l) dX10_tellArm_70 rfl qX9_trait tw3_179 tw3_73 tw3_74 tw1_4 tw3_75 rfl (by decide) (by decide), List.forall_mem_cons.mpr ⟨s_iret C0 hr dX10_tellArm_73, List.forall_mem_cons.mpr ⟨s_aload_n C0 dX10_tellArm_74 rfl, List.forall_mem_cons.mpr ⟨s_get (ci := 10) (k := 2) C0 dX10_tellArm_75 inX10 rfl (by decide) tw2_120, List.forall_mem_cons.mpr ⟨s_iload_n C0 dX10_tellArm_78 rfl, List.forall_mem_cons.mpr ⟨s_iconst C0 dX10_tellArm_79 rfl, List.forall_mem_cons.mpr ⟨s_callV (ci := 9) C0 (kX9_trait l) dX10_tellArm_80 rfl qX9_trait tw3_179 tw3_73 tw3_74 tw1_4 tw3_75 rfl (by decide) (by decide), List.forall_mem_cons.mpr ⟨s_iret C0 hr dX10_tellArm_83, List.forall_mem_cons.mpr ⟨s_aload_n C0 dX10_tellArm_84 rfl, List.forall_mem_cons.mpr ⟨s_get (ci := 10) (k := 2) C0 dX10_tellArm_85 inX10 rfl (by decide) tw2_120, List.forall_mem_cons.mpr ⟨s_iload_n C0 dX10_tellArm_88 rfl, List.forall_mem_cons.mpr ⟨s_iconst C0 dX10_tellArm_89 rfl, List.forall_mem_cons.mpr ⟨s_callV (ci := 9) C0 (kX9_trait l) dX10_tellArm_90 rfl qX9_trait tw3_179 tw3_73 tw3_74 tw1_4 tw3_75 rfl (by decide) (by decide), List.forall_mem_cons.mpr ⟨s_iret C0 hr dX10_tellArm_93, List.forall_mem_cons.mpr ⟨s_aload_n C0 dX10_tellArm_94 rfl, List.forall_mem_cons.mpr ⟨s_get (ci := 10) (k := 4) C0 dX10_tellArm_95 inX10 rfl (by decide) tw2_122, List.forall_mem_cons.mpr ⟨s_iload_n C0 dX10_tellArm_98 rfl, List.forall_mem_cons.mpr ⟨s_callV (ci := 1) C0 (kX1_throwsOfArm l) dX10_tellArm_99 rfl qX1_throwsOfArm tw3_180 tw3_181 tw3_182 tw1_6 tw3_183 rfl (by decide) (by decide), List.forall_mem_cons.mpr ⟨s_iret C0 hr dX10_tellArm_102, List.forall_mem_cons.mpr ⟨s_aload_n C0 dX10_tellArm_103 rfl, List.forall_mem_cons.mpr ⟨s_get (ci := 10) (k := 4) C0 dX10_tellArm_104 inX10 rfl (by decide) tw2_122, List.forall_mem_cons.mpr ⟨s_iload_n C0 dX10_tellArm_107 rfl, fun _ h => absurd h List.not_mem_nil⟩⟩⟩⟩⟩⟩⟩⟩⟩⟩⟩⟩⟩⟩⟩⟩⟩⟩⟩⟩⟩⟩⟩⟩⟩⟩⟩⟩⟩⟩⟩⟩⟩⟩⟩⟩⟩⟩⟩⟩
set_option maxRecDepth 10000 in
theorem hX10_tellArm_1 (l : Launch) {p : Program} {e : Env} {s : State} {m : MethodId} {args : Array Value} {below : List Frame} {meth : Method} {c : Code} {D : va_G} {ad adV : Nat → Nat} {cA : Nat → ClassId} {K : Kt} (C0 : Cx p s m args meth c D ad adV cA cX10_tellArm 3 RX10) (hr : meth.sig.returnType = (some .int)) : ∀ q ∈ lX10_tellArm_1, Sd p l e (rmd 4) s m args below meth c (MQ below (QQ D ad cA K) args s 0 0 (AA ad)) D ad cA 3 q.1 (opOf K q.2) := List.forall_mem_cons.mpr ⟨s_callV (ci := 1) C0 (kX1_outingsOfArm l) dX10_tellArm_108 rfl qX1_outingsOfArm tw3_188 tw3_189 tw3_190 tw1_6 tw3_191 rfl (by decide) (by decide), List.forall_mem_cons.mpr ⟨s_iret C0 hr dX10_tellArm_111, List.forall_mem_cons.mpr ⟨s_aload_n C0 dX10_tellArm_112 rfl, List.forall_mem_cons.mpr ⟨s_get (ci := 10) (k := 4) C0 dX10_tellArm_113 inX10 rfl (by decide) tw2_122, List.forall_mem_cons.mpr ⟨s_iload_n C0 dX10_tellArm_116 rfl, List.forall_mem_cons.mpr ⟨s_callV (ci := 1) C0 (kX1_valueOfArm l) dX10_tellArm_117 rfl qX1_valueOfArm tw3_197 tw3_198 tw3_199 tw1_6 tw3_200 rfl (by decide) (by decide), List.forall_mem_cons.mpr ⟨s_iret C0 hr dX10_tellArm_120, fun _ h => absurd h List.not_mem_nil⟩⟩⟩⟩⟩⟩⟩
def fX10_tellArm : Mf := mf 3 (fun K => tl K lX10_tellArm)
theorem kX10_tellArm (l : Launch) : Okm l yX10_tellArm cX10_tellArm 3 (some .int) 4 fX10_tellArm := Okm_tl (own := RX10) (by decide +kernel) rfl (fun C0 hr => List.forall_mem_append.mpr ⟨hX10_tellArm_0 l C0 hr, hX10_tellArm_1 l C0 hr⟩)
theorem dX10_arm_0 : decode cX10_arm 0 = .ok (.aload_n 0, 1) := by decide +kernel
theorem dX10_arm_1 : decode cX10_arm 1 = .ok (.iload_n 1, 1) := by decide +kernel
theorem dX10_arm_2 : decode cX10_arm 2 = .ok (.invokevirtual 162, 3) := by decide +kernel
theorem dX10_arm_5 : decode cX10_arm 5 = .ok (.ifCond .eq 13, 3) := by decide +kernel
theorem dX10_arm_8 : decode cX10_arm 8 = .ok (.iload_n 2, 1) := by decide +kernel
theorem dX10_arm_9 : decode cX10_arm 9 = .ok (.iconst 0, 1) := by decide +kernel
theorem dX10_arm_10 : decode cX10_arm 10 = .ok (.bipush 7, 2) := by decide +kernel
theorem dX10_arm_12 : decode cX10_arm 12 = .ok (.invokestatic 104, 3) := by decide +kernel
theorem dX10_arm_15 : decode cX10_arm 15 = .ok (.ifCond .ne 9, 3) := by decide +kernel
theorem dX10_arm_18 : decode cX10_arm 18 = .ok (.aload_n 0, 1) := by decide +kernel
theorem dX10_arm_19 : decode cX10_arm 19 = .ok (.iconst 1, 1) := by decide +kernel
theorem dX10_arm_20 : decode cX10_arm 20 = .ok (.invokevirtual 108, 3) := by decide +kernel
theorem dX10_arm_23 : decode cX10_arm 23 = .ok (.ireturn, 1) := by decide +kernel
theorem dX10_arm_24 : decode cX10_arm 24 = .ok (.aload_n 0, 1) := by decide +kernel
theorem dX10_arm_25 : decode cX10_arm 25 = .ok (.aload_n 0, 1) := by decide +kernel
theorem dX10_arm_26 : decode cX10_arm 26 = .ok (.iload_n 1, 1) := by decide +kernel
theorem dX10_arm_27 : decode cX10_arm 27 = .ok (.iload_n 2, 1) := by decide +kernel
theorem dX10_arm_28 : decode cX10_arm 28 = .ok (.invokevirtual 165, 3) := by decide +kernel
theorem dX10_arm_31 : decode cX10_arm 31 = .ok (.invokevirtual 138, 3) := by decide +kernel
theorem dX10_arm_34 : decode cX10_arm 34 = .ok (.ireturn, 1) := by decide +kernel
def lX10_arm : List (Nat × (Op ⊕ Nat)) := [(0, .inl (o_aload 0 1)), (1, .inl (o_iload 1 2)), (2, .inl (o_callV fX10_hasArm 1 10 5)), (5, .inl (o_if_eq 18 8)), (8, .inl (o_iload 2 9)), (9, .inl (o_pushI (nI 0) 10)), (10, .inl (o_pushI (nI 7) 12)), (12, .inl (o_callS fX10_within 3 15)), (15, .inl (o_if_ne 24 18)), (18, .inl (o_aload 0 19)), (19, .inl (o_pushI (nI 1) 20)), (20, .inl (o_callV fX10_refuse 1 10 23)), (23, .inr 0), (24, .inl (o_aload 0 25)), (25, .inl (o_aload 0 26)), (26, .inl (o_iload 1 27)), (27, .inl (o_iload 2 28)), (28, .inl (o_callV fX10_tellArm 2 10 31)), (31, .inl (o_callV fX10_answer 1 10 34)), (34, .inr 0)]
theorem qX10_arm : yX10_arm.cls = RX10 ∧ yX10_arm.cls ≠ "java/lang/invoke/MethodHandle" ∧ yX10_arm.cls ≠ "java/lang/invoke/VarHandle" ∧ (parseMethodDescriptor yX10_arm.desc).map (fun d => d.parameters.length) = some 2 := by decide +kernel
set_option maxRecDepth 10000 in
theorem hX10_arm_0 (l : Launch) {p : Program} {e : Env} {s : State} {m : MethodId} {args : Array Value} {below : List Frame} {meth : Method} {c : Code} {D : va_G} {ad adV : Nat → Nat} {cA : Nat → ClassId} {K : Kt} (C0 : Cx p s m args meth c D ad adV cA cX10_arm 3 RX10) (hr : meth.sig.returnType = (some .int)) : ∀ q ∈ lX10_arm, Sd p l e (rmd 5) s m args below meth c (MQ below (QQ D ad cA K) args s 0 0 (AA ad)) D ad cA 3 q.1 (opOf K q.2) := List.forall_mem_cons.mpr ⟨s_aload_n C0 dX10_arm_0 rfl, List.forall_mem_cons.mpr ⟨s_iload_n C0 dX10_arm_1 rfl, List.forall_mem_cons.mpr ⟨s_callV (ci := 10) C0 (kX10_hasArm l) dX10_arm_2 rfl qX10_hasArm tw3_171 tw3_173 twp_17 tw1_1 tw3_174 rfl (by decide) (by decide), List.forall_mem_cons.mpr ⟨s_if_eq C0 dX10_arm_5 rfl, List.forall_mem_cons.mpr ⟨s_iload_n C0 dX10_arm_8 rfl, List.forall_mem_cons.mpr ⟨s_iconst C0 dX10_arm_9 rfl, List.forall_mem_cons.mpr ⟨s_bipush C0 dX10_arm_10 (by decide +kernel), List.forall_mem_cons.mpr ⟨s_callS C0 (kX10_within l) dX10_arm_12 qX10_within tw2_170 tw2_171 tw1_1 tw2_172 rfl (by decide) (by decide), List.forall_mem_cons.mpr ⟨s_if_ne C0 dX10_arm_15 rfl, List.forall_mem_cons.mpr ⟨s_aload_n C0 dX10_arm_18 rfl, List.forall_mem_cons.mpr ⟨s_iconst C0 dX10_arm_19 rfl, List.forall_mem_cons.mpr ⟨s_callV (ci := 10) C0 (kX10_refuse l) dX10_arm_20 rfl qX10_refuse tw2_173 tw2_175 twp_0 tw1_1 tw2_176 rfl (by decide) (by decide), List.forall_mem_cons.mpr ⟨s_iret C0 hr dX10_arm_23, List.forall_mem_cons.mpr ⟨s_aload_n C0 dX10_arm_24 rfl, List.forall_mem_cons.mpr ⟨s_aload_n C0 dX10_arm_25 rfl, List.forall_mem_cons.mpr ⟨s_iload_n C0 dX10_arm_26 rfl, List.forall_mem_cons.mpr ⟨s_iload_n C0 dX10_arm_27 rfl, List.forall_mem_cons.mpr ⟨s_callV (ci := 10) C0 (kX10_tellArm l) dX10_arm_28 rfl qX10_tellArm tw3_175 tw3_177 twp_18 tw1_1 tw3_178 rfl (by decide) (by decide), List.forall_mem_cons.mpr ⟨s_callV (ci := 10) C0 (kX10_answer l) dX10_arm_31 rfl qX10_answer tw3_139 tw3_141 twp_14 tw1_1 tw3_142 rfl (by decide) (by decide), List.forall_mem_cons.mpr ⟨s_iret C0 hr dX10_arm_34, fun _ h => absurd h List.not_mem_nil⟩⟩⟩⟩⟩⟩⟩⟩⟩⟩⟩⟩⟩⟩⟩⟩⟩⟩⟩⟩
def fX10_arm : Mf := mf 3 (fun K => tl K lX10_arm)
theorem kX10_arm (l : Launch) : Okm l yX10_arm cX10_arm 3 (some .int) 5 fX10_arm := Okm_tl (own := RX10) (by decide +kernel) rfl (fun C0 hr => hX10_arm_0 l C0 hr)
theorem dX10_hasGame_0 : decode cX10_hasGame 0 = .ok (.iload_n 1, 1) := by decide +kernel
theorem dX10_hasGame_1 : decode cX10_hasGame 1 = .ok (.iconst 0, 1) := by decide +kernel
theorem dX10_hasGame_2 : decode cX10_hasGame 2 = .ok (.aload_n 0, 1) := by decide +kernel
theorem dX10_hasGame_3 : decode cX10_hasGame 3 = .ok (.getfield 28, 3) := by decide +kernel
theorem dX10_hasGame_6 : decode cX10_hasGame 6 = .ok (.getfield 135, 3) := by decide +kernel
theorem dX10_hasGame_9 : decode cX10_hasGame 9 = .ok (.iconst 1, 1) := by decide +kernel
theorem dX10_hasGame_10 : decode cX10_hasGame 10 = .ok (.isub, 1) := by decide +kernel
theorem dX10_hasGame_11 : decode cX10_hasGame 11 = .ok (.invokestatic 104, 3) := by decide +kernel
theorem dX10_hasGame_14 : decode cX10_hasGame 14 = .ok (.ireturn, 1) := by decide +kernel
def lX10_hasGame : List (Nat × (Op ⊕ Nat)) := [(0, .inl (o_iload 1 1)), (1, .inl (o_pushI (nI 0) 2)), (2, .inl (o_aload 0 3)), (3, .inl (o_get 10 2 6)), (6, .inl (o_get 9 4 9)), (9, .inl (o_pushI (nI 1) 10)), (10, .inl (o_isub 11)), (11, .inl (o_callS fX10_within 3 14)), (14, .inr 1)]
theorem qX10_hasGame : yX10_hasGame.cls = RX10 ∧ yX10_hasGame.cls ≠ "java/lang/invoke/MethodHandle" ∧ yX10_hasGame.cls ≠ "java/lang/invoke/VarHandle" ∧ (parseMethodDescriptor yX10_hasGame.desc).map (fun d => d.parameters.length) = some 1 := by decide +kernel
set_option maxRecDepth 10000 in
theorem hX10_hasGame_0 (l : Launch) {p : Program} {e : Env} {s : State} {m : MethodId} {args : Array Value} {below : List Frame} {meth : Method} {c : Code} {D : va_G} {ad adV : Nat → Nat} {cA : Nat → ClassId} {K : Kt} (C0 : Cx p s m args meth c D ad adV cA cX10_hasGame 2 RX10) (hr : meth.sig.returnType = (some .boolean)) : ∀ q ∈ lX10_hasGame, Sd p l e (rmd 1) s m args below meth c (MQ below (QQ D ad cA K) args s 0 0 (AA ad)) D ad cA 2 q.1 (opOf K q.2) := List.forall_mem_cons.mpr ⟨s_iload_n C0 dX10_hasGame_0 rfl, List.forall_mem_cons.mpr ⟨s_iconst C0 dX10_hasGame_1 rfl, List.forall_mem_cons.mpr ⟨s_aload_n C0 dX10_hasGame_2 rfl, List.forall_mem_cons.mpr ⟨s_get (ci := 10) (k := 2) C0 dX10_hasGame_3 inX10 rfl (by decide) tw2_120, List.forall_mem_cons.mpr ⟨s_get (ci := 9) (k := 4) C0 dX10_hasGame_6 inX9 rfl (by decide) tw1_95, List.forall_mem_cons.mpr ⟨s_iconst C0 dX10_hasGame_9 rfl, List.forall_mem_cons.mpr ⟨s_isub C0 dX10_hasGame_10, List.forall_mem_cons.mpr ⟨s_callS C0 (kX10_within l) dX10_hasGame_11 qX10_within tw2_170 tw2_171 tw1_1 tw2_172 rfl (by decide) (by decide), List.forall_mem_cons.mpr ⟨s_zret C0 hr dX10_hasGame_14, fun _ h => absurd h List.not_mem_nil⟩⟩⟩⟩⟩⟩⟩⟩⟩
def fX10_hasGame : Mf := mf 2 (fun K => tl K lX10_hasGame)
theorem kX10_hasGame (l : Launch) : Okm l yX10_hasGame cX10_hasGame 2 (some .boolean) 1 fX10_hasGame := Okm_tl (own := RX10) (by decide +kernel) rfl (fun C0 hr => hX10_hasGame_0 l C0 hr)
theorem dX10_tellGame_0 : decode cX10_tellGame 0 = .ok (.iload_n 2, 1) := by decide +kernel
theorem dX10_tellGame_1 : decode cX10_tellGame 1 = .ok (.tableswitch 84 0 4 #[35, 45, 55, 65, 75], 35) := by decide +kernel
theorem dX10_tellGame_36 : decode cX10_tellGame 36 = .ok (.aload_n 0, 1) := by decide +kernel
theorem dX10_tellGame_37 : decode cX10_tellGame 37 = .ok (.getfield 28, 3) := by decide +kernel
theorem dX10_tellGame_40 : decode cX10_tellGame 40 = .ok (.iload_n 1, 1) := by decide +kernel
theorem dX10_tellGame_41 : decode cX10_tellGame 41 = .ok (.iconst 0, 1) := by decide +kernel
theorem dX10_tellGame_42 : decode cX10_tellGame 42 = .ok (.invokevirtual 190, 3) := by decide +kernel
theorem dX10_tellGame_45 : decode cX10_tellGame 45 = .ok (.ireturn, 1) := by decide +kernel
theorem dX10_tellGame_46 : decode cX10_tellGame 46 = .ok (.aload_n 0, 1) := by decide +kernel
theorem dX10_tellGame_47 : decode cX10_tellGame 47 = .ok (.getfield 28, 3) := by decide +kernel
theorem dX10_tellGame_50 : decode cX10_tellGame 50 = .ok (.iload_n 1, 1) := by decide +kernel
theorem dX10_tellGame_51 : decode cX10_tellGame 51 = .ok (.iconst 1, 1) := by decide +kernel
theorem dX10_tellGame_52 : decode cX10_tellGame 52 = .ok (.invokevirtual 190, 3) := by decide +kernel
theorem dX10_tellGame_55 : decode cX10_tellGame 55 = .ok (.ireturn, 1) := by decide +kernel
theorem dX10_tellGame_56 : decode cX10_tellGame 56 = .ok (.aload_n 0, 1) := by decide +kernel
theorem dX10_tellGame_57 : decode cX10_tellGame 57 = .ok (.getfield 28, 3) := by decide +kernel
theorem dX10_tellGame_60 : decode cX10_tellGame 60 = .ok (.iload_n 1, 1) := by decide +kernel
theorem dX10_tellGame_61 : decode cX10_tellGame 61 = .ok (.iconst 2, 1) := by decide +kernel
theorem dX10_tellGame_62 : decode cX10_tellGame 62 = .ok (.invokevirtual 190, 3) := by decide +kernel
theorem dX10_tellGame_65 : decode cX10_tellGame 65 = .ok (.ireturn, 1) := by decide +kernel
theorem dX10_tellGame_66 : decode cX10_tellGame 66 = .ok (.aload_n 0, 1) := by decide +kernel
theorem dX10_tellGame_67 : decode cX10_tellGame 67 = .ok (.getfield 35, 3) := by decide +kernel
theorem dX10_tellGame_70 : decode cX10_tellGame 70 = .ok (.getfield 193, 3) := by decide +kernel
theorem dX10_tellGame_73 : decode cX10_tellGame 73 = .ok (.iload_n 1, 1) := by decide +kernel
theorem dX10_tellGame_74 : decode cX10_tellGame 74 = .ok (.iaload, 1) := by decide +kernel
theorem dX10_tellGame_75 : decode cX10_tellGame 75 = .ok (.ireturn, 1) := by decide +kernel
theorem dX10_tellGame_76 : decode cX10_tellGame 76 = .ok (.aload_n 0, 1) := by decide +kernel
theorem dX10_tellGame_77 : decode cX10_tellGame 77 = .ok (.getfield 44, 3) := by decide +kernel
theorem dX10_tellGame_80 : decode cX10_tellGame 80 = .ok (.iload_n 1, 1) := by decide +kernel
theorem dX10_tellGame_81 : decode cX10_tellGame 81 = .ok (.invokevirtual 196, 3) := by decide +kernel
theorem dX10_tellGame_84 : decode cX10_tellGame 84 = .ok (.ireturn, 1) := by decide +kernel
theorem dX10_tellGame_85 : decode cX10_tellGame 85 = .ok (.aload_n 0, 1) := by decide +kernel
theorem dX10_tellGame_86 : decode cX10_tellGame 86 = .ok (.getfield 44, 3) := by decide +kernel
theorem dX10_tellGame_89 : decode cX10_tellGame 89 = .ok (.iload_n 1, 1) := by decide +kernel
theorem dX10_tellGame_90 : decode cX10_tellGame 90 = .ok (.invokevirtual 199, 3) := by decide +kernel
theorem dX10_tellGame_93 : decode cX10_tellGame 93 = .ok (.ireturn, 1) := by decide +kernel
def lX10_tellGame : List (Nat × (Op ⊕ Nat)) := [(0, .inl (o_iload 2 1)), (1, .inl (o_table 0 4 85 [36, 46, 56, 66, 76])), (36, .inl (o_aload 0 37)), (37, .inl (o_get 10 2 40)), (40, .inl (o_iload 1 41)), (41, .inl (o_pushI (nI 0) 42)), (42, .inl (o_callV fX9_fact 2 9 45)), (45, .inr 0), (46, .inl (o_aload 0 47)), (47, .inl (o_get 10 2 50)), (50, .inl (o_iload 1 51)), (51, .inl (o_pushI (nI 1) 52)), (52, .inl (o_callV fX9_fact 2 9 55)), (55, .inr 0), (56, .inl (o_aload 0 57)), (57, .inl (o_get 10 2 60)), (60, .inl (o_iload 1 61)), (61, .inl (o_pushI (nI 2) 62)), (62, .inl (o_callV fX9_fact 2 9 65)), (65, .inr 0), (66, .inl (o_aload 0 67)), (67, .inl (o_get 10 3 70)), (70, .inl (o_get 5 0 73)), (73, .inl (o_iload 1 74)), (74, .inl (o_iald 75)), (75, .inr 0), (76, .inl (o_aload 0 77)), (77, .inl (o_get 10 4 80)), (80, .inl (o_iload 1 81)), (81, .inl (o_callV fX1_leftIn 1 1 84)), (84, .inr 0), (85, .inl (o_aload 0 86)), (86, .inl (o_get 10 4 89)), (89, .inl (o_iload 1 90)), (90, .inl (o_callV fX1_valueOfGame 1 1 93)), (93, .inr 0)]
theorem qX10_tellGame : yX10_tellGame.cls = RX10 ∧ yX10_tellGame.cls ≠ "java/lang/invoke/MethodHandle" ∧ yX10_tellGame.cls ≠ "java/lang/invoke/VarHandle" ∧ (parseMethodDescriptor yX10_tellGame.desc).map (fun d => d.parameters.length) = some 2 := by decide +kernel
set_option maxRecDepth 10000 in
theorem hX10_tellGame_0 (l : Launch) {p : Program} {e : Env} {s : State} {m : MethodId} {args : Array Value} {below : List Frame} {meth : Method} {c : Code} {D : va_G} {ad adV : Nat → Nat} {cA : Nat → ClassId} {K : Kt} (C0 : Cx p s m args meth c D ad adV cA cX10_tellGame 3 RX10) (hr : meth.sig.returnType = (some .int)) : ∀ q ∈ lX10_tellGame, Sd p l e (rmd 5) s m args below meth c (MQ below (QQ D ad cA K) args s 0 0 (AA ad)) D ad cA 3 q.1 (opOf K q.2) := List.forall_mem_cons.mpr ⟨s_iload_n C0 dX10_tellGame_0 rfl, List.forall_mem_cons.mpr ⟨s_table C0 dX10_tellGame_1 rfl rfl rfl, List.forall_mem_cons.mpr ⟨s_aload_n C0 dX10_tellGame_36 rfl, List.forall_mem_cons.mpr ⟨s_get (ci := 10) (k := 2) C0 dX10_tellGame_37 inX10 rfl (by decide) tw2_120, List.forall_mem_cons.mpr ⟨s_iload_n C0 dX10_tellGame_40 rfl, List.forall_mem_cons.mpr ⟨s_iconst C0 dX10_tellGame_41 rfl, List.forall_mem_cons.mpr ⟨s_callV (ci := 9) C0 (kX9_fact l) dX10_tellGame_42 rfl qX9_fact tw3_225 tw3_92 tw3_93 tw1_4 tw3_94 rfl (by decide) (by decide), List.forall_mem_cons.mpr ⟨s_iret C0 hr dX10_tellGame_45, List.forall_mem_cons.mpr ⟨s_aload_n C0 dX10_tellGame_46 rfl, List.forall_mem_cons.mpr ⟨s_get (ci := 10) (k := 2) C0 dX10_tellGame_47 inX10 rfl (by decide) tw2_120, List.forall_mem_cons.mpr ⟨s_iload_n C0 dX10_tellGame_50 rfl, List.forall_mem_cons.mpr ⟨s_iconst C0 dX10_tellGame_51 rfl, List.forall_mem_cons.mpr ⟨s_callV (ci := 9) C0 (kX9_fact l) dX10_tellGame_52 rfl qX9_fact tw3_225 tw3_92 tw3_93 tw1_4 tw3_94 rfl (by decide) (by decide), List.forall_mem_cons.mpr ⟨s_iret C0 hr dX10_tellGame_55, List.forall_mem_cons.mpr ⟨s_aload_n C0 dX10_tellGame_56 rfl, List.forall_mem_cons.mpr ⟨s_get (ci := 10) (k := 2) C0 dX10_tellGame_57 inX10 rfl (by decide) tw2_120, List.forall_mem_cons.mpr ⟨s_iload_n C0 dX10_tellGame_60 rfl, List.forall_mem_cons.mpr ⟨s_iconst C0 dX10_tellGame_61 rfl, List.forall_mem_cons.mpr ⟨s_callV (ci := 9) C0 (kX9_fact l) dX10_tellGame_62 rfl qX9_fact tw3_225 tw3_92 tw3_93 tw1_4 tw3_94 rfl (by decide) (by decide), List.forall_mem_cons.mpr ⟨s_iret C0 hr dX10_tellGame_65, List.forall_mem_cons.mpr ⟨s_aload_n C0 dX10_tellGame_66 rfl, List.forall_mem_cons.mpr ⟨s_get (ci := 10) (k := 3) C0 dX10_tellGame_67 inX10 rfl (by decide) tw2_121, List.forall_mem_cons.mpr ⟨s_get (ci := 5) (k := 0) C0 dX10_tellGame_70 inX5 rfl (by decide) tw1_171, List.forall_mem_cons.mpr ⟨s_iload_n C0 dX10_tellGame_73 rfl, List.forall_mem_cons.mpr ⟨s_iald C0 dX10_tellGame_74, List.forall_mem_cons.mpr ⟨s_iret C0 hr dX10_tellGame_75, List.forall_mem_cons.mpr ⟨s_aload_n C0 dX10_tellGame_76 rfl, List.forall_mem_cons.mpr ⟨s_get (ci := 10) (k := 4) C0 dX10_tellGame_77 inX10 rfl (by decide) tw2_122, List.forall_mem_cons.mpr ⟨s_iload_n C0 dX10_tellGame_80 rfl, List.forall_mem_cons.mpr ⟨s_callV (ci := 1) C0 (kX1_leftIn l) dX10_tellGame_81 rfl qX1_leftIn tw3_226 tw3_227 tw3_228 tw1_6 tw3_229 rfl (by decide) (by decide), List.forall_mem_cons.mpr ⟨s_iret C0 hr dX10_tellGame_84, List.forall_mem_cons.mpr ⟨s_aload_n C0 dX10_tellGame_85 rfl, List.forall_mem_cons.mpr ⟨s_get (ci := 10) (k := 4) C0 dX10_tellGame_86 inX10 rfl (by decide) tw2_122, List.forall_mem_cons.mpr ⟨s_iload_n C0 dX10_tellGame_89 rfl, List.forall_mem_cons.mpr ⟨s_callV (ci := 1) C0 (kX1_valueOfGame l) dX10_tellGame_90 rfl qX1_valueOfGame tw3_231 tw3_232 tw3_233 tw1_6 tw3_234 rfl (by decide) (by decide), List.forall_mem_cons.mpr ⟨s_iret C0 hr dX10_tellGame_93, fun _ h => absurd h List.not_mem_nil⟩⟩⟩⟩⟩⟩⟩⟩⟩⟩⟩⟩⟩⟩⟩⟩⟩⟩⟩⟩⟩⟩⟩⟩⟩⟩⟩⟩⟩⟩⟩⟩⟩⟩⟩⟩
def fX10_tellGame : Mf := mf 3 (fun K => tl K lX10_tellGame)
theorem kX10_tellGame (l : Launch) : Okm l yX10_tellGame cX10_tellGame 3 (some .int) 5 fX10_tellGame := Okm_tl (own := RX10) (by decide +kernel) rfl (fun C0 hr => hX10_tellGame_0 l C0 hr)
theorem dX10_game_0 : decode cX10_game 0 = .ok (.aload_n 0, 1) := by decide +kernel
theorem dX10_game_1 : decode cX10_game 1 = .ok (.iload_n 1, 1) := by decide +kernel
theorem dX10_game_2 : decode cX10_game 2 = .ok (.invokevirtual 184, 3) := by decide +kernel
theorem dX10_game_5 : decode cX10_game 5 = .ok (.ifCond .eq 12, 3) := by decide +kernel
theorem dX10_game_8 : decode cX10_game 8 = .ok (.iload_n 2, 1) := by decide +kernel
theorem dX10_game_9 : decode cX10_game 9 = .ok (.iconst 0, 1) := by decide +kernel
theorem dX10_game_10 : decode cX10_game 10 = .ok (.iconst 5, 1) := by decide +kernel
theorem dX10_game_11 : decode cX10_game 11 = .ok (.invokestatic 104, 3) := by decide +kernel
theorem dX10_game_14 : decode cX10_game 14 = .ok (.ifCond .ne 9, 3) := by decide +kernel
theorem dX10_game_17 : decode cX10_game 17 = .ok (.aload_n 0, 1) := by decide +kernel
theorem dX10_game_18 : decode cX10_game 18 = .ok (.iconst 1, 1) := by decide +kernel
theorem dX10_game_19 : decode cX10_game 19 = .ok (.invokevirtual 108, 3) := by decide +kernel
theorem dX10_game_22 : decode cX10_game 22 = .ok (.ireturn, 1) := by decide +kernel
theorem dX10_game_23 : decode cX10_game 23 = .ok (.aload_n 0, 1) := by decide +kernel
theorem dX10_game_24 : decode cX10_game 24 = .ok (.aload_n 0, 1) := by decide +kernel
theorem dX10_game_25 : decode cX10_game 25 = .ok (.iload_n 1, 1) := by decide +kernel
theorem dX10_game_26 : decode cX10_game 26 = .ok (.iload_n 2, 1) := by decide +kernel
theorem dX10_game_27 : decode cX10_game 27 = .ok (.invokevirtual 187, 3) := by decide +kernel
theorem dX10_game_30 : decode cX10_game 30 = .ok (.invokevirtual 138, 3) := by decide +kernel
theorem dX10_game_33 : decode cX10_game 33 = .ok (.ireturn, 1) := by decide +kernel
def lX10_game : List (Nat × (Op ⊕ Nat)) := [(0, .inl (o_aload 0 1)), (1, .inl (o_iload 1 2)), (2, .inl (o_callV fX10_hasGame 1 10 5)), (5, .inl (o_if_eq 17 8)), (8, .inl (o_iload 2 9)), (9, .inl (o_pushI (nI 0) 10)), (10, .inl (o_pushI (nI 5) 11)), (11, .inl (o_callS fX10_within 3 14)), (14, .inl (o_if_ne 23 17)), (17, .inl (o_aload 0 18)), (18, .inl (o_pushI (nI 1) 19)), (19, .inl (o_callV fX10_refuse 1 10 22)), (22, .inr 0), (23, .inl (o_aload 0 24)), (24, .inl (o_aload 0 25)), (25, .inl (o_iload 1 26)), (26, .inl (o_iload 2 27)), (27, .inl (o_callV fX10_tellGame 2 10 30)), (30, .inl (o_callV fX10_answer 1 10 33)), (33, .inr 0)]
theorem qX10_game : yX10_game.cls = RX10 ∧ yX10_game.cls ≠ "java/lang/invoke/MethodHandle" ∧ yX10_game.cls ≠ "java/lang/invoke/VarHandle" ∧ (parseMethodDescriptor yX10_game.desc).map (fun d => d.parameters.length) = some 2 := by decide +kernel
set_option maxRecDepth 10000 in
theorem hX10_game_0 (l : Launch) {p : Program} {e : Env} {s : State} {m : MethodId} {args : Array Value} {below : List Frame} {meth : Method} {c : Code} {D : va_G} {ad adV : Nat → Nat} {cA : Nat → ClassId} {K : Kt} (C0 : Cx p s m args meth c D ad adV cA cX10_game 3 RX10) (hr : meth.sig.returnType = (some .int)) : ∀ q ∈ lX10_game, Sd p l e (rmd 6) s m args below meth c (MQ below (QQ D ad cA K) args s 0 0 (AA ad)) D ad cA 3 q.1 (opOf K q.2) := List.forall_mem_cons.mpr ⟨s_aload_n C0 dX10_game_0 rfl, List.forall_mem_cons.mpr ⟨s_iload_n C0 dX10_game_1 rfl, List.forall_mem_cons.mpr ⟨s_callV (ci := 10) C0 (kX10_hasGame l) dX10_game_2 rfl qX10_hasGame tw3_217 tw3_219 twp_19 tw1_1 tw3_220 rfl (by decide) (by decide), List.forall_mem_cons.mpr ⟨s_if_eq C0 dX10_game_5 rfl, List.forall_mem_cons.mpr ⟨s_iload_n C0 dX10_game_8 rfl, List.forall_mem_cons.mpr ⟨s_iconst C0 dX10_game_9 rfl, List.forall_mem_cons.mpr ⟨s_iconst C0 dX10_game_10 rfl, List.forall_mem_cons.mpr ⟨s_callS C0 (kX10_within l) dX10_game_11 qX10_within tw2_170 tw2_171 tw1_1 tw2_172 rfl (by decide) (by decide), List.forall_mem_cons.mpr ⟨s_if_ne C0 dX10_game_14 rfl, List.forall_mem_cons.mpr ⟨s_aload_n C0 dX10_game_17 rfl, List.forall_mem_cons.mpr ⟨s_iconst C0 dX10_game_18 rfl, List.forall_mem_cons.mpr ⟨s_callV (ci := 10) C0 (kX10_refuse l) dX10_game_19 rfl qX10_refuse tw2_173 tw2_175 twp_0 tw1_1 tw2_176 rfl (by decide) (by decide), List.forall_mem_cons.mpr ⟨s_iret C0 hr dX10_game_22, List.forall_mem_cons.mpr ⟨s_aload_n C0 dX10_game_23 rfl, List.forall_mem_cons.mpr ⟨s_aload_n C0 dX10_game_24 rfl, List.forall_mem_cons.mpr ⟨s_iload_n C0 dX10_game_25 rfl, List.forall_mem_cons.mpr ⟨s_iload_n C0 dX10_game_26 rfl, List.forall_mem_cons.mpr ⟨s_callV (ci := 10) C0 (kX10_tellGame l) dX10_game_27 rfl qX10_tellGame tw3_221 tw3_223 twp_20 tw1_1 tw3_224 rfl (by decide) (by decide), List.forall_mem_cons.mpr ⟨s_callV (ci := 10) C0 (kX10_answer l) dX10_game_30 rfl qX10_answer tw3_139 tw3_141 twp_14 tw1_1 tw3_142 rfl (by decide) (by decide), List.forall_mem_cons.mpr ⟨s_iret C0 hr dX10_game_33, fun _ h => absurd h List.not_mem_nil⟩⟩⟩⟩⟩⟩⟩⟩⟩⟩⟩⟩⟩⟩⟩⟩⟩⟩⟩⟩
def fX10_game : Mf := mf 3 (fun K => tl K lX10_game)
theorem kX10_game (l : Launch) : Okm l yX10_game cX10_game 3 (some .int) 6 fX10_game := Okm_tl (own := RX10) (by decide +kernel) rfl (fun C0 hr => hX10_game_0 l C0 hr)
theorem dX10_rest_0 : decode cX10_rest 0 = .ok (.aload_n 0, 1) := by decide +kernel
theorem dX10_rest_1 : decode cX10_rest 1 = .ok (.invokevirtual 141, 3) := by decide +kernel
theorem dX10_rest_4 : decode cX10_rest 4 = .ok (.ifCond .ne 9, 3) := by decide +kernel
theorem dX10_rest_7 : decode cX10_rest 7 = .ok (.aload_n 0, 1) := by decide +kernel
theorem dX10_rest_8 : decode cX10_rest 8 = .ok (.iconst 1, 1) := by decide +kernel
theorem dX10_rest_9 : decode cX10_rest 9 = .ok (.invokevirtual 108, 3) := by decide +kernel
theorem dX10_rest_12 : decode cX10_rest 12 = .ok (.ireturn, 1) := by decide +kernel
theorem dX10_rest_13 : decode cX10_rest 13 = .ok (.iload_n 1, 1) := by decide +kernel
theorem dX10_rest_14 : decode cX10_rest 14 = .ok (.iconst 0, 1) := by decide +kernel
theorem dX10_rest_15 : decode cX10_rest 15 = .ok (.sipush 200, 3) := by decide +kernel
theorem dX10_rest_18 : decode cX10_rest 18 = .ok (.invokestatic 104, 3) := by decide +kernel
theorem dX10_rest_21 : decode cX10_rest 21 = .ok (.ifCond .ne 9, 3) := by decide +kernel
theorem dX10_rest_24 : decode cX10_rest 24 = .ok (.aload_n 0, 1) := by decide +kernel
theorem dX10_rest_25 : decode cX10_rest 25 = .ok (.iconst 2, 1) := by decide +kernel
theorem dX10_rest_26 : decode cX10_rest 26 = .ok (.invokevirtual 108, 3) := by decide +kernel
theorem dX10_rest_29 : decode cX10_rest 29 = .ok (.ireturn, 1) := by decide +kernel
theorem dX10_rest_30 : decode cX10_rest 30 = .ok (.aload_n 0, 1) := by decide +kernel
theorem dX10_rest_31 : decode cX10_rest 31 = .ok (.aload_n 0, 1) := by decide +kernel
theorem dX10_rest_32 : decode cX10_rest 32 = .ok (.getfield 28, 3) := by decide +kernel
theorem dX10_rest_35 : decode cX10_rest 35 = .ok (.iload_n 1, 1) := by decide +kernel
theorem dX10_rest_36 : decode cX10_rest 36 = .ok (.invokevirtual 202, 3) := by decide +kernel
theorem dX10_rest_39 : decode cX10_rest 39 = .ok (.invokevirtual 138, 3) := by decide +kernel
theorem dX10_rest_42 : decode cX10_rest 42 = .ok (.ireturn, 1) := by decide +kernel
def lX10_rest : List (Nat × (Op ⊕ Nat)) := [(0, .inl (o_aload 0 1)), (1, .inl (o_callV fX10_hasText 0 10 4)), (4, .inl (o_if_ne 13 7)), (7, .inl (o_aload 0 8)), (8, .inl (o_pushI (nI 1) 9)), (9, .inl (o_callV fX10_refuse 1 10 12)), (12, .inr 0), (13, .inl (o_iload 1 14)), (14, .inl (o_pushI (nI 0) 15)), (15, .inl (o_pushI (nI 200) 18)), (18, .inl (o_callS fX10_within 3 21)), (21, .inl (o_if_ne 30 24)), (24, .inl (o_aload 0 25)), (25, .inl (o_pushI (nI 2) 26)), (26, .inl (o_callV fX10_refuse 1 10 29)), (29, .inr 0), (30, .inl (o_aload 0 31)), (31, .inl (o_aload 0 32)), (32, .inl (o_get 10 2 35)), (35, .inl (o_iload 1 36)), (36, .inl (o_callV fX9_restAfter 1 9 39)), (39, .inl (o_callV fX10_answer 1 10 42)), (42, .inr 0)]
theorem qX10_rest : yX10_rest.cls = RX10 ∧ yX10_rest.cls ≠ "java/lang/invoke/MethodHandle" ∧ yX10_rest.cls ≠ "java/lang/invoke/VarHandle" ∧ (parseMethodDescriptor yX10_rest.desc).map (fun d => d.parameters.length) = some 1 := by decide +kernel
set_option maxRecDepth 10000 in
theorem hX10_rest_0 (l : Launch) {p : Program} {e : Env} {s : State} {m : MethodId} {args : Array Value} {below : List Frame} {meth : Method} {c : Code} {D : va_G} {ad adV : Nat → Nat} {cA : Nat → ClassId} {K : Kt} (C0 : Cx p s m args meth c D ad adV cA cX10_rest 2 RX10) (hr : meth.sig.returnType = (some .int)) : ∀ q ∈ lX10_rest, Sd p l e (rmd 1) s m args below meth c (MQ below (QQ D ad cA K) args s 0 0 (AA ad)) D ad cA 2 q.1 (opOf K q.2) := List.forall_mem_cons.mpr ⟨s_aload_n C0 dX10_rest_0 rfl, List.forall_mem_cons.mpr ⟨s_callV (ci := 10) C0 (kX10_hasText l) dX10_rest_1 rfl qX10_hasText tw3_155 tw3_157 twp_15 tw1_1 tw3_158 rfl (by decide) (by decide), List.forall_mem_cons.mpr ⟨s_if_ne C0 dX10_rest_4 rfl, List.forall_mem_cons.mpr ⟨s_aload_n C0 dX10_rest_7 rfl, List.forall_mem_cons.mpr ⟨s_iconst C0 dX10_rest_8 rfl, List.forall_mem_cons.mpr ⟨s_callV (ci := 10) C0 (kX10_refuse l) dX10_rest_9 rfl qX10_refuse tw2_173 tw2_175 twp_0 tw1_1 tw2_176 rfl (by decide) (by decide), List.forall_mem_cons.mpr ⟨s_iret C0 hr dX10_rest_12, List.forall_mem_cons.mpr ⟨s_iload_n C0 dX10_rest_13 rfl, List.forall_mem_cons.mpr ⟨s_iconst C0 dX10_rest_14 rfl, List.forall_mem_cons.mpr ⟨s_sipush C0 dX10_rest_15 (by decide +kernel), List.forall_mem_cons.mpr ⟨s_callS C0 (kX10_within l) dX10_rest_18 qX10_within tw2_170 tw2_171 tw1_1 tw2_172 rfl (by decide) (by decide), List.forall_mem_cons.mpr ⟨s_if_ne C0 dX10_rest_21 rfl, List.forall_mem_cons.mpr ⟨s_aload_n C0 dX10_rest_24 rfl, List.forall_mem_cons.mpr ⟨s_iconst C0 dX10_rest_25 rfl, List.forall_mem_cons.mpr ⟨s_callV (ci := 10) C0 (kX10_refuse l) dX10_rest_26 rfl qX10_refuse tw2_173 tw2_175 twp_0 tw1_1 tw2_176 rfl (by decide) (by decide), List.forall_mem_cons.mpr ⟨s_iret C0 hr dX10_rest_29, List.forall_mem_cons.mpr ⟨s_aload_n C0 dX10_rest_30 rfl, List.forall_mem_cons.mpr ⟨s_aload_n C0 dX10_rest_31 rfl, List.forall_mem_cons.mpr ⟨s_get (ci := 10) (k := 2) C0 dX10_rest_32 inX10 rfl (by decide) tw2_120, List.forall_mem_cons.mpr ⟨s_iload_n C0 dX10_rest_35 rfl, List.forall_mem_cons.mpr ⟨s_callV (ci := 9) C0 (kX9_restAfter l) dX10_rest_36 rfl qX9_restAfter tw4_4 tw4_5 tw4_6 tw1_4 tw4_7 rfl (by decide) (by decide), List.forall_mem_cons.mpr ⟨s_callV (ci := 10) C0 (kX10_answer l) dX10_rest_39 rfl qX10_answer tw3_139 tw3_141 twp_14 tw1_1 tw3_142 rfl (by decide) (by decide), List.forall_mem_cons.mpr ⟨s_iret C0 hr dX10_rest_42, fun _ h => absurd h List.not_mem_nil⟩⟩⟩⟩⟩⟩⟩⟩⟩⟩⟩⟩⟩⟩⟩⟩⟩⟩⟩⟩⟩⟩⟩
def fX10_rest : Mf := mf 2 (fun K => tl K lX10_rest)
theorem kX10_rest (l : Launch) : Okm l yX10_rest cX10_rest 2 (some .int) 1 fX10_rest := Okm_tl (own := RX10) (by decide +kernel) rfl (fun C0 hr => hX10_rest_0 l C0 hr)
theorem dX10_hasOuting_0 : decode cX10_hasOuting 0 = .ok (.aload_n 0, 1) := by decide +kernel
theorem dX10_hasOuting_1 : decode cX10_hasOuting 1 = .ok (.iload_n 1, 1) := by decide +kernel
theorem dX10_hasOuting_2 : decode cX10_hasOuting 2 = .ok (.invokevirtual 184, 3) := by decide +kernel
theorem dX10_hasOuting_5 : decode cX10_hasOuting 5 = .ok (.ifCond .eq 26, 3) := by decide +kernel
theorem dX10_hasOuting_8 : decode cX10_hasOuting 8 = .ok (.iload_n 2, 1) := by decide +kernel
theorem dX10_hasOuting_9 : decode cX10_hasOuting 9 = .ok (.iconst 0, 1) := by decide +kernel
theorem dX10_hasOuting_10 : decode cX10_hasOuting 10 = .ok (.aload_n 0, 1) := by decide +kernel
theorem dX10_hasOuting_11 : decode cX10_hasOuting 11 = .ok (.getfield 35, 3) := by decide +kernel
theorem dX10_hasOuting_14 : decode cX10_hasOuting 14 = .ok (.getfield 193, 3) := by decide +kernel
theorem dX10_hasOuting_17 : decode cX10_hasOuting 17 = .ok (.iload_n 1, 1) := by decide +kernel
theorem dX10_hasOuting_18 : decode cX10_hasOuting 18 = .ok (.iaload, 1) := by decide +kernel
theorem dX10_hasOuting_19 : decode cX10_hasOuting 19 = .ok (.iconst 1, 1) := by decide +kernel
theorem dX10_hasOuting_20 : decode cX10_hasOuting 20 = .ok (.isub, 1) := by decide +kernel
theorem dX10_hasOuting_21 : decode cX10_hasOuting 21 = .ok (.invokestatic 104, 3) := by decide +kernel
theorem dX10_hasOuting_24 : decode cX10_hasOuting 24 = .ok (.ifCond .eq 7, 3) := by decide +kernel
theorem dX10_hasOuting_27 : decode cX10_hasOuting 27 = .ok (.iconst 1, 1) := by decide +kernel
theorem dX10_hasOuting_28 : decode cX10_hasOuting 28 = .ok (.goto 4, 3) := by decide +kernel
theorem dX10_hasOuting_31 : decode cX10_hasOuting 31 = .ok (.iconst 0, 1) := by decide +kernel
theorem dX10_hasOuting_32 : decode cX10_hasOuting 32 = .ok (.ireturn, 1) := by decide +kernel
def lX10_hasOuting : List (Nat × (Op ⊕ Nat)) := [(0, .inl (o_aload 0 1)), (1, .inl (o_iload 1 2)), (2, .inl (o_callV fX10_hasGame 1 10 5)), (5, .inl (o_if_eq 31 8)), (8, .inl (o_iload 2 9)), (9, .inl (o_pushI (nI 0) 10)), (10, .inl (o_aload 0 11)), (11, .inl (o_get 10 3 14)), (14, .inl (o_get 5 0 17)), (17, .inl (o_iload 1 18)), (18, .inl (o_iald 19)), (19, .inl (o_pushI (nI 1) 20)), (20, .inl (o_isub 21)), (21, .inl (o_callS fX10_within 3 24)), (24, .inl (o_if_eq 31 27)), (27, .inl (o_pushI (nI 1) 28)), (28, .inl (o_goto 32)), (31, .inl (o_pushI (nI 0) 32)), (32, .inr 1)]
theorem qX10_hasOuting : yX10_hasOuting.cls = RX10 ∧ yX10_hasOuting.cls ≠ "java/lang/invoke/MethodHandle" ∧ yX10_hasOuting.cls ≠ "java/lang/invoke/VarHandle" ∧ (parseMethodDescriptor yX10_hasOuting.desc).map (fun d => d.parameters.length) = some 2 := by decide +kernel
set_option maxRecDepth 10000 in
theorem hX10_hasOuting_0 (l : Launch) {p : Program} {e : Env} {s : State} {m : MethodId} {args : Array Value} {below : List Frame} {meth : Method} {c : Code} {D : va_G} {ad adV : Nat → Nat} {cA : Nat → ClassId} {K : Kt} (C0 : Cx p s m args meth c D ad adV cA cX10_hasOuting 3 RX10) (hr : meth.sig.returnType = (some .boolean)) : ∀ q ∈ lX10_hasOuting, Sd p l e (rmd 2) s m args below meth c (MQ below (QQ D ad cA K) args s 0 0 (AA ad)) D ad cA 3 q.1 (opOf K q.2) := List.forall_mem_cons.mpr ⟨s_aload_n C0 dX10_hasOuting_0 rfl, List.forall_mem_cons.mpr ⟨s_iload_n C0 dX10_hasOuting_1 rfl, List.forall_mem_cons.mpr ⟨s_callV (ci := 10) C0 (kX10_hasGame l) dX10_hasOuting_2 rfl qX10_hasGame tw3_217 tw3_219 twp_19 tw1_1 tw3_220 rfl (by decide) (by decide), List.forall_mem_cons.mpr ⟨s_if_eq C0 dX10_hasOuting_5 rfl, List.forall_mem_cons.mpr ⟨s_iload_n C0 dX10_hasOuting_8 rfl, List.forall_mem_cons.mpr ⟨s_iconst C0 dX10_hasOuting_9 rfl, List.forall_mem_cons.mpr ⟨s_aload_n C0 dX10_hasOuting_10 rfl, List.forall_mem_cons.mpr ⟨s_get (ci := 10) (k := 3) C0 dX10_hasOuting_11 inX10 rfl (by decide) tw2_121, List.forall_mem_cons.mpr ⟨s_get (ci := 5) (k := 0) C0 dX10_hasOuting_14 inX5 rfl (by decide) tw1_171, List.forall_mem_cons.mpr ⟨s_iload_n C0 dX10_hasOuting_17 rfl, List.forall_mem_cons.mpr ⟨s_iald C0 dX10_hasOuting_18, List.forall_mem_cons.mpr ⟨s_iconst C0 dX10_hasOuting_19 rfl, List.forall_mem_cons.mpr ⟨s_isub C0 dX10_hasOuting_20, List.forall_mem_cons.mpr ⟨s_callS C0 (kX10_within l) dX10_hasOuting_21 qX10_within tw2_170 tw2_171 tw1_1 tw2_172 rfl (by decide) (by decide), List.forall_mem_cons.mpr ⟨s_if_eq C0 dX10_hasOuting_24 rfl, List.forall_mem_cons.mpr ⟨s_iconst C0 dX10_hasOuting_27 rfl, List.forall_mem_cons.mpr ⟨s_goto C0 dX10_hasOuting_28 rfl, List.forall_mem_cons.mpr ⟨s_iconst C0 dX10_hasOuting_31 rfl, List.forall_mem_cons.mpr ⟨s_zret C0 hr dX10_hasOuting_32, fun _ h => absurd h List.not_mem_nil⟩⟩⟩⟩⟩⟩⟩⟩⟩⟩⟩⟩⟩⟩⟩⟩⟩⟩⟩
def fX10_hasOuting : Mf := mf 3 (fun K => tl K lX10_hasOuting)
theorem kX10_hasOuting (l : Launch) : Okm l yX10_hasOuting cX10_hasOuting 3 (some .boolean) 2 fX10_hasOuting := Okm_tl (own := RX10) (by decide +kernel) rfl (fun C0 hr => hX10_hasOuting_0 l C0 hr)
theorem dX10_tellOuting_0 : decode cX10_tellOuting 0 = .ok (.iload_n 3, 1) := by decide +kernel
theorem dX10_tellOuting_1 : decode cX10_tellOuting 1 = .ok (.tableswitch 71 0 3 #[31, 41, 51, 61], 31) := by decide +kernel
theorem dX10_tellOuting_32 : decode cX10_tellOuting 32 = .ok (.aload_n 0, 1) := by decide +kernel
theorem dX10_tellOuting_33 : decode cX10_tellOuting 33 = .ok (.getfield 35, 3) := by decide +kernel
theorem dX10_tellOuting_36 : decode cX10_tellOuting 36 = .ok (.iload_n 1, 1) := by decide +kernel
theorem dX10_tellOuting_37 : decode cX10_tellOuting 37 = .ok (.iload_n 2, 1) := by decide +kernel
theorem dX10_tellOuting_38 : decode cX10_tellOuting 38 = .ok (.invokevirtual 213, 3) := by decide +kernel
theorem dX10_tellOuting_41 : decode cX10_tellOuting 41 = .ok (.ireturn, 1) := by decide +kernel
theorem dX10_tellOuting_42 : decode cX10_tellOuting 42 = .ok (.aload_n 0, 1) := by decide +kernel
theorem dX10_tellOuting_43 : decode cX10_tellOuting 43 = .ok (.getfield 35, 3) := by decide +kernel
theorem dX10_tellOuting_46 : decode cX10_tellOuting 46 = .ok (.iload_n 1, 1) := by decide +kernel
theorem dX10_tellOuting_47 : decode cX10_tellOuting 47 = .ok (.iload_n 2, 1) := by decide +kernel
theorem dX10_tellOuting_48 : decode cX10_tellOuting 48 = .ok (.invokevirtual 216, 3) := by decide +kernel
theorem dX10_tellOuting_51 : decode cX10_tellOuting 51 = .ok (.ireturn, 1) := by decide +kernel
theorem dX10_tellOuting_52 : decode cX10_tellOuting 52 = .ok (.aload_n 0, 1) := by decide +kernel
theorem dX10_tellOuting_53 : decode cX10_tellOuting 53 = .ok (.getfield 44, 3) := by decide +kernel
theorem dX10_tellOuting_56 : decode cX10_tellOuting 56 = .ok (.iload_n 1, 1) := by decide +kernel
theorem dX10_tellOuting_57 : decode cX10_tellOuting 57 = .ok (.iload_n 2, 1) := by decide +kernel
theorem dX10_tellOuting_58 : decode cX10_tellOuting 58 = .ok (.invokevirtual 219, 3) := by decide +kernel
theorem dX10_tellOuting_61 : decode cX10_tellOuting 61 = .ok (.ireturn, 1) := by decide +kernel
theorem dX10_tellOuting_62 : decode cX10_tellOuting 62 = .ok (.aload_n 0, 1) := by decide +kernel
theorem dX10_tellOuting_63 : decode cX10_tellOuting 63 = .ok (.getfield 44, 3) := by decide +kernel
theorem dX10_tellOuting_66 : decode cX10_tellOuting 66 = .ok (.iload_n 1, 1) := by decide +kernel
theorem dX10_tellOuting_67 : decode cX10_tellOuting 67 = .ok (.iload_n 2, 1) := by decide +kernel
theorem dX10_tellOuting_68 : decode cX10_tellOuting 68 = .ok (.invokevirtual 222, 3) := by decide +kernel
theorem dX10_tellOuting_71 : decode cX10_tellOuting 71 = .ok (.ireturn, 1) := by decide +kernel
theorem dX10_tellOuting_72 : decode cX10_tellOuting 72 = .ok (.aload_n 0, 1) := by decide +kernel
theorem dX10_tellOuting_73 : decode cX10_tellOuting 73 = .ok (.getfield 53, 3) := by decide +kernel
theorem dX10_tellOuting_76 : decode cX10_tellOuting 76 = .ok (.iload_n 1, 1) := by decide +kernel
theorem dX10_tellOuting_77 : decode cX10_tellOuting 77 = .ok (.iload_n 2, 1) := by decide +kernel
theorem dX10_tellOuting_78 : decode cX10_tellOuting 78 = .ok (.invokevirtual 225, 3) := by decide +kernel
theorem dX10_tellOuting_81 : decode cX10_tellOuting 81 = .ok (.ifCond .eq 7, 3) := by decide +kernel
theorem dX10_tellOuting_84 : decode cX10_tellOuting 84 = .ok (.iconst 1, 1) := by decide +kernel
theorem dX10_tellOuting_85 : decode cX10_tellOuting 85 = .ok (.goto 4, 3) := by decide +kernel
theorem dX10_tellOuting_88 : decode cX10_tellOuting 88 = .ok (.iconst 0, 1) := by decide +kernel
theorem dX10_tellOuting_89 : decode cX10_tellOuting 89 = .ok (.ireturn, 1) := by decide +kernel
def lX10_tellOuting : List (Nat × (Op ⊕ Nat)) := [(0, .inl (o_iload 3 1)), (1, .inl (o_table 0 3 72 [32, 42, 52, 62])), (32, .inl (o_aload 0 33)), (33, .inl (o_get 10 3 36)), (36, .inl (o_iload 1 37)), (37, .inl (o_iload 2 38)), (38, .inl (o_callV fX5_armAt 2 5 41)), (41, .inr 0), (42, .inl (o_aload 0 43)), (43, .inl (o_get 10 3 46)), (46, .inl (o_iload 1 47)), (47, .inl (o_iload 2 48)), (48, .inl (o_callV fX5_throwsAt 2 5 51)), (51, .inr 0), (52, .inl (o_aload 0 53)), (53, .inl (o_get 10 4 56)), (56, .inl (o_iload 1 57)), (57, .inl (o_iload 2 58)), (58, .inl (o_callV fX1_valueAt 2 1 61)), (61, .inr 0), (62, .inl (o_aload 0 63)), (63, .inl (o_get 10 4 66)), (66, .inl (o_iload 1 67)), (67, .inl (o_iload 2 68)), (68, .inl (o_callV fX1_riskAt 2 1 71)), (71, .inr 0), (72, .inl (o_aload 0 73)), (73, .inl (o_get 10 5 76)), (76, .inl (o_iload 1 77)), (77, .inl (o_iload 2 78)), (78, .inl (o_callV fX3_allowsAt 2 3 81)), (81, .inl (o_if_eq 88 84)), (84, .inl (o_pushI (nI 1) 85)), (85, .inl (o_goto 89)), (88, .inl (o_pushI (nI 0) 89)), (89, .inr 0)]
theorem qX10_tellOuting : yX10_tellOuting.cls = RX10 ∧ yX10_tellOuting.cls ≠ "java/lang/invoke/MethodHandle" ∧ yX10_tellOuting.cls ≠ "java/lang/invoke/VarHandle" ∧ (parseMethodDescriptor yX10_tellOuting.desc).map (fun d => d.parameters.length) = some 3 := by decide +kernel
set_option maxRecDepth 10000 in
theorem hX10_tellOuting_0 (l : Launch) {p : Program} {e : Env} {s : State} {m : MethodId} {args : Array Value} {below : List Frame} {meth : Method} {c : Code} {D : va_G} {ad adV : Nat → Nat} {cA : Nat → ClassId} {K : Kt} (C0 : Cx p s m args meth c D ad adV cA cX10_tellOuting 4 RX10) (hr : meth.sig.returnType = (some .int)) : ∀ q ∈ lX10_tellOuting, Sd p l e (rmd 6) s m args below meth c (MQ below (QQ D ad cA K) args s 0 0 (AA ad)) D ad cA 4 q.1 (opOf K q.2) := List.forall_mem_cons.mpr ⟨s_iload_n C0 dX10_tellOuting_0 rfl, List.forall_mem_cons.mpr ⟨s_table C0 dX10_tellOuting_1 rfl rfl rfl, List.forall_mem_cons.mpr ⟨s_aload_n C0 dX10_tellOuting_32 rfl, List.forall_mem_cons.mpr ⟨s_get (ci := 10) (k := 3) C0 dX10_tellOuting_33 inX10 rfl (by decide) tw2_121, List.forall_mem_cons.mpr ⟨s_iload_n C0 dX10_tellOuting_36 rfl, List.forall_mem_cons.mpr ⟨s_iload_n C0 dX10_tellOuting_37 rfl, List.forall_mem_cons.mpr ⟨s_callV (ci := 5) C0 (kX5_armAt l) dX10_tellOuting_38 rfl qX5_armAt tw4_20 tw3_128 tw3_129 tw1_5 tw3_130 rfl (by decide) (by decide), List.forall_mem_cons.mpr ⟨s_iret C0 hr dX10_tellOuting_41, List.forall_mem_cons.mpr ⟨s_aload_n C0 dX10_tellOuting_42 rfl, List.forall_mem_cons.mpr ⟨s_get (ci := 10) (k := 3) C0 dX10_tellOuting_43 inX10 rfl (by decide) tw2_121, List.forall_mem_cons.mpr ⟨s_iload_n C0 dX10_tellOuting_46 rfl, List.forall_mem_cons.mpr ⟨s_iload_n C0 dX10_tellOuting_47 rfl, List.forall_mem_cons.mpr ⟨s_callV (ci := 5) C0 (kX5_throwsAt l) dX10_tellOuting_48 rfl qX5_throwsAt tw4_21 tw3_132 tw3_133 tw1_5 tw3_134 rfl (by decide) (by decide), List.forall_mem_cons.mpr ⟨s_iret C0 hr dX10_tellOuting_51, List.forall_mem_cons.mpr ⟨s_aload_n C0 dX10_tellOuting_52 rfl, List.forall_mem_cons.mpr ⟨s_get (ci := 10) (k := 4) C0 dX10_tellOuting_53 inX10 rfl (by decide) tw2_122, List.forall_mem_cons.mpr ⟨s_iload_n C0 dX10_tellOuting_56 rfl, List.forall_mem_cons.mpr ⟨s_iload_n C0 dX10_tellOuting_57 rfl, List.forall_mem_cons.mpr ⟨s_callV (ci := 1) C0 (kX1_valueAt l) dX10_tellOuting_58 rfl qX1_valueAt tw4_22 tw3_236 tw3_237 tw1_6 tw3_238 rfl (by decide) (by decide), List.forall_mem_cons.mpr ⟨s_iret C0 hr dX10_tellOuting_61, List.forall_mem_cons.mpr ⟨s_aload_n C0 dX10_tellOuting_62 rfl, List.forall_mem_cons.mpr ⟨s_get (ci := 10) (k := 4) C0 dX10_tellOuting_63 inX10 rfl (by decide) tw2_122, List.forall_mem_cons.mpr ⟨s_iload_n C0 dX10_tellOuting_66 rfl, List.forall_mem_cons.mpr ⟨s_iload_n C0 dX10_tellOuting_67 rfl, List.forall_mem_cons.mpr ⟨s_callV (ci := 1) C0 (kX1_riskAt l) dX10_tellOuting_68 rfl qX1_riskAt tw4_23 tw4_24 tw4_25 tw1_6 tw4_26 rfl (by decide) (by decide), List.forall_mem_cons.mpr ⟨s_iret C0 hr dX10_tellOuting_71, List.forall_mem_cons.mpr ⟨s_aload_n C0 dX10_tellOuting_72 rfl, List.forall_mem_cons.mpr ⟨s_get (ci := 10) (k := 5) C0 dX10_tellOuting_73 inX10 rfl (by decide) tw2_123, List.forall_mem_cons.mpr ⟨s_iload_n C0 dX10_tellOuting_76 rfl, List.forall_mem_cons.mpr ⟨s_iload_n C0 dX10_tellOuting_77 rfl, List.forall_mem_cons.mpr ⟨s_callV (ci := 3) C0 (kX3_allowsAt l) dX10_tellOuting_78 rfl qX3_allowsAt tw4_31 tw4_32 tw4_33 tw1_7 tw4_34 rfl (by decide) (by decide), List.forall_mem_cons.mpr ⟨s_if_eq C0 dX10_tellOuting_81 rfl, List.forall_mem_cons.mpr ⟨s_iconst C0 dX10_tellOuting_84 rfl, List.forall_mem_cons.mpr ⟨s_goto C0 dX10_tellOuting_85 rfl, List.forall_mem_cons.mpr ⟨s_iconst C0 dX10_tellOuting_88 rfl, List.forall_mem_cons.mpr ⟨s_iret C0 hr dX10_tellOuting_89, fun _ h => absurd h List.not_mem_nil⟩⟩⟩⟩⟩⟩⟩⟩⟩⟩⟩⟩⟩⟩⟩⟩⟩⟩⟩⟩⟩⟩⟩⟩⟩⟩⟩⟩⟩⟩⟩⟩⟩⟩⟩⟩
def fX10_tellOuting : Mf := mf 4 (fun K => tl K lX10_tellOuting)
theorem kX10_tellOuting (l : Launch) : Okm l yX10_tellOuting cX10_tellOuting 4 (some .int) 6 fX10_tellOuting := Okm_tl (own := RX10) (by decide +kernel) rfl (fun C0 hr => hX10_tellOuting_0 l C0 hr)
theorem dX10_outing_0 : decode cX10_outing 0 = .ok (.aload_n 0, 1) := by decide +kernel
theorem dX10_outing_1 : decode cX10_outing 1 = .ok (.iload_n 1, 1) := by decide +kernel
theorem dX10_outing_2 : decode cX10_outing 2 = .ok (.iload_n 2, 1) := by decide +kernel
theorem dX10_outing_3 : decode cX10_outing 3 = .ok (.invokevirtual 205, 3) := by decide +kernel
theorem dX10_outing_6 : decode cX10_outing 6 = .ok (.ifCond .eq 12, 3) := by decide +kernel
theorem dX10_outing_9 : decode cX10_outing 9 = .ok (.iload_n 3, 1) := by decide +kernel
theorem dX10_outing_10 : decode cX10_outing 10 = .ok (.iconst 0, 1) := by decide +kernel
theorem dX10_outing_11 : decode cX10_outing 11 = .ok (.iconst 4, 1) := by decide +kernel
theorem dX10_outing_12 : decode cX10_outing 12 = .ok (.invokestatic 104, 3) := by decide +kernel
theorem dX10_outing_15 : decode cX10_outing 15 = .ok (.ifCond .ne 9, 3) := by decide +kernel
theorem dX10_outing_18 : decode cX10_outing 18 = .ok (.aload_n 0, 1) := by decide +kernel
theorem dX10_outing_19 : decode cX10_outing 19 = .ok (.iconst 1, 1) := by decide +kernel
theorem dX10_outing_20 : decode cX10_outing 20 = .ok (.invokevirtual 108, 3) := by decide +kernel
theorem dX10_outing_23 : decode cX10_outing 23 = .ok (.ireturn, 1) := by decide +kernel
theorem dX10_outing_24 : decode cX10_outing 24 = .ok (.aload_n 0, 1) := by decide +kernel
theorem dX10_outing_25 : decode cX10_outing 25 = .ok (.aload_n 0, 1) := by decide +kernel
theorem dX10_outing_26 : decode cX10_outing 26 = .ok (.iload_n 1, 1) := by decide +kernel
theorem dX10_outing_27 : decode cX10_outing 27 = .ok (.iload_n 2, 1) := by decide +kernel
theorem dX10_outing_28 : decode cX10_outing 28 = .ok (.iload_n 3, 1) := by decide +kernel
theorem dX10_outing_29 : decode cX10_outing 29 = .ok (.invokevirtual 209, 3) := by decide +kernel
theorem dX10_outing_32 : decode cX10_outing 32 = .ok (.invokevirtual 138, 3) := by decide +kernel
theorem dX10_outing_35 : decode cX10_outing 35 = .ok (.ireturn, 1) := by decide +kernel
def lX10_outing : List (Nat × (Op ⊕ Nat)) := [(0, .inl (o_aload 0 1)), (1, .inl (o_iload 1 2)), (2, .inl (o_iload 2 3)), (3, .inl (o_callV fX10_hasOuting 2 10 6)), (6, .inl (o_if_eq 18 9)), (9, .inl (o_iload 3 10)), (10, .inl (o_pushI (nI 0) 11)), (11, .inl (o_pushI (nI 4) 12)), (12, .inl (o_callS fX10_within 3 15)), (15, .inl (o_if_ne 24 18)), (18, .inl (o_aload 0 19)), (19, .inl (o_pushI (nI 1) 20)), (20, .inl (o_callV fX10_refuse 1 10 23)), (23, .inr 0), (24, .inl (o_aload 0 25)), (25, .inl (o_aload 0 26)), (26, .inl (o_iload 1 27)), (27, .inl (o_iload 2 28)), (28, .inl (o_iload 3 29)), (29, .inl (o_callV fX10_tellOuting 3 10 32)), (32, .inl (o_callV fX10_answer 1 10 35)), (35, .inr 0)]
theorem qX10_outing : yX10_outing.cls = RX10 ∧ yX10_outing.cls ≠ "java/lang/invoke/MethodHandle" ∧ yX10_outing.cls ≠ "java/lang/invoke/VarHandle" ∧ (parseMethodDescriptor yX10_outing.desc).map (fun d => d.parameters.length) = some 3 := by decide +kernel
set_option maxRecDepth 10000 in
theorem hX10_outing_0 (l : Launch) {p : Program} {e : Env} {s : State} {m : MethodId} {args : Array Value} {below : List Frame} {meth : Method} {c : Code} {D : va_G} {ad adV : Nat → Nat} {cA : Nat → ClassId} {K : Kt} (C0 : Cx p s m args meth c D ad adV cA cX10_outing 4 RX10) (hr : meth.sig.returnType = (some .int)) : ∀ q ∈ lX10_outing, Sd p l e (rmd 7) s m args below meth c (MQ below (QQ D ad cA K) args s 0 0 (AA ad)) D ad cA 4 q.1 (opOf K q.2) := List.forall_mem_cons.mpr ⟨s_aload_n C0 dX10_outing_0 rfl, List.forall_mem_cons.mpr ⟨s_iload_n C0 dX10_outing_1 rfl, List.forall_mem_cons.mpr ⟨s_iload_n C0 dX10_outing_2 rfl, List.forall_mem_cons.mpr ⟨s_callV (ci := 10) C0 (kX10_hasOuting l) dX10_outing_3 rfl qX10_hasOuting tw4_12 tw4_14 twp_21 tw1_1 tw4_15 rfl (by decide) (by decide), List.forall_mem_cons.mpr ⟨s_if_eq C0 dX10_outing_6 rfl, List.forall_mem_cons.mpr ⟨s_iload_n C0 dX10_outing_9 rfl, List.forall_mem_cons.mpr ⟨s_iconst C0 dX10_outing_10 rfl, List.forall_mem_cons.mpr ⟨s_iconst C0 dX10_outing_11 rfl, List.forall_mem_cons.mpr ⟨s_callS C0 (kX10_within l) dX10_outing_12 qX10_within tw2_170 tw2_171 tw1_1 tw2_172 rfl (by decide) (by decide), List.forall_mem_cons.mpr ⟨s_if_ne C0 dX10_outing_15 rfl, List.forall_mem_cons.mpr ⟨s_aload_n C0 dX10_outing_18 rfl, List.forall_mem_cons.mpr ⟨s_iconst C0 dX10_outing_19 rfl, List.forall_mem_cons.mpr ⟨s_callV (ci := 10) C0 (kX10_refuse l) dX10_outing_20 rfl qX10_refuse tw2_173 tw2_175 twp_0 tw1_1 tw2_176 rfl (by decide) (by decide), List.forall_mem_cons.mpr ⟨s_iret C0 hr dX10_outing_23, List.forall_mem_cons.mpr ⟨s_aload_n C0 dX10_outing_24 rfl, List.forall_mem_cons.mpr ⟨s_aload_n C0 dX10_outing_25 rfl, List.forall_mem_cons.mpr ⟨s_iload_n C0 dX10_outing_26 rfl, List.forall_mem_cons.mpr ⟨s_iload_n C0 dX10_outing_27 rfl, List.forall_mem_cons.mpr ⟨s_iload_n C0 dX10_outing_28 rfl, List.forall_mem_cons.mpr ⟨s_callV (ci := 10) C0 (kX10_tellOuting l) dX10_outing_29 rfl qX10_tellOuting tw4_16 tw4_18 twp_22 tw1_1 tw4_19 rfl (by decide) (by decide), List.forall_mem_cons.mpr ⟨s_callV (ci := 10) C0 (kX10_answer l) dX10_outing_32 rfl qX10_answer tw3_139 tw3_141 twp_14 tw1_1 tw3_142 rfl (by decide) (by decide), List.forall_mem_cons.mpr ⟨s_iret C0 hr dX10_outing_35, fun _ h => absurd h List.not_mem_nil⟩⟩⟩⟩⟩⟩⟩⟩⟩⟩⟩⟩⟩⟩⟩⟩⟩⟩⟩⟩⟩⟩
def fX10_outing : Mf := mf 4 (fun K => tl K lX10_outing)
theorem kX10_outing (l : Launch) : Okm l yX10_outing cX10_outing 4 (some .int) 7 fX10_outing := Okm_tl (own := RX10) (by decide +kernel) rfl (fun C0 hr => hX10_outing_0 l C0 hr)
theorem dX10_value_0 : decode cX10_value 0 = .ok (.aload_n 0, 1) := by decide +kernel
theorem dX10_value_1 : decode cX10_value 1 = .ok (.invokevirtual 141, 3) := by decide +kernel
theorem dX10_value_4 : decode cX10_value 4 = .ok (.ifCond .ne 9, 3) := by decide +kernel
theorem dX10_value_7 : decode cX10_value 7 = .ok (.aload_n 0, 1) := by decide +kernel
theorem dX10_value_8 : decode cX10_value 8 = .ok (.iconst 1, 1) := by decide +kernel
theorem dX10_value_9 : decode cX10_value 9 = .ok (.invokevirtual 108, 3) := by decide +kernel
theorem dX10_value_12 : decode cX10_value 12 = .ok (.ireturn, 1) := by decide +kernel
theorem dX10_value_13 : decode cX10_value 13 = .ok (.iconst 0, 1) := by decide +kernel
theorem dX10_value_14 : decode cX10_value 14 = .ok (.istore_n 1, 1) := by decide +kernel
theorem dX10_value_15 : decode cX10_value 15 = .ok (.iconst 0, 1) := by decide +kernel
theorem dX10_value_16 : decode cX10_value 16 = .ok (.istore_n 2, 1) := by decide +kernel
theorem dX10_value_17 : decode cX10_value 17 = .ok (.iload_n 2, 1) := by decide +kernel
theorem dX10_value_18 : decode cX10_value 18 = .ok (.aload_n 0, 1) := by decide +kernel
theorem dX10_value_19 : decode cX10_value 19 = .ok (.getfield 28, 3) := by decide +kernel
theorem dX10_value_22 : decode cX10_value 22 = .ok (.getfield 135, 3) := by decide +kernel
theorem dX10_value_25 : decode cX10_value 25 = .ok (.if_icmp .ge 20, 3) := by decide +kernel
theorem dX10_value_28 : decode cX10_value 28 = .ok (.iload_n 1, 1) := by decide +kernel
theorem dX10_value_29 : decode cX10_value 29 = .ok (.aload_n 0, 1) := by decide +kernel
theorem dX10_value_30 : decode cX10_value 30 = .ok (.getfield 44, 3) := by decide +kernel
theorem dX10_value_33 : decode cX10_value 33 = .ok (.iload_n 2, 1) := by decide +kernel
theorem dX10_value_34 : decode cX10_value 34 = .ok (.invokevirtual 199, 3) := by decide +kernel
theorem dX10_value_37 : decode cX10_value 37 = .ok (.iadd, 1) := by decide +kernel
theorem dX10_value_38 : decode cX10_value 38 = .ok (.istore_n 1, 1) := by decide +kernel
theorem dX10_value_39 : decode cX10_value 39 = .ok (.iinc 2 1, 3) := by decide +kernel
theorem dX10_value_42 : decode cX10_value 42 = .ok (.goto (-25), 3) := by decide +kernel
theorem dX10_value_45 : decode cX10_value 45 = .ok (.aload_n 0, 1) := by decide +kernel
theorem dX10_value_46 : decode cX10_value 46 = .ok (.iload_n 1, 1) := by decide +kernel
theorem dX10_value_47 : decode cX10_value 47 = .ok (.invokevirtual 138, 3) := by decide +kernel
theorem dX10_value_50 : decode cX10_value 50 = .ok (.ireturn, 1) := by decide +kernel
def lX10_value : List (Nat × (Op ⊕ Nat)) := [(0, .inl (o_aload 0 1)), (1, .inl (o_callV fX10_hasText 0 10 4)), (4, .inl (o_if_ne 13 7)), (7, .inl (o_aload 0 8)), (8, .inl (o_pushI (nI 1) 9)), (9, .inl (o_callV fX10_refuse 1 10 12)), (12, .inr 0), (13, .inl (o_pushI (nI 0) 14)), (14, .inl (o_istore 1 15)), (15, .inl (o_pushI (nI 0) 16)), (16, .inl (o_istore 2 17)), (17, .inl (o_iload 2 18)), (18, .inl (o_aload 0 19)), (19, .inl (o_get 10 2 22)), (22, .inl (o_get 9 4 25)), (25, .inl (o_icmp_ge 45 28)), (28, .inl (o_iload 1 29)), (29, .inl (o_aload 0 30)), (30, .inl (o_get 10 4 33)), (33, .inl (o_iload 2 34)), (34, .inl (o_callV fX1_valueOfGame 1 1 37)), (37, .inl (o_iadd 38)), (38, .inl (o_istore 1 39)), (39, .inl (o_iinc 2 (nI 1) 42)), (42, .inl (o_goto 17)), (45, .inl (o_aload 0 46)), (46, .inl (o_iload 1 47)), (47, .inl (o_callV fX10_answer 1 10 50)), (50, .inr 0)]
theorem qX10_value : yX10_value.cls = RX10 ∧ yX10_value.cls ≠ "java/lang/invoke/MethodHandle" ∧ yX10_value.cls ≠ "java/lang/invoke/VarHandle" ∧ (parseMethodDescriptor yX10_value.desc).map (fun d => d.parameters.length) = some 0 := by decide +kernel
set_option maxRecDepth 10000 in
theorem hX10_value_0 (l : Launch) {p : Program} {e : Env} {s : State} {m : MethodId} {args : Array Value} {below : List Frame} {meth : Method} {c : Code} {D : va_G} {ad adV : Nat → Nat} {cA : Nat → ClassId} {K : Kt} (C0 : Cx p s m args meth c D ad adV cA cX10_value 3 RX10) (hr : meth.sig.returnType = (some .int)) : ∀ q ∈ lX10_value, Sd p l e (rmd 5) s m args below meth c (MQ below (QQ D ad cA K) args s 0 0 (AA ad)) D ad cA 3 q.1 (opOf K q.2) := List.forall_mem_cons.mpr ⟨s_aload_n C0 dX10_value_0 rfl, List.forall_mem_cons.mpr ⟨s_callV (ci := 10) C0 (kX10_hasText l) dX10_value_1 rfl qX10_hasText tw3_155 tw3_157 twp_15 tw1_1 tw3_158 rfl (by decide) (by decide), List.forall_mem_cons.mpr ⟨s_if_ne C0 dX10_value_4 rfl, List.forall_mem_cons.mpr ⟨s_aload_n C0 dX10_value_7 rfl, List.forall_mem_cons.mpr ⟨s_iconst C0 dX10_value_8 rfl, List.forall_mem_cons.mpr ⟨s_callV (ci := 10) C0 (kX10_refuse l) dX10_value_9 rfl qX10_refuse tw2_173 tw2_175 twp_0 tw1_1 tw2_176 rfl (by decide) (by decide), List.forall_mem_cons.mpr ⟨s_iret C0 hr dX10_value_12, List.forall_mem_cons.mpr ⟨s_iconst C0 dX10_value_13 rfl, List.forall_mem_cons.mpr ⟨s_istore_n C0 dX10_value_14 rfl (by decide), List.forall_mem_cons.mpr ⟨s_iconst C0 dX10_value_15 rfl, List.forall_mem_cons.mpr ⟨s_istore_n C0 dX10_value_16 rfl (by decide), List.forall_mem_cons.mpr ⟨s_iload_n C0 dX10_value_17 rfl, List.forall_mem_cons.mpr ⟨s_aload_n C0 dX10_value_18 rfl, List.forall_mem_cons.mpr ⟨s_get (ci := 10) (k := 2) C0 dX10_value_19 inX10 rfl (by decide) tw2_120, List.forall_mem_cons.mpr ⟨s_get (ci := 9) (k := 4) C0 dX10_value_22 inX9 rfl (by decide) tw1_95, List.forall_mem_cons.mpr ⟨s_icmp_ge C0 dX10_value_25 rfl, List.forall_mem_cons.mpr ⟨s_iload_n C0 dX10_value_28 rfl, List.forall_mem_cons.mpr ⟨s_aload_n C0 dX10_value_29 rfl, List.forall_mem_cons.mpr ⟨s_get (ci := 10) (k := 4) C0 dX10_value_30 inX10 rfl (by decide) tw2_122, List.forall_mem_cons.mpr ⟨s_iload_n C0 dX10_value_33 rfl, List.forall_mem_cons.mpr ⟨s_callV (ci := 1) C0 (kX1_valueOfGame l) dX10_value_34 rfl qX1_valueOfGame tw3_231 tw3_232 tw3_233 tw1_6 tw3_234 rfl (by decide) (by decide), List.forall_mem_cons.mpr ⟨s_iadd C0 dX10_value_37, List.forall_mem_cons.mpr ⟨s_istore_n C0 dX10_value_38 rfl (by decide), List.forall_mem_cons.mpr ⟨s_iinc C0 dX10_value_39 rfl (by decide), List.forall_mem_cons.mpr ⟨s_goto C0 dX10_value_42 rfl, List.forall_mem_cons.mpr ⟨s_aload_n C0 dX10_value_45 rfl, List.forall_mem_cons.mpr ⟨s_iload_n C0 dX10_value_46 rfl, List.forall_mem_cons.mpr ⟨s_callV (ci := 10) C0 (kX10_answer l) dX10_value_47 rfl qX10_answer tw3_139 tw3_141 twp_14 tw1_1 tw3_142 rfl (by decide) (by decide), List.forall_mem_cons.mpr ⟨s_iret C0 hr dX10_value_50, fun _ h => absurd h List.not_mem_nil⟩⟩⟩⟩⟩⟩⟩⟩⟩⟩⟩⟩⟩⟩⟩⟩⟩⟩⟩⟩⟩⟩⟩⟩⟩⟩⟩⟩⟩
def fX10_value : Mf := mf 3 (fun K => tl K lX10_value)
theorem kX10_value (l : Launch) : Okm l yX10_value cX10_value 3 (some .int) 5 fX10_value := Okm_tl (own := RX10) (by decide +kernel) rfl (fun C0 hr => hX10_value_0 l C0 hr)
theorem dX10_points_0 : decode cX10_points 0 = .ok (.aload_n 0, 1) := by decide +kernel
theorem dX10_points_1 : decode cX10_points 1 = .ok (.iload_n 1, 1) := by decide +kernel
theorem dX10_points_2 : decode cX10_points 2 = .ok (.invokevirtual 162, 3) := by decide +kernel
theorem dX10_points_5 : decode cX10_points 5 = .ok (.ifCond .eq 11, 3) := by decide +kernel
theorem dX10_points_8 : decode cX10_points 8 = .ok (.aload_n 0, 1) := by decide +kernel
theorem dX10_points_9 : decode cX10_points 9 = .ok (.iload_n 2, 1) := by decide +kernel
theorem dX10_points_10 : decode cX10_points 10 = .ok (.invokevirtual 184, 3) := by decide +kernel
theorem dX10_points_13 : decode cX10_points 13 = .ok (.ifCond .ne 9, 3) := by decide +kernel
theorem dX10_points_16 : decode cX10_points 16 = .ok (.aload_n 0, 1) := by decide +kernel
theorem dX10_points_17 : decode cX10_points 17 = .ok (.iconst 1, 1) := by decide +kernel
theorem dX10_points_18 : decode cX10_points 18 = .ok (.invokevirtual 108, 3) := by decide +kernel
theorem dX10_points_21 : decode cX10_points 21 = .ok (.ireturn, 1) := by decide +kernel
theorem dX10_points_22 : decode cX10_points 22 = .ok (.aload_n 0, 1) := by decide +kernel
theorem dX10_points_23 : decode cX10_points 23 = .ok (.aload_n 0, 1) := by decide +kernel
theorem dX10_points_24 : decode cX10_points 24 = .ok (.getfield 44, 3) := by decide +kernel
theorem dX10_points_27 : decode cX10_points 27 = .ok (.iload_n 1, 1) := by decide +kernel
theorem dX10_points_28 : decode cX10_points 28 = .ok (.iload_n 2, 1) := by decide +kernel
theorem dX10_points_29 : decode cX10_points 29 = .ok (.invokevirtual 228, 3) := by decide +kernel
theorem dX10_points_32 : decode cX10_points 32 = .ok (.invokevirtual 138, 3) := by decide +kernel
theorem dX10_points_35 : decode cX10_points 35 = .ok (.ireturn, 1) := by decide +kernel
def lX10_points : List (Nat × (Op ⊕ Nat)) := [(0, .inl (o_aload 0 1)), (1, .inl (o_iload 1 2)), (2, .inl (o_callV fX10_hasArm 1 10 5)), (5, .inl (o_if_eq 16 8)), (8, .inl (o_aload 0 9)), (9, .inl (o_iload 2 10)), (10, .inl (o_callV fX10_hasGame 1 10 13)), (13, .inl (o_if_ne 22 16)), (16, .inl (o_aload 0 17)), (17, .inl (o_pushI (nI 1) 18)), (18, .inl (o_callV fX10_refuse 1 10 21)), (21, .inr 0), (22, .inl (o_aload 0 23)), (23, .inl (o_aload 0 24)), (24, .inl (o_get 10 4 27)), (27, .inl (o_iload 1 28)), (28, .inl (o_iload 2 29)), (29, .inl (o_callV fX1_pointsOf 2 1 32)), (32, .inl (o_callV fX10_answer 1 10 35)), (35, .inr 0)]
theorem qX10_points : yX10_points.cls = RX10 ∧ yX10_points.cls ≠ "java/lang/invoke/MethodHandle" ∧ yX10_points.cls ≠ "java/lang/invoke/VarHandle" ∧ (parseMethodDescriptor yX10_points.desc).map (fun d => d.parameters.length) = some 2 := by decide +kernel
set_option maxRecDepth 10000 in
theorem hX10_points_0 (l : Launch) {p : Program} {e : Env} {s : State} {m : MethodId} {args : Array Value} {below : List Frame} {meth : Method} {c : Code} {D : va_G} {ad adV : Nat → Nat} {cA : Nat → ClassId} {K : Kt} (C0 : Cx p s m args meth c D ad adV cA cX10_points 3 RX10) (hr : meth.sig.returnType = (some .int)) : ∀ q ∈ lX10_points, Sd p l e (rmd 2) s m args below meth c (MQ below (QQ D ad cA K) args s 0 0 (AA ad)) D ad cA 3 q.1 (opOf K q.2) := List.forall_mem_cons.mpr ⟨s_aload_n C0 dX10_points_0 rfl, List.forall_mem_cons.mpr ⟨s_iload_n C0 dX10_points_1 rfl, List.forall_mem_cons.mpr ⟨s_callV (ci := 10) C0 (kX10_hasArm l) dX10_points_2 rfl qX10_hasArm tw3_171 tw3_173 twp_17 tw1_1 tw3_174 rfl (by decide) (by decide), List.forall_mem_cons.mpr ⟨s_if_eq C0 dX10_points_5 rfl, List.forall_mem_cons.mpr ⟨s_aload_n C0 dX10_points_8 rfl, List.forall_mem_cons.mpr ⟨s_iload_n C0 dX10_points_9 rfl, List.forall_mem_cons.mpr ⟨s_callV (ci := 10) C0 (kX10_hasGame l) dX10_points_10 rfl qX10_hasGame tw3_217 tw3_219 twp_19 tw1_1 tw3_220 rfl (by decide) (by decide), List.forall_mem_cons.mpr ⟨s_if_ne C0 dX10_points_13 rfl, List.forall_mem_cons.mpr ⟨s_aload_n C0 dX10_points_16 rfl, List.forall_mem_cons.mpr ⟨s_iconst C0 dX10_points_17 rfl, List.forall_mem_cons.mpr ⟨s_callV (ci := 10) C0 (kX10_refuse l) dX10_points_18 rfl qX10_refuse tw2_173 tw2_175 twp_0 tw1_1 tw2_176 rfl (by decide) (by decide), List.forall_mem_cons.mpr ⟨s_iret C0 hr dX10_points_21, List.forall_mem_cons.mpr ⟨s_aload_n C0 dX10_points_22 rfl, List.forall_mem_cons.mpr ⟨s_aload_n C0 dX10_points_23 rfl, List.forall_mem_cons.mpr ⟨s_get (ci := 10) (k := 4) C0 dX10_points_24 inX10 rfl (by decide) tw2_122, List.forall_mem_cons.mpr ⟨s_iload_n C0 dX10_points_27 rfl, List.forall_mem_cons.mpr ⟨s_iload_n C0 dX10_points_28 rfl, List.forall_mem_cons.mpr ⟨s_callV (ci := 1) C0 (kX1_pointsOf l) dX10_points_29 rfl qX1_pointsOf tw4_86 tw3_208 tw3_209 tw1_6 tw3_210 rfl (by decide) (by decide), List.forall_mem_cons.mpr ⟨s_callV (ci := 10) C0 (kX10_answer l) dX10_points_32 rfl qX10_answer tw3_139 tw3_141 twp_14 tw1_1 tw3_142 rfl (by decide) (by decide), List.forall_mem_cons.mpr ⟨s_iret C0 hr dX10_points_35, fun _ h => absurd h List.not_mem_nil⟩⟩⟩⟩⟩⟩⟩⟩⟩⟩⟩⟩⟩⟩⟩⟩⟩⟩⟩⟩
def fX10_points : Mf := mf 3 (fun K => tl K lX10_points)
theorem kX10_points (l : Launch) : Okm l yX10_points cX10_points 3 (some .int) 2 fX10_points := Okm_tl (own := RX10) (by decide +kernel) rfl (fun C0 hr => hX10_points_0 l C0 hr)
theorem dX10_worth_0 : decode cX10_worth 0 = .ok (.aload_n 0, 1) := by decide +kernel
theorem dX10_worth_1 : decode cX10_worth 1 = .ok (.iload_n 1, 1) := by decide +kernel
theorem dX10_worth_2 : decode cX10_worth 2 = .ok (.invokevirtual 162, 3) := by decide +kernel
theorem dX10_worth_5 : decode cX10_worth 5 = .ok (.ifCond .eq 11, 3) := by decide +kernel
theorem dX10_worth_8 : decode cX10_worth 8 = .ok (.aload_n 0, 1) := by decide +kernel
theorem dX10_worth_9 : decode cX10_worth 9 = .ok (.iload_n 2, 1) := by decide +kernel
theorem dX10_worth_10 : decode cX10_worth 10 = .ok (.invokevirtual 184, 3) := by decide +kernel
theorem dX10_worth_13 : decode cX10_worth 13 = .ok (.ifCond .ne 9, 3) := by decide +kernel
theorem dX10_worth_16 : decode cX10_worth 16 = .ok (.aload_n 0, 1) := by decide +kernel
theorem dX10_worth_17 : decode cX10_worth 17 = .ok (.iconst 1, 1) := by decide +kernel
theorem dX10_worth_18 : decode cX10_worth 18 = .ok (.invokevirtual 108, 3) := by decide +kernel
theorem dX10_worth_21 : decode cX10_worth 21 = .ok (.ireturn, 1) := by decide +kernel
theorem dX10_worth_22 : decode cX10_worth 22 = .ok (.iload_n 3, 1) := by decide +kernel
theorem dX10_worth_23 : decode cX10_worth 23 = .ok (.iconst 0, 1) := by decide +kernel
theorem dX10_worth_24 : decode cX10_worth 24 = .ok (.sipush 200, 3) := by decide +kernel
theorem dX10_worth_27 : decode cX10_worth 27 = .ok (.invokestatic 104, 3) := by decide +kernel
theorem dX10_worth_30 : decode cX10_worth 30 = .ok (.ifCond .ne 9, 3) := by decide +kernel
theorem dX10_worth_33 : decode cX10_worth 33 = .ok (.aload_n 0, 1) := by decide +kernel
theorem dX10_worth_34 : decode cX10_worth 34 = .ok (.iconst 2, 1) := by decide +kernel
theorem dX10_worth_35 : decode cX10_worth 35 = .ok (.invokevirtual 108, 3) := by decide +kernel
theorem dX10_worth_38 : decode cX10_worth 38 = .ok (.ireturn, 1) := by decide +kernel
theorem dX10_worth_39 : decode cX10_worth 39 = .ok (.aload_n 0, 1) := by decide +kernel
theorem dX10_worth_40 : decode cX10_worth 40 = .ok (.aload_n 0, 1) := by decide +kernel
theorem dX10_worth_41 : decode cX10_worth 41 = .ok (.getfield 44, 3) := by decide +kernel
theorem dX10_worth_44 : decode cX10_worth 44 = .ok (.iload_n 1, 1) := by decide +kernel
theorem dX10_worth_45 : decode cX10_worth 45 = .ok (.iload_n 2, 1) := by decide +kernel
theorem dX10_worth_46 : decode cX10_worth 46 = .ok (.iload_n 3, 1) := by decide +kernel
theorem dX10_worth_47 : decode cX10_worth 47 = .ok (.invokevirtual 231, 3) := by decide +kernel
theorem dX10_worth_50 : decode cX10_worth 50 = .ok (.invokevirtual 138, 3) := by decide +kernel
theorem dX10_worth_53 : decode cX10_worth 53 = .ok (.ireturn, 1) := by decide +kernel
def lX10_worth : List (Nat × (Op ⊕ Nat)) := [(0, .inl (o_aload 0 1)), (1, .inl (o_iload 1 2)), (2, .inl (o_callV fX10_hasArm 1 10 5)), (5, .inl (o_if_eq 16 8)), (8, .inl (o_aload 0 9)), (9, .inl (o_iload 2 10)), (10, .inl (o_callV fX10_hasGame 1 10 13)), (13, .inl (o_if_ne 22 16)), (16, .inl (o_aload 0 17)), (17, .inl (o_pushI (nI 1) 18)), (18, .inl (o_callV fX10_refuse 1 10 21)), (21, .inr 0), (22, .inl (o_iload 3 23)), (23, .inl (o_pushI (nI 0) 24)), (24, .inl (o_pushI (nI 200) 27)), (27, .inl (o_callS fX10_within 3 30)), (30, .inl (o_if_ne 39 33)), (33, .inl (o_aload 0 34)), (34, .inl (o_pushI (nI 2) 35)), (35, .inl (o_callV fX10_refuse 1 10 38)), (38, .inr 0), (39, .inl (o_aload 0 40)), (40, .inl (o_aload 0 41)), (41, .inl (o_get 10 4 44)), (44, .inl (o_iload 1 45)), (45, .inl (o_iload 2 46)), (46, .inl (o_iload 3 47)), (47, .inl (o_callV fX1_valueOf 3 1 50)), (50, .inl (o_callV fX10_answer 1 10 53)), (53, .inr 0)]
theorem qX10_worth : yX10_worth.cls = RX10 ∧ yX10_worth.cls ≠ "java/lang/invoke/MethodHandle" ∧ yX10_worth.cls ≠ "java/lang/invoke/VarHandle" ∧ (parseMethodDescriptor yX10_worth.desc).map (fun d => d.parameters.length) = some 3 := by decide +kernel
set_option maxRecDepth 10000 in
theorem hX10_worth_0 (l : Launch) {p : Program} {e : Env} {s : State} {m : MethodId} {args : Array Value} {below : List Frame} {meth : Method} {c : Code} {D : va_G} {ad adV : Nat → Nat} {cA : Nat → ClassId} {K : Kt} (C0 : Cx p s m args meth c D ad adV cA cX10_worth 4 RX10) (hr : meth.sig.returnType = (some .int)) : ∀ q ∈ lX10_worth, Sd p l e (rmd 3) s m args below meth c (MQ below (QQ D ad cA K) args s 0 0 (AA ad)) D ad cA 4 q.1 (opOf K q.2) := List.forall_mem_cons.mpr ⟨s_aload_n C0 dX10_worth_0 rfl, List.forall_mem_cons.mpr ⟨s_iload_n C0 dX10_worth_1 rfl, List.forall_mem_cons.mpr ⟨s_callV (ci := 10) C0 (kX10_hasArm l) dX10_worth_2 rfl qX10_hasArm tw3_171 tw3_173 twp_17 tw1_1 tw3_174 rfl (by decide) (by decide), List.forall_mem_cons.mpr ⟨s_if_eq C0 dX10_worth_5 rfl, List.forall_mem_cons.mpr ⟨s_aload_n C0 dX10_worth_8 rfl, List.forall_mem_cons.mpr ⟨s_iload_n C0 dX10_worth_9 rfl, List.forall_mem_cons.mpr ⟨s_callV (ci := 10) C0 (kX10_hasGame l) dX10_worth_10 rfl qX10_hasGame tw3_217 tw3_219 twp_19 tw1_1 tw3_220 rfl (by decide) (by decide), List.forall_mem_cons.mpr ⟨s_if_ne C0 dX10_worth_13 rfl, List.forall_mem_cons.mpr ⟨s_aload_n C0 dX10_worth_16 rfl, List.forall_mem_cons.mpr ⟨s_iconst C0 dX10_worth_17 rfl, List.forall_mem_cons.mpr ⟨s_callV (ci := 10) C0 (kX10_refuse l) dX10_worth_18 rfl qX10_refuse tw2_173 tw2_175 twp_0 tw1_1 tw2_176 rfl (by decide) (by decide), List.forall_mem_cons.mpr ⟨s_iret C0 hr dX10_worth_21, List.forall_mem_cons.mpr ⟨s_iload_n C0 dX10_worth_22 rfl, List.forall_mem_cons.mpr ⟨s_iconst C0 dX10_worth_23 rfl, List.forall_mem_cons.mpr ⟨s_sipush C0 dX10_worth_24 (by decide +kernel), List.forall_mem_cons.mpr ⟨s_callS C0 (kX10_within l) dX10_worth_27 qX10_within tw2_170 tw2_171 tw1_1 tw2_172 rfl (by decide) (by decide), List.forall_mem_cons.mpr ⟨s_if_ne C0 dX10_worth_30 rfl, List.forall_mem_cons.mpr ⟨s_aload_n C0 dX10_worth_33 rfl, List.forall_mem_cons.mpr ⟨s_iconst C0 dX10_worth_34 rfl, List.forall_mem_cons.mpr ⟨s_callV (ci := 10) C0 (kX10_refuse l) dX10_worth_35 rfl qX10_refuse tw2_173 tw2_175 twp_0 tw1_1 tw2_176 rfl (by decide) (by decide), List.forall_mem_cons.mpr ⟨s_iret C0 hr dX10_worth_38, List.forall_mem_cons.mpr ⟨s_aload_n C0 dX10_worth_39 rfl, List.forall_mem_cons.mpr ⟨s_aload_n C0 dX10_worth_40 rfl, List.forall_mem_cons.mpr ⟨s_get (ci := 10) (k := 4) C0 dX10_worth_41 inX10 rfl (by decide) tw2_122, List.forall_mem_cons.mpr ⟨s_iload_n C0 dX10_worth_44 rfl, List.forall_mem_cons.mpr ⟨s_iload_n C0 dX10_worth_45 rfl, List.forall_mem_cons.mpr ⟨s_iload_n C0 dX10_worth_46 rfl, List.forall_mem_cons.mpr ⟨s_callV (ci := 1) C0 (kX1_valueOf l) dX10_worth_47 rfl qX1_valueOf tw4_91 tw3_202 tw3_203 tw1_6 tw3_204 rfl (by decide) (by decide), List.forall_mem_cons.mpr ⟨s_callV (ci := 10) C0 (kX10_answer l) dX10_worth_50 rfl qX10_answer tw3_139 tw3_141 twp_14 tw1_1 tw3_142 rfl (by decide) (by decide), List.forall_mem_cons.mpr ⟨s_iret C0 hr dX10_worth_53, fun _ h => absurd h List.not_mem_nil⟩⟩⟩⟩⟩⟩⟩⟩⟩⟩⟩⟩⟩⟩⟩⟩⟩⟩⟩⟩⟩⟩⟩⟩⟩⟩⟩⟩⟩⟩
def fX10_worth : Mf := mf 4 (fun K => tl K lX10_worth)
theorem kX10_worth (l : Launch) : Okm l yX10_worth cX10_worth 4 (some .int) 3 fX10_worth := Okm_tl (own := RX10) (by decide +kernel) rfl (fun C0 hr => hX10_worth_0 l C0 hr)
theorem dX10_most_0 : decode cX10_most 0 = .ok (.aload_n 0, 1) := by decide +kernel
theorem dX10_most_1 : decode cX10_most 1 = .ok (.iload_n 1, 1) := by decide +kernel
theorem dX10_most_2 : decode cX10_most 2 = .ok (.invokevirtual 162, 3) := by decide +kernel
theorem dX10_most_5 : decode cX10_most 5 = .ok (.ifCond .eq 11, 3) := by decide +kernel
theorem dX10_most_8 : decode cX10_most 8 = .ok (.aload_n 0, 1) := by decide +kernel
theorem dX10_most_9 : decode cX10_most 9 = .ok (.iload_n 2, 1) := by decide +kernel
theorem dX10_most_10 : decode cX10_most 10 = .ok (.invokevirtual 184, 3) := by decide +kernel
theorem dX10_most_13 : decode cX10_most 13 = .ok (.ifCond .ne 9, 3) := by decide +kernel
theorem dX10_most_16 : decode cX10_most 16 = .ok (.aload_n 0, 1) := by decide +kernel
theorem dX10_most_17 : decode cX10_most 17 = .ok (.iconst 1, 1) := by decide +kernel
theorem dX10_most_18 : decode cX10_most 18 = .ok (.invokevirtual 108, 3) := by decide +kernel
theorem dX10_most_21 : decode cX10_most 21 = .ok (.ireturn, 1) := by decide +kernel
theorem dX10_most_22 : decode cX10_most 22 = .ok (.aload_n 0, 1) := by decide +kernel
theorem dX10_most_23 : decode cX10_most 23 = .ok (.aload_n 0, 1) := by decide +kernel
theorem dX10_most_24 : decode cX10_most 24 = .ok (.getfield 53, 3) := by decide +kernel
theorem dX10_most_27 : decode cX10_most 27 = .ok (.iload_n 1, 1) := by decide +kernel
theorem dX10_most_28 : decode cX10_most 28 = .ok (.iload_n 2, 1) := by decide +kernel
theorem dX10_most_29 : decode cX10_most 29 = .ok (.iconst 0, 1) := by decide +kernel
theorem dX10_most_30 : decode cX10_most 30 = .ok (.invokevirtual 234, 3) := by decide +kernel
theorem dX10_most_33 : decode cX10_most 33 = .ok (.invokevirtual 138, 3) := by decide +kernel
theorem dX10_most_36 : decode cX10_most 36 = .ok (.ireturn, 1) := by decide +kernel
def lX10_most : List (Nat × (Op ⊕ Nat)) := [(0, .inl (o_aload 0 1)), (1, .inl (o_iload 1 2)), (2, .inl (o_callV fX10_hasArm 1 10 5)), (5, .inl (o_if_eq 16 8)), (8, .inl (o_aload 0 9)), (9, .inl (o_iload 2 10)), (10, .inl (o_callV fX10_hasGame 1 10 13)), (13, .inl (o_if_ne 22 16)), (16, .inl (o_aload 0 17)), (17, .inl (o_pushI (nI 1) 18)), (18, .inl (o_callV fX10_refuse 1 10 21)), (21, .inr 0), (22, .inl (o_aload 0 23)), (23, .inl (o_aload 0 24)), (24, .inl (o_get 10 5 27)), (27, .inl (o_iload 1 28)), (28, .inl (o_iload 2 29)), (29, .inl (o_pushI (nI 0) 30)), (30, .inl (o_callV fX3_mostOf 3 3 33)), (33, .inl (o_callV fX10_answer 1 10 36)), (36, .inr 0)]
theorem qX10_most : yX10_most.cls = RX10 ∧ yX10_most.cls ≠ "java/lang/invoke/MethodHandle" ∧ yX10_most.cls ≠ "java/lang/invoke/VarHandle" ∧ (parseMethodDescriptor yX10_most.desc).map (fun d => d.parameters.length) = some 2 := by decide +kernel
set_option maxRecDepth 10000 in
theorem hX10_most_0 (l : Launch) {p : Program} {e : Env} {s : State} {m : MethodId} {args : Array Value} {below : List Frame} {meth : Method} {c : Code} {D : va_G} {ad adV : Nat → Nat} {cA : Nat → ClassId} {K : Kt} (C0 : Cx p s m args meth c D ad adV cA cX10_most 3 RX10) (hr : meth.sig.returnType = (some .int)) : ∀ q ∈ lX10_most, Sd p l e (rmd 4) s m args below meth c (MQ below (QQ D ad cA K) args s 0 0 (AA ad)) D ad cA 3 q.1 (opOf K q.2) := List.forall_mem_cons.mpr ⟨s_aload_n C0 dX10_most_0 rfl, List.forall_mem_cons.mpr ⟨s_iload_n C0 dX10_most_1 rfl, List.forall_mem_cons.mpr ⟨s_callV (ci := 10) C0 (kX10_hasArm l) dX10_most_2 rfl qX10_hasArm tw3_171 tw3_173 twp_17 tw1_1 tw3_174 rfl (by decide) (by decide), List.forall_mem_cons.mpr ⟨s_if_eq C0 dX10_most_5 rfl, List.forall_mem_cons.mpr ⟨s_aload_n C0 dX10_most_8 rfl, List.forall_mem_cons.mpr ⟨s_iload_n C0 dX10_most_9 rfl, List.forall_mem_cons.mpr ⟨s_callV (ci := 10) C0 (kX10_hasGame l) dX10_most_10 rfl qX10_hasGame tw3_217 tw3_219 twp_19 tw1_1 tw3_220 rfl (by decide) (by decide), List.forall_mem_cons.mpr ⟨s_if_ne C0 dX10_most_13 rfl, List.forall_mem_cons.mpr ⟨s_aload_n C0 dX10_most_16 rfl, List.forall_mem_cons.mpr ⟨s_iconst C0 dX10_most_17 rfl, List.forall_mem_cons.mpr ⟨s_callV (ci := 10) C0 (kX10_refuse l) dX10_most_18 rfl qX10_refuse tw2_173 tw2_175 twp_0 tw1_1 tw2_176 rfl (by decide) (by decide), List.forall_mem_cons.mpr ⟨s_iret C0 hr dX10_most_21, List.forall_mem_cons.mpr ⟨s_aload_n C0 dX10_most_22 rfl, List.forall_mem_cons.mpr ⟨s_aload_n C0 dX10_most_23 rfl, List.forall_mem_cons.mpr ⟨s_get (ci := 10) (k := 5) C0 dX10_most_24 inX10 rfl (by decide) tw2_123, List.forall_mem_cons.mpr ⟨s_iload_n C0 dX10_most_27 rfl, List.forall_mem_cons.mpr ⟨s_iload_n C0 dX10_most_28 rfl, List.forall_mem_cons.mpr ⟨s_iconst C0 dX10_most_29 rfl, List.forall_mem_cons.mpr ⟨s_callV (ci := 3) C0 (kX3_mostOf l) dX10_most_30 rfl qX3_mostOf tw4_96 tw4_97 tw4_98 tw1_7 tw4_99 rfl (by decide) (by decide), List.forall_mem_cons.mpr ⟨s_callV (ci := 10) C0 (kX10_answer l) dX10_most_33 rfl qX10_answer tw3_139 tw3_141 twp_14 tw1_1 tw3_142 rfl (by decide) (by decide), List.forall_mem_cons.mpr ⟨s_iret C0 hr dX10_most_36, fun _ h => absurd h List.not_mem_nil⟩⟩⟩⟩⟩⟩⟩⟩⟩⟩⟩⟩⟩⟩⟩⟩⟩⟩⟩⟩⟩
def fX10_most : Mf := mf 3 (fun K => tl K lX10_most)
theorem kX10_most (l : Launch) : Okm l yX10_most cX10_most 3 (some .int) 4 fX10_most := Okm_tl (own := RX10) (by decide +kernel) rfl (fun C0 hr => hX10_most_0 l C0 hr)
theorem dX10_when_0 : decode cX10_when 0 = .ok (.aload_n 0, 1) := by decide +kernel
theorem dX10_when_1 : decode cX10_when 1 = .ok (.iload_n 1, 1) := by decide +kernel
theorem dX10_when_2 : decode cX10_when 2 = .ok (.invokevirtual 162, 3) := by decide +kernel
theorem dX10_when_5 : decode cX10_when 5 = .ok (.ifCond .eq 11, 3) := by decide +kernel
theorem dX10_when_8 : decode cX10_when 8 = .ok (.aload_n 0, 1) := by decide +kernel
theorem dX10_when_9 : decode cX10_when 9 = .ok (.iload_n 2, 1) := by decide +kernel
theorem dX10_when_10 : decode cX10_when 10 = .ok (.invokevirtual 184, 3) := by decide +kernel
theorem dX10_when_13 : decode cX10_when 13 = .ok (.ifCond .ne 9, 3) := by decide +kernel
theorem dX10_when_16 : decode cX10_when 16 = .ok (.aload_n 0, 1) := by decide +kernel
theorem dX10_when_17 : decode cX10_when 17 = .ok (.iconst 1, 1) := by decide +kernel
theorem dX10_when_18 : decode cX10_when 18 = .ok (.invokevirtual 108, 3) := by decide +kernel
theorem dX10_when_21 : decode cX10_when 21 = .ok (.ireturn, 1) := by decide +kernel
theorem dX10_when_22 : decode cX10_when 22 = .ok (.iload_n 3, 1) := by decide +kernel
theorem dX10_when_23 : decode cX10_when 23 = .ok (.iconst 1, 1) := by decide +kernel
theorem dX10_when_24 : decode cX10_when 24 = .ok (.bipush 120, 2) := by decide +kernel
theorem dX10_when_26 : decode cX10_when 26 = .ok (.invokestatic 104, 3) := by decide +kernel
theorem dX10_when_29 : decode cX10_when 29 = .ok (.ifCond .ne 9, 3) := by decide +kernel
theorem dX10_when_32 : decode cX10_when 32 = .ok (.aload_n 0, 1) := by decide +kernel
theorem dX10_when_33 : decode cX10_when 33 = .ok (.iconst 2, 1) := by decide +kernel
theorem dX10_when_34 : decode cX10_when 34 = .ok (.invokevirtual 108, 3) := by decide +kernel
theorem dX10_when_37 : decode cX10_when 37 = .ok (.ireturn, 1) := by decide +kernel
theorem dX10_when_38 : decode cX10_when 38 = .ok (.iload_n 2, 1) := by decide +kernel
theorem dX10_when_39 : decode cX10_when 39 = .ok (.istore 4, 2) := by decide +kernel
theorem dX10_when_41 : decode cX10_when 41 = .ok (.iload 4, 2) := by decide +kernel
theorem dX10_when_43 : decode cX10_when 43 = .ok (.aload_n 0, 1) := by decide +kernel
theorem dX10_when_44 : decode cX10_when 44 = .ok (.getfield 28, 3) := by decide +kernel
theorem dX10_when_47 : decode cX10_when 47 = .ok (.getfield 135, 3) := by decide +kernel
theorem dX10_when_50 : decode cX10_when 50 = .ok (.if_icmp .ge 31, 3) := by decide +kernel
theorem dX10_when_53 : decode cX10_when 53 = .ok (.aload_n 0, 1) := by decide +kernel
theorem dX10_when_54 : decode cX10_when 54 = .ok (.getfield 53, 3) := by decide +kernel
theorem dX10_when_57 : decode cX10_when 57 = .ok (.iload_n 1, 1) := by decide +kernel
theorem dX10_when_58 : decode cX10_when 58 = .ok (.iload 4, 2) := by decide +kernel
theorem dX10_when_60 : decode cX10_when 60 = .ok (.iconst 0, 1) := by decide +kernel
theorem dX10_when_61 : decode cX10_when 61 = .ok (.invokevirtual 234, 3) := by decide +kernel
theorem dX10_when_64 : decode cX10_when 64 = .ok (.iload_n 3, 1) := by decide +kernel
theorem dX10_when_65 : decode cX10_when 65 = .ok (.if_icmp .lt 10, 3) := by decide +kernel
theorem dX10_when_68 : decode cX10_when 68 = .ok (.aload_n 0, 1) := by decide +kernel
theorem dX10_when_69 : decode cX10_when 69 = .ok (.iload 4, 2) := by decide +kernel
theorem dX10_when_71 : decode cX10_when 71 = .ok (.invokevirtual 138, 3) := by decide +kernel
theorem dX10_when_74 : decode cX10_when 74 = .ok (.ireturn, 1) := by decide +kernel
theorem dX10_when_75 : decode cX10_when 75 = .ok (.iinc 4 1, 3) := by decide +kernel
theorem dX10_when_78 : decode cX10_when 78 = .ok (.goto (-37), 3) := by decide +kernel
theorem dX10_when_81 : decode cX10_when 81 = .ok (.aload_n 0, 1) := by decide +kernel
theorem dX10_when_82 : decode cX10_when 82 = .ok (.bipush (-2), 2) := by decide +kernel
theorem dX10_when_84 : decode cX10_when 84 = .ok (.invokevirtual 138, 3) := by decide +kernel
theorem dX10_when_87 : decode cX10_when 87 = .ok (.ireturn, 1) := by decide +kernel
def lX10_when_0 : List (Nat × (Op ⊕ Nat)) := [(0, .inl (o_aload 0 1)), (1, .inl (o_iload 1 2)), (2, .inl (o_callV fX10_hasArm 1 10 5)), (5, .inl (o_if_eq 16 8)), (8, .inl (o_aload 0 9)), (9, .inl (o_iload 2 10)), (10, .inl (o_callV fX10_hasGame 1 10 13)), (13, .inl (o_if_ne 22 16)), (16, .inl (o_aload 0 17)), (17, .inl (o_pushI (nI 1) 18)), (18, .inl (o_callV fX10_refuse 1 10 21)), (21, .inr 0), (22, .inl (o_iload 3 23)), (23, .inl (o_pushI (nI 1) 24)), (24, .inl (o_pushI (nI 120) 26)), (26, .inl (o_callS fX10_within 3 29)), (29, .inl (o_if_ne 38 32)), (32, .inl (o_aload 0 33)), (33, .inl (o_pushI (nI 2) 34)), (34, .inl (o_callV fX10_refuse 1 10 37)), (37, .inr 0), (38, .inl (o_iload 2 39)), (39, .inl (o_istore 4 41)), (41, .inl (o_iload 4 43)), (43, .inl (o_aload 0 44)), (44, .inl (o_get 10 2 47)), (47, .inl (o_get 9 4 50)), (50, .inl (o_icmp_ge 81 53)), (53, .inl (o_aload 0 54)), (54, .inl (o_get 10 5 57)), (57, .inl (o_iload 1 58)), (58, .inl (o_iload 4 60)), (60, .inl (o_pushI (nI 0) 61)), (61, .inl (o_callV fX3_mostOf 3 3 64)), (64, .inl (o_iload 3 65)), (65, .inl (o_icmp_lt 75 68)), (68, .inl (o_aload 0 69)), (69, .inl (o_iload 4 71)), (71, .inl (o_callV fX10_answer 1 10 74)), (74, .inr 0)]
def lX10_when_1 : List (Nat × (Op ⊕ Nat)) := [(75, .inl (o_iinc 4 (nI 1) 78)), (78, .inl (o_goto 41)), (81, .inl (o_aload 0 82)), (82, .inl (o_pushI ((-2)) 84)), (84, .inl (o_callV fX10_answer 1 10 87)), (87, .inr 0)]
def lX10_when : List (Nat × (Op ⊕ Nat)) := lX10_when_0 ++ (lX10_when_1)
theorem qX10_when : yX10_when.cls = RX10 ∧ yX10_when.cls ≠ "java/lang/invoke/MethodHandle" ∧ yX10_when.cls ≠ "java/lang/invoke/VarHandle" ∧ (parseMethodDescriptor yX10_when.desc).map (fun d => d.parameters.length) = some 3 := by decide +kernel
set_option maxRecDepth 10000 in
theorem hX10_when_0 (l : Launch) {p : Program} {e : Env} {s : State} {m : MethodId} {args : Array Value} {below : List Frame} {meth : Method} {c : Code} {D : va_G} {ad adV : Nat → Nat} {cA : Nat → ClassId} {K : Kt} (C0 : Cx p s m args meth c D ad adV cA cX10_when 5 RX10) (hr : meth.sig.returnType = (some .int)) : ∀ q ∈ lX10_when_0, Sd p l e (rmd 4) s m args below meth c (MQ below (QQ D ad cA K) args s 0 0 (AA ad)) D ad cA 5 q.1 (opOf K q.2) := List.forall_mem_cons.mpr ⟨s_aload_n C0 dX10_when_0 rfl, List.forall_mem_cons.mpr ⟨s_iload_n C0 dX10_when_1 rfl, List.forall_mem_cons.mpr ⟨s_callV (ci := 10) C0 (kX10_hasArm l) dX10_when_2 rfl qX10_hasArm tw3_171 tw3_173 twp_17 tw1_1 tw3_174 rfl (by decide) (by decide), List.forall_mem_cons.mpr ⟨s_if_eq C0 dX10_when_5 rfl, List.forall_mem_cons.mpr ⟨s_aload_n C0 dX10_when_8 rfl, List.forall_mem_cons.mpr ⟨s_iload_n C0 dX10_when_9 rfl, List.forall_mem_cons.mpr ⟨s_callV (ci := 10) C0 (kX10_hasGame l) dX10_when_10 rfl qX10_hasGame tw3_217 tw3_219 twp_19 tw1_1 tw3_220 rfl (by decide) (by decide), List.forall_mem_cons.mpr ⟨s_if_ne C0 dX10_when_13 rfl, List.forall_mem_cons.mpr ⟨s_aload_n C0 dX10_when_16 rfl, List.forall_mem_cons.mpr ⟨s_iconst C0 dX10_when_17 rfl, List.forall_mem_cons.mpr ⟨s_callV (ci := 10) C0 (kX10_refuse l) dX10_when_18 rfl qX10_refuse tw2_173 tw2_175 twp_0 tw1_1 tw2_176 rfl (by decide) (by decide), List.forall_mem_cons.mpr ⟨s_iret C0 hr dX10_when_21, List.forall_mem_cons.mpr ⟨s_iload_n C0 dX10_when_22 rfl, List.forall_mem_cons.mpr ⟨s_iconst C0 dX10_when_23 rfl, List.forall_mem_cons.mpr ⟨s_bipush C0 dX10_when_24 (by decide +kernel), List.forall_mem_cons.mpr ⟨s_callS C0 (kX10_within l) dX10_when_26 qX10_within tw2_170 tw2_171 tw1_1 tw2_172 rfl (by decide) (by decide), List.forall_mem_cons.mpr ⟨s_if_ne C0 dX10_when_29 rfl, List.forall_mem_cons.mpr ⟨s_aload_n C0 dX10_when_32 rfl, List.forall_mem_cons.mpr ⟨s_iconst C0 dX10_when_33 rfl, List.forall_mem_cons.mpr ⟨s_callV (ci := 10) C0 (kX10_refuse l) dX10_when_34 rfl qX10_refuse tw2_173 tw2_175 twp_0 tw1_1 tw2_176 rfl (by decide) (by decide), List.forall_mem_cons.mpr ⟨s_iret C0 hr dX10_when_37, List.forall_mem_cons.mpr ⟨s_iload_n C0 dX10_when_38 rfl, List.forall_mem_cons.mpr ⟨s_istore C0 dX10_when_39 (by decide), List.forall_mem_cons.mpr ⟨s_iload C0 dX10_when_41, List.forall_mem_cons.mpr ⟨s_aload_n C0 dX10_when_43 rfl, List.forall_mem_cons.mpr ⟨s_get (ci := 10) (k := 2) C0 dX10_when_44 inX10 rfl (by decide) tw2_120, List.forall_mem_cons.mpr ⟨s_get (ci := 9) (k := 4) C0 dX10_when_47 inX9 rfl (by decide) tw1_95, List.forall_mem_cons.mpr ⟨s_icmp_ge C0 dX10_when_50 rfl, List.forall_mem_cons.mpr ⟨s_aload_n C0 dX10_when_53 rfl, List.forall_mem_cons.mpr ⟨s_get (ci := 10) (k := 5) C0 dX10_when_54 inX10 rfl (by decide) tw2_123, List.forall_mem_cons.mpr ⟨s_iload_n C0 dX10_when_57 rfl, List.forall_mem_cons.mpr ⟨s_iload C0 dX10_when_58, List.forall_mem_cons.mpr ⟨s_iconst C0 dX10_when_60 rfl, List.forall_mem_cons.mpr ⟨s_callV (ci := 3) C0 (kX3_mostOf l) dX10_when_61 rfl qX3_mostOf tw4_96 tw4_97 tw4_98 tw1_7 tw4_99 rfl (by decide) (by decide), List.forall_mem_cons.mpr ⟨s_iload_n C0 dX10_when_64 rfl, List.forall_mem_cons.mpr ⟨s_icmp_lt C0 dX10_when_65 rfl, List.forall_mem_cons.mpr ⟨s_aload_n C0 dX10_when_68 rfl, List.forall_mem_cons.mpr ⟨s_iload C0 dX10_when_69, List.forall_mem_cons.mpr ⟨s_callV (ci := 10) C0 (kX10_answer l) dX10_when_71 rfl qX10_answer tw3_139 tw3_141 twp_14 tw1_1 tw3_142 rfl (by decide) (by decide), List.forall_mem_cons.mpr ⟨s_iret C0 hr dX10_when_74, fun _ h => absurd h List.not_mem_nil⟩⟩⟩⟩⟩⟩⟩⟩⟩⟩⟩⟩⟩⟩⟩⟩⟩⟩⟩⟩⟩⟩⟩⟩⟩⟩⟩⟩⟩⟩⟩⟩⟩⟩⟩⟩⟩⟩⟩⟩
set_option maxRecDepth 10000 in
theorem hX10_when_1 (l : Launch) {p : Program} {e : Env} {s : State} {m : MethodId} {args : Array Value} {below : List Frame} {meth : Method} {c : Code} {D : va_G} {ad adV : Nat → Nat} {cA : Nat → ClassId} {K : Kt} (C0 : Cx p s m args meth c D ad adV cA cX10_when 5 RX10) (hr : meth.sig.returnType = (some .int)) : ∀ q ∈ lX10_when_1, Sd p l e (rmd 4) s m args below meth c (MQ below (QQ D ad cA K) args s 0 0 (AA ad)) D ad cA 5 q.1 (opOf K q.2) := List.forall_mem_cons.mpr ⟨s_iinc C0 dX10_when_75 rfl (by decide), List.forall_mem_cons.mpr ⟨s_goto C0 dX10_when_78 rfl, List.forall_mem_cons.mpr ⟨s_aload_n C0 dX10_when_81 rfl, List.forall_mem_cons.mpr ⟨s_bipush C0 dX10_when_82 (by decide +kernel), List.forall_mem_cons.mpr ⟨s_callV (ci := 10) C0 (kX10_answer l) dX10_when_84 rfl qX10_answer tw3_139 tw3_141 twp_14 tw1_1 tw3_142 rfl (by decide) (by decide), List.forall_mem_cons.mpr ⟨s_iret C0 hr dX10_when_87, fun _ h => absurd h List.not_mem_nil⟩⟩⟩⟩⟩⟩
def fX10_when : Mf := mf 5 (fun K => tl K lX10_when)
theorem kX10_when (l : Launch) : Okm l yX10_when cX10_when 5 (some .int) 4 fX10_when := Okm_tl (own := RX10) (by decide +kernel) rfl (fun C0 hr => List.forall_mem_append.mpr ⟨hX10_when_0 l C0 hr, hX10_when_1 l C0 hr⟩)
theorem dX10_countAhead_0 : decode cX10_countAhead 0 = .ok (.aload_n 0, 1) := by decide +kernel
theorem dX10_countAhead_1 : decode cX10_countAhead 1 = .ok (.getfield 44, 3) := by decide +kernel
theorem dX10_countAhead_4 : decode cX10_countAhead 4 = .ok (.iload_n 1, 1) := by decide +kernel
theorem dX10_countAhead_5 : decode cX10_countAhead 5 = .ok (.iload_n 2, 1) := by decide +kernel
theorem dX10_countAhead_6 : decode cX10_countAhead 6 = .ok (.aload_n 0, 1) := by decide +kernel
theorem dX10_countAhead_7 : decode cX10_countAhead 7 = .ok (.getfield 44, 3) := by decide +kernel
theorem dX10_countAhead_10 : decode cX10_countAhead 10 = .ok (.iload_n 1, 1) := by decide +kernel
theorem dX10_countAhead_11 : decode cX10_countAhead 11 = .ok (.iload_n 2, 1) := by decide +kernel
theorem dX10_countAhead_12 : decode cX10_countAhead 12 = .ok (.invokevirtual 240, 3) := by decide +kernel
theorem dX10_countAhead_15 : decode cX10_countAhead 15 = .ok (.invokevirtual 231, 3) := by decide +kernel
theorem dX10_countAhead_18 : decode cX10_countAhead 18 = .ok (.istore_n 3, 1) := by decide +kernel
theorem dX10_countAhead_19 : decode cX10_countAhead 19 = .ok (.iconst 0, 1) := by decide +kernel
theorem dX10_countAhead_20 : decode cX10_countAhead 20 = .ok (.istore 4, 2) := by decide +kernel
theorem dX10_countAhead_22 : decode cX10_countAhead 22 = .ok (.iconst 0, 1) := by decide +kernel
theorem dX10_countAhead_23 : decode cX10_countAhead 23 = .ok (.istore 5, 2) := by decide +kernel
theorem dX10_countAhead_25 : decode cX10_countAhead 25 = .ok (.iload 5, 2) := by decide +kernel
theorem dX10_countAhead_27 : decode cX10_countAhead 27 = .ok (.aload_n 0, 1) := by decide +kernel
theorem dX10_countAhead_28 : decode cX10_countAhead 28 = .ok (.getfield 28, 3) := by decide +kernel
theorem dX10_countAhead_31 : decode cX10_countAhead 31 = .ok (.getfield 148, 3) := by decide +kernel
theorem dX10_countAhead_34 : decode cX10_countAhead 34 = .ok (.if_icmp .ge 52, 3) := by decide +kernel
theorem dX10_countAhead_37 : decode cX10_countAhead 37 = .ok (.aload_n 0, 1) := by decide +kernel
theorem dX10_countAhead_38 : decode cX10_countAhead 38 = .ok (.getfield 44, 3) := by decide +kernel
theorem dX10_countAhead_41 : decode cX10_countAhead 41 = .ok (.iload 5, 2) := by decide +kernel
theorem dX10_countAhead_43 : decode cX10_countAhead 43 = .ok (.iload_n 2, 1) := by decide +kernel
theorem dX10_countAhead_44 : decode cX10_countAhead 44 = .ok (.aload_n 0, 1) := by decide +kernel
theorem dX10_countAhead_45 : decode cX10_countAhead 45 = .ok (.getfield 44, 3) := by decide +kernel
theorem dX10_countAhead_48 : decode cX10_countAhead 48 = .ok (.iload 5, 2) := by decide +kernel
theorem dX10_countAhead_50 : decode cX10_countAhead 50 = .ok (.iload_n 2, 1) := by decide +kernel
theorem dX10_countAhead_51 : decode cX10_countAhead 51 = .ok (.invokevirtual 240, 3) := by decide +kernel
theorem dX10_countAhead_54 : decode cX10_countAhead 54 = .ok (.invokevirtual 231, 3) := by decide +kernel
theorem dX10_countAhead_57 : decode cX10_countAhead 57 = .ok (.istore 6, 2) := by decide +kernel
theorem dX10_countAhead_59 : decode cX10_countAhead 59 = .ok (.iload 6, 2) := by decide +kernel
theorem dX10_countAhead_61 : decode cX10_countAhead 61 = .ok (.iload_n 3, 1) := by decide +kernel
theorem dX10_countAhead_62 : decode cX10_countAhead 62 = .ok (.if_icmp .gt 15, 3) := by decide +kernel
theorem dX10_countAhead_65 : decode cX10_countAhead 65 = .ok (.iload 6, 2) := by decide +kernel
theorem dX10_countAhead_67 : decode cX10_countAhead 67 = .ok (.iload_n 3, 1) := by decide +kernel
theorem dX10_countAhead_68 : decode cX10_countAhead 68 = .ok (.if_icmp .ne 12, 3) := by decide +kernel
theorem dX10_countAhead_71 : decode cX10_countAhead 71 = .ok (.iload 5, 2) := by decide +kernel
theorem dX10_countAhead_73 : decode cX10_countAhead 73 = .ok (.iload_n 1, 1) := by decide +kernel
theorem dX10_countAhead_74 : decode cX10_countAhead 74 = .ok (.if_icmp .ge 6, 3) := by decide +kernel
theorem dX10_countAhead_77 : decode cX10_countAhead 77 = .ok (.iinc 4 1, 3) := by decide +kernel
theorem dX10_countAhead_80 : decode cX10_countAhead 80 = .ok (.iinc 5 1, 3) := by decide +kernel
theorem dX10_countAhead_83 : decode cX10_countAhead 83 = .ok (.goto (-58), 3) := by decide +kernel
theorem dX10_countAhead_86 : decode cX10_countAhead 86 = .ok (.iload 4, 2) := by decide +kernel
theorem dX10_countAhead_88 : decode cX10_countAhead 88 = .ok (.ireturn, 1) := by decide +kernel
def lX10_countAhead_0 : List (Nat × (Op ⊕ Nat)) := [(0, .inl (o_aload 0 1)), (1, .inl (o_get 10 4 4)), (4, .inl (o_iload 1 5)), (5, .inl (o_iload 2 6)), (6, .inl (o_aload 0 7)), (7, .inl (o_get 10 4 10)), (10, .inl (o_iload 1 11)), (11, .inl (o_iload 2 12)), (12, .inl (o_callV fX1_fullThrows 2 1 15)), (15, .inl (o_callV fX1_valueOf 3 1 18)), (18, .inl (o_istore 3 19)), (19, .inl (o_pushI (nI 0) 20)), (20, .inl (o_istore 4 22)), (22, .inl (o_pushI (nI 0) 23)), (23, .inl (o_istore 5 25)), (25, .inl (o_iload 5 27)), (27, .inl (o_aload 0 28)), (28, .inl (o_get 10 2 31)), (31, .inl (o_get 9 0 34)), (34, .inl (o_icmp_ge 86 37)), (37, .inl (o_aload 0 38)), (38, .inl (o_get 10 4 41)), (41, .inl (o_iload 5 43)), (43, .inl (o_iload 2 44)), (44, .inl (o_aload 0 45)), (45, .inl (o_get 10 4 48)), (48, .inl (o_iload 5 50)), (50, .inl (o_iload 2 51)), (51, .inl (o_callV fX1_fullThrows 2 1 54)), (54, .inl (o_callV fX1_valueOf 3 1 57)), (57, .inl (o_istore 6 59)), (59, .inl (o_iload 6 61)), (61, .inl (o_iload 3 62)), (62, .inl (o_icmp_gt 77 65)), (65, .inl (o_iload 6 67)), (67, .inl (o_iload 3 68)), (68, .inl (o_icmp_ne 80 71)), (71, .inl (o_iload 5 73)), (73, .inl (o_iload 1 74)), (74, .inl (o_icmp_ge 80 77))]
def lX10_countAhead_1 : List (Nat × (Op ⊕ Nat)) := [(77, .inl (o_iinc 4 (nI 1) 80)), (80, .inl (o_iinc 5 (nI 1) 83)), (83, .inl (o_goto 25)), (86, .inl (o_iload 4 88)), (88, .inr 0)]
def lX10_countAhead : List (Nat × (Op ⊕ Nat)) := lX10_countAhead_0 ++ (lX10_countAhead_1)
theorem qX10_countAhead : yX10_countAhead.cls = RX10 ∧ yX10_countAhead.cls ≠ "java/lang/invoke/MethodHandle" ∧ yX10_countAhead.cls ≠ "java/lang/invoke/VarHandle" ∧ (parseMethodDescriptor yX10_countAhead.desc).map (fun d => d.parameters.length) = some 2 := by decide +kernel
set_option maxRecDepth 10000 in
theorem hX10_countAhead_0 (l : Launch) {p : Program} {e : Env} {s : State} {m : MethodId} {args : Array Value} {below : List Frame} {meth : Method} {c : Code} {D : va_G} {ad adV : Nat → Nat} {cA : Nat → ClassId} {K : Kt} (C0 : Cx p s m args meth c D ad adV cA cX10_countAhead 7 RX10) (hr : meth.sig.returnType = (some .int)) : ∀ q ∈ lX10_countAhead_0, Sd p l e (rmd 3) s m args below meth c (MQ below (QQ D ad cA K) args s 0 0 (AA ad)) D ad cA 7 q.1 (opOf K q.2) := List.forall_mem_cons.mpr ⟨s_aload_n C0 dX10_countAhead_0 rfl, List.forall_mem_cons.mpr ⟨s_get (ci := 10) (k := 4) C0 dX10_countAhead_1 inX10 rfl (by decide) tw2_122, List.forall_mem_cons.mpr ⟨s_iload_n C0 dX10_countAhead_4 rfl, List.forall_mem_cons.mpr ⟨s_iload_n C0 dX10_countAhead_5 rfl, List.forall_mem_cons.mpr ⟨s_aload_n C0 dX10_countAhead_6 rfl, List.forall_mem_cons.mpr ⟨s_get (ci := 10) (k := 4) C0 dX10_countAhead_7 inX10 rfl (by decide) tw2_122, List.forall_mem_cons.mpr ⟨s_iload_n C0 dX10_countAhead_10 rfl, List.forall_mem_cons.mpr ⟨s_iload_n C0 dX10_countAhead_11 rfl, List.forall_mem_cons.mpr ⟨s_callV (ci := 1) C0 (kX1_fullThrows l) dX10_countAhead_12 rfl qX1_fullThrows tw4_115 tw4_116 tw4_117 tw1_6 tw4_118 rfl (by decide) (by decide), List.forall_mem_cons.mpr ⟨s_callV (ci := 1) C0 (kX1_valueOf l) dX10_countAhead_15 rfl qX1_valueOf tw4_91 tw3_202 tw3_203 tw1_6 tw3_204 rfl (by decide) (by decide), List.forall_mem_cons.mpr ⟨s_istore_n C0 dX10_countAhead_18 rfl (by decide), List.forall_mem_cons.mpr ⟨s_iconst C0 dX10_countAhead_19 rfl, List.forall_mem_cons.mpr ⟨s_istore C0 dX10_countAhead_20 (by decide), List.forall_mem_cons.mpr ⟨s_iconst C0 dX10_countAhead_22 rfl, List.forall_mem_cons.mpr ⟨s_istore C0 dX10_countAhead_23 (by decide), List.forall_mem_cons.mpr ⟨s_iload C0 dX10_countAhead_25, List.forall_mem_cons.mpr ⟨s_aload_n C0 dX10_countAhead_27 rfl, List.forall_mem_cons.mpr ⟨s_get (ci := 10) (k := 2) C0 dX10_countAhead_28 inX10 rfl (by decide) tw2_120, List.forall_mem_cons.mpr ⟨s_get (ci := 9) (k := 0) C0 dX10_countAhead_31 inX9 rfl (by decide) tw1_84, List.forall_mem_cons.mpr ⟨s_icmp_ge C0 dX10_countAhead_34 rfl, List.forall_mem_cons.mpr ⟨s_aload_n C0 dX10_countAhead_37 rfl, List.forall_mem_cons.mpr ⟨s_get (ci := 10) (k := 4) C0 dX10_countAhead_38 inX10 rfl (by decide) tw2_122, List.forall_mem_cons.mpr ⟨s_iload C0 dX10_countAhead_41, List.forall_mem_cons.mpr ⟨s_iload_n C0 dX10_countAhead_43 rfl, List.forall_mem_cons.mpr ⟨s_aload_n C0 dX10_countAhead_44 rfl, List.forall_mem_cons.mpr ⟨s_get (ci := 10) (k := 4) C0 dX10_countAhead_45 inX10 rfl (by decide) tw2_122, List.forall_mem_cons.mpr ⟨s_iload C0 dX10_countAhead_48, List.forall_mem_cons.mpr ⟨s_iload_n C0 dX10_countAhead_50 rfl, List.forall_mem_cons.mpr ⟨s_callV (ci := 1) C0 (kX1_fullThrows l) dX10_countAhead_51 rfl qX1_fullThrows tw4_115 tw4_116 tw4_117 tw1_6 tw4_118 rfl (by decide) (by decide), List.forall_mem_cons.mpr ⟨s_callV (ci := 1) C0 (kX1_valueOf l) dX10_countAhead_54 rfl qX1_valueOf tw4_91 tw3_202 tw3_203 tw1_6 tw3_204 rfl (by decide) (by decide), List.forall_mem_cons.mpr ⟨s_istore C0 dX10_countAhead_57 (by decide), List.forall_mem_cons.mpr ⟨s_iload C0 dX10_countAhead_59, List.forall_mem_cons.mpr ⟨s_iload_n C0 dX10_countAhead_61 rfl, List.forall_mem_cons.mpr ⟨s_icmp_gt C0 dX10_countAhead_62 rfl, List.forall_mem_cons.mpr ⟨s_iload C0 dX10_countAhead_65, List.forall_mem_cons.mpr ⟨s_iload_n C0 dX10_countAhead_67 rfl, List.forall_mem_cons.mpr ⟨s_icmp_ne C0 dX10_countAhead_68 rfl, List.forall_mem_cons.mpr ⟨s_iload C0 dX10_countAhead_71, List.forall_mem_cons.mpr ⟨s_iload_n C0 dX10_countAhead_73 rfl, List.forall_mem_cons.mpr ⟨s_icmp_ge C0 dX10_countAhead_74 rfl, fun _ h => absurd h List.not_mem_nil⟩⟩⟩⟩⟩⟩⟩⟩⟩⟩⟩⟩⟩⟩⟩⟩⟩⟩⟩⟩⟩⟩⟩⟩⟩⟩⟩⟩⟩⟩⟩⟩⟩⟩⟩⟩⟩⟩⟩⟩
set_option maxRecDepth 10000 in
theorem hX10_countAhead_1 (l : Launch) {p : Program} {e : Env} {s : State} {m : MethodId} {args : Array Value} {below : List Frame} {meth : Method} {c : Code} {D : va_G} {ad adV : Nat → Nat} {cA : Nat → ClassId} {K : Kt} (C0 : Cx p s m args meth c D ad adV cA cX10_countAhead 7 RX10) (hr : meth.sig.returnType = (some .int)) : ∀ q ∈ lX10_countAhead_1, Sd p l e (rmd 3) s m args below meth c (MQ below (QQ D ad cA K) args s 0 0 (AA ad)) D ad cA 7 q.1 (opOf K q.2) := List.forall_mem_cons.mpr ⟨s_iinc C0 dX10_countAhead_77 rfl (by decide), List.forall_mem_cons.mpr ⟨s_iinc C0 dX10_countAhead_80 rfl (by decide), List.forall_mem_cons.mpr ⟨s_goto C0 dX10_countAhead_83 rfl, List.forall_mem_cons.mpr ⟨s_iload C0 dX10_countAhead_86, List.forall_mem_cons.mpr ⟨s_iret C0 hr dX10_countAhead_88, fun _ h => absurd h List.not_mem_nil⟩⟩⟩⟩⟩
def fX10_countAhead : Mf := mf 7 (fun K => tl K lX10_countAhead)
theorem kX10_countAhead (l : Launch) : Okm l yX10_countAhead cX10_countAhead 7 (some .int) 3 fX10_countAhead := Okm_tl (own := RX10) (by decide +kernel) rfl (fun C0 hr => List.forall_mem_append.mpr ⟨hX10_countAhead_0 l C0 hr, hX10_countAhead_1 l C0 hr⟩)
theorem dX10_ranked_0 : decode cX10_ranked 0 = .ok (.aload_n 0, 1) := by decide +kernel
theorem dX10_ranked_1 : decode cX10_ranked 1 = .ok (.iload_n 1, 1) := by decide +kernel
theorem dX10_ranked_2 : decode cX10_ranked 2 = .ok (.invokevirtual 184, 3) := by decide +kernel
theorem dX10_ranked_5 : decode cX10_ranked 5 = .ok (.ifCond .eq 20, 3) := by decide +kernel
theorem dX10_ranked_8 : decode cX10_ranked 8 = .ok (.iload_n 2, 1) := by decide +kernel
theorem dX10_ranked_9 : decode cX10_ranked 9 = .ok (.iconst 0, 1) := by decide +kernel
theorem dX10_ranked_10 : decode cX10_ranked 10 = .ok (.aload_n 0, 1) := by decide +kernel
theorem dX10_ranked_11 : decode cX10_ranked 11 = .ok (.getfield 28, 3) := by decide +kernel
theorem dX10_ranked_14 : decode cX10_ranked 14 = .ok (.getfield 148, 3) := by decide +kernel
theorem dX10_ranked_17 : decode cX10_ranked 17 = .ok (.iconst 1, 1) := by decide +kernel
theorem dX10_ranked_18 : decode cX10_ranked 18 = .ok (.isub, 1) := by decide +kernel
theorem dX10_ranked_19 : decode cX10_ranked 19 = .ok (.invokestatic 104, 3) := by decide +kernel
theorem dX10_ranked_22 : decode cX10_ranked 22 = .ok (.ifCond .ne 9, 3) := by decide +kernel
theorem dX10_ranked_25 : decode cX10_ranked 25 = .ok (.aload_n 0, 1) := by decide +kernel
theorem dX10_ranked_26 : decode cX10_ranked 26 = .ok (.iconst 1, 1) := by decide +kernel
theorem dX10_ranked_27 : decode cX10_ranked 27 = .ok (.invokevirtual 108, 3) := by decide +kernel
theorem dX10_ranked_30 : decode cX10_ranked 30 = .ok (.ireturn, 1) := by decide +kernel
theorem dX10_ranked_31 : decode cX10_ranked 31 = .ok (.iconst 0, 1) := by decide +kernel
theorem dX10_ranked_32 : decode cX10_ranked 32 = .ok (.istore_n 3, 1) := by decide +kernel
theorem dX10_ranked_33 : decode cX10_ranked 33 = .ok (.iload_n 3, 1) := by decide +kernel
theorem dX10_ranked_34 : decode cX10_ranked 34 = .ok (.aload_n 0, 1) := by decide +kernel
theorem dX10_ranked_35 : decode cX10_ranked 35 = .ok (.getfield 28, 3) := by decide +kernel
theorem dX10_ranked_38 : decode cX10_ranked 38 = .ok (.getfield 148, 3) := by decide +kernel
theorem dX10_ranked_41 : decode cX10_ranked 41 = .ok (.if_icmp .ge 25, 3) := by decide +kernel
theorem dX10_ranked_44 : decode cX10_ranked 44 = .ok (.aload_n 0, 1) := by decide +kernel
theorem dX10_ranked_45 : decode cX10_ranked 45 = .ok (.iload_n 3, 1) := by decide +kernel
theorem dX10_ranked_46 : decode cX10_ranked 46 = .ok (.iload_n 1, 1) := by decide +kernel
theorem dX10_ranked_47 : decode cX10_ranked 47 = .ok (.invokevirtual 237, 3) := by decide +kernel
theorem dX10_ranked_50 : decode cX10_ranked 50 = .ok (.iload_n 2, 1) := by decide +kernel
theorem dX10_ranked_51 : decode cX10_ranked 51 = .ok (.if_icmp .ne 9, 3) := by decide +kernel
theorem dX10_ranked_54 : decode cX10_ranked 54 = .ok (.aload_n 0, 1) := by decide +kernel
theorem dX10_ranked_55 : decode cX10_ranked 55 = .ok (.iload_n 3, 1) := by decide +kernel
theorem dX10_ranked_56 : decode cX10_ranked 56 = .ok (.invokevirtual 138, 3) := by decide +kernel
theorem dX10_ranked_59 : decode cX10_ranked 59 = .ok (.ireturn, 1) := by decide +kernel
theorem dX10_ranked_60 : decode cX10_ranked 60 = .ok (.iinc 3 1, 3) := by decide +kernel
theorem dX10_ranked_63 : decode cX10_ranked 63 = .ok (.goto (-30), 3) := by decide +kernel
theorem dX10_ranked_66 : decode cX10_ranked 66 = .ok (.aload_n 0, 1) := by decide +kernel
theorem dX10_ranked_67 : decode cX10_ranked 67 = .ok (.bipush (-2), 2) := by decide +kernel
theorem dX10_ranked_69 : decode cX10_ranked 69 = .ok (.invokevirtual 138, 3) := by decide +kernel
theorem dX10_ranked_72 : decode cX10_ranked 72 = .ok (.ireturn, 1) := by decide +kernel
def lX10_ranked : List (Nat × (Op ⊕ Nat)) := [(0, .inl (o_aload 0 1)), (1, .inl (o_iload 1 2)), (2, .inl (o_callV fX10_hasGame 1 10 5)), (5, .inl (o_if_eq 25 8)), (8, .inl (o_iload 2 9)), (9, .inl (o_pushI (nI 0) 10)), (10, .inl (o_aload 0 11)), (11, .inl (o_get 10 2 14)), (14, .inl (o_get 9 0 17)), (17, .inl (o_pushI (nI 1) 18)), (18, .inl (o_isub 19)), (19, .inl (o_callS fX10_within 3 22)), (22, .inl (o_if_ne 31 25)), (25, .inl (o_aload 0 26)), (26, .inl (o_pushI (nI 1) 27)), (27, .inl (o_callV fX10_refuse 1 10 30)), (30, .inr 0), (31, .inl (o_pushI (nI 0) 32)), (32, .inl (o_istore 3 33)), (33, .inl (o_iload 3 34)), (34, .inl (o_aload 0 35)), (35, .inl (o_get 10 2 38)), (38, .inl (o_get 9 0 41)), (41, .inl (o_icmp_ge 66 44)), (44, .inl (o_aload 0 45)), (45, .inl (o_iload 3 46)), (46, .inl (o_iload 1 47)), (47, .inl (o_callV fX10_countAhead 2 10 50)), (50, .inl (o_iload 2 51)), (51, .inl (o_icmp_ne 60 54)), (54, .inl (o_aload 0 55)), (55, .inl (o_iload 3 56)), (56, .inl (o_callV fX10_answer 1 10 59)), (59, .inr 0), (60, .inl (o_iinc 3 (nI 1) 63)), (63, .inl (o_goto 33)), (66, .inl (o_aload 0 67)), (67, .inl (o_pushI ((-2)) 69)), (69, .inl (o_callV fX10_answer 1 10 72)), (72, .inr 0)]
theorem qX10_ranked : yX10_ranked.cls = RX10 ∧ yX10_ranked.cls ≠ "java/lang/invoke/MethodHandle" ∧ yX10_ranked.cls ≠ "java/lang/invoke/VarHandle" ∧ (parseMethodDescriptor yX10_ranked.desc).map (fun d => d.parameters.length) = some 2 := by decide +kernel
set_option maxRecDepth 10000 in
theorem hX10_ranked_0 (l : Launch) {p : Program} {e : Env} {s : State} {m : MethodId} {args : Array Value} {below : List Frame} {meth : Method} {c : Code} {D : va_G} {ad adV : Nat → Nat} {cA : Nat → ClassId} {K : Kt} (C0 : Cx p s m args meth c D ad adV cA cX10_ranked 4 RX10) (hr : meth.sig.returnType = (some .int)) : ∀ q ∈ lX10_ranked, Sd p l e (rmd 4) s m args below meth c (MQ below (QQ D ad cA K) args s 0 0 (AA ad)) D ad cA 4 q.1 (opOf K q.2) := List.forall_mem_cons.mpr ⟨s_aload_n C0 dX10_ranked_0 rfl, List.forall_mem_cons.mpr ⟨s_iload_n C0 dX10_ranked_1 rfl, List.forall_mem_cons.mpr ⟨s_callV (ci := 10) C0 (kX10_hasGame l) dX10_ranked_2 rfl qX10_hasGame tw3_217 tw3_219 twp_19 tw1_1 tw3_220 rfl (by decide) (by decide), List.forall_mem_cons.mpr ⟨s_if_eq C0 dX10_ranked_5 rfl, List.forall_mem_cons.mpr ⟨s_iload_n C0 dX10_ranked_8 rfl, List.forall_mem_cons.mpr ⟨s_iconst C0 dX10_ranked_9 rfl, List.forall_mem_cons.mpr ⟨s_aload_n C0 dX10_ranked_10 rfl, List.forall_mem_cons.mpr ⟨s_get (ci := 10) (k := 2) C0 dX10_ranked_11 inX10 rfl (by decide) tw2_120, List.forall_mem_cons.mpr ⟨s_get (ci := 9) (k := 0) C0 dX10_ranked_14 inX9 rfl (by decide) tw1_84, List.forall_mem_cons.mpr ⟨s_iconst C0 dX10_ranked_17 rfl, List.forall_mem_cons.mpr ⟨s_isub C0 dX10_ranked_18, List.forall_mem_cons.mpr ⟨s_callS C0 (kX10_within l) dX10_ranked_19 qX10_within tw2_170 tw2_171 tw1_1 tw2_172 rfl (by decide) (by decide), List.forall_mem_cons.mpr ⟨s_if_ne C0 dX10_ranked_22 rfl, List.forall_mem_cons.mpr ⟨s_aload_n C0 dX10_ranked_25 rfl, List.forall_mem_cons.mpr ⟨s_iconst C0 dX10_ranked_26 rfl, List.forall_mem_cons.mpr ⟨s_callV (ci := 10) C0 (kX10_refuse l) dX10_ranked_27 rfl qX10_refuse tw2_173 tw2_175 twp_0 tw1_1 tw2_176 rfl (by decide) (by decide), List.forall_mem_cons.mpr ⟨s_iret C0 hr dX10_ranked_30, List.forall_mem_cons.mpr ⟨s_iconst C0 dX10_ranked_31 rfl, List.forall_mem_cons.mpr ⟨s_istore_n C0 dX10_ranked_32 rfl (by decide), List.forall_mem_cons.mpr ⟨s_iload_n C0 dX10_ranked_33 rfl, List.forall_mem_cons.mpr ⟨s_aload_n C0 dX10_ranked_34 rfl, List.forall_mem_cons.mpr ⟨s_get (ci := 10) (k := 2) C0 dX10_ranked_35 inX10 rfl (by decide) tw2_120, List.forall_mem_cons.mpr ⟨s_get (ci := 9) (k := 0) C0 dX10_ranked_38 inX9 rfl (by decide) tw1_84, List.forall_mem_cons.mpr ⟨s_icmp_ge C0 dX10_ranked_41 rfl, List.forall_mem_cons.mpr ⟨s_aload_n C0 dX10_ranked_44 rfl, List.forall_mem_cons.mpr ⟨s_iload_n C0 dX10_ranked_45 rfl, List.forall_mem_cons.mpr ⟨s_iload_n C0 dX10_ranked_46 rfl, List.forall_mem_cons.mpr ⟨s_callV (ci := 10) C0 (kX10_countAhead l) dX10_ranked_47 rfl qX10_countAhead tw4_111 tw4_113 twp_27 tw1_1 tw4_114 rfl (by decide) (by decide), List.forall_mem_cons.mpr ⟨s_iload_n C0 dX10_ranked_50 rfl, List.forall_mem_cons.mpr ⟨s_icmp_ne C0 dX10_ranked_51 rfl, List.forall_mem_cons.mpr ⟨s_aload_n C0 dX10_ranked_54 rfl, List.forall_mem_cons.mpr ⟨s_iload_n C0 dX10_ranked_55 rfl, List.forall_mem_cons.mpr ⟨s_callV (ci := 10) C0 (kX10_answer l) dX10_ranked_56 rfl qX10_answer tw3_139 tw3_141 twp_14 tw1_1 tw3_142 rfl (by decide) (by decide), List.forall_mem_cons.mpr ⟨s_iret C0 hr dX10_ranked_59, List.forall_mem_cons.mpr ⟨s_iinc C0 dX10_ranked_60 rfl (by decide), List.forall_mem_cons.mpr ⟨s_goto C0 dX10_ranked_63 rfl, List.forall_mem_cons.mpr ⟨s_aload_n C0 dX10_ranked_66 rfl, List.forall_mem_cons.mpr ⟨s_bipush C0 dX10_ranked_67 (by decide +kernel), List.forall_mem_cons.mpr ⟨s_callV (ci := 10) C0 (kX10_answer l) dX10_ranked_69 rfl qX10_answer tw3_139 tw3_141 twp_14 tw1_1 tw3_142 rfl (by decide) (by decide), List.forall_mem_cons.mpr ⟨s_iret C0 hr dX10_ranked_72, fun _ h => absurd h List.not_mem_nil⟩⟩⟩⟩⟩⟩⟩⟩⟩⟩⟩⟩⟩⟩⟩⟩⟩⟩⟩⟩⟩⟩⟩⟩⟩⟩⟩⟩⟩⟩⟩⟩⟩⟩⟩⟩⟩⟩⟩⟩
def fX10_ranked : Mf := mf 4 (fun K => tl K lX10_ranked)
theorem kX10_ranked (l : Launch) : Okm l yX10_ranked cX10_ranked 4 (some .int) 4 fX10_ranked := Okm_tl (own := RX10) (by decide +kernel) rfl (fun C0 hr => hX10_ranked_0 l C0 hr)
theorem dX10_extra_0 : decode cX10_extra 0 = .ok (.aload_n 0, 1) := by decide +kernel
theorem dX10_extra_1 : decode cX10_extra 1 = .ok (.iload_n 1, 1) := by decide +kernel
theorem dX10_extra_2 : decode cX10_extra 2 = .ok (.invokevirtual 184, 3) := by decide +kernel
theorem dX10_extra_5 : decode cX10_extra 5 = .ok (.ifCond .ne 9, 3) := by decide +kernel
theorem dX10_extra_8 : decode cX10_extra 8 = .ok (.aload_n 0, 1) := by decide +kernel
theorem dX10_extra_9 : decode cX10_extra 9 = .ok (.iconst 1, 1) := by decide +kernel
theorem dX10_extra_10 : decode cX10_extra 10 = .ok (.invokevirtual 108, 3) := by decide +kernel
theorem dX10_extra_13 : decode cX10_extra 13 = .ok (.ireturn, 1) := by decide +kernel
theorem dX10_extra_14 : decode cX10_extra 14 = .ok (.iconst 0, 1) := by decide +kernel
theorem dX10_extra_15 : decode cX10_extra 15 = .ok (.istore_n 2, 1) := by decide +kernel
theorem dX10_extra_16 : decode cX10_extra 16 = .ok (.iconst 0, 1) := by decide +kernel
theorem dX10_extra_17 : decode cX10_extra 17 = .ok (.istore_n 3, 1) := by decide +kernel
theorem dX10_extra_18 : decode cX10_extra 18 = .ok (.iload_n 3, 1) := by decide +kernel
theorem dX10_extra_19 : decode cX10_extra 19 = .ok (.aload_n 0, 1) := by decide +kernel
theorem dX10_extra_20 : decode cX10_extra 20 = .ok (.getfield 28, 3) := by decide +kernel
theorem dX10_extra_23 : decode cX10_extra 23 = .ok (.getfield 148, 3) := by decide +kernel
theorem dX10_extra_26 : decode cX10_extra 26 = .ok (.if_icmp .ge 24, 3) := by decide +kernel
theorem dX10_extra_29 : decode cX10_extra 29 = .ok (.iload_n 2, 1) := by decide +kernel
theorem dX10_extra_30 : decode cX10_extra 30 = .ok (.aload_n 0, 1) := by decide +kernel
theorem dX10_extra_31 : decode cX10_extra 31 = .ok (.getfield 53, 3) := by decide +kernel
theorem dX10_extra_34 : decode cX10_extra 34 = .ok (.iload_n 3, 1) := by decide +kernel
theorem dX10_extra_35 : decode cX10_extra 35 = .ok (.iload_n 1, 1) := by decide +kernel
theorem dX10_extra_36 : decode cX10_extra 36 = .ok (.sipush 200, 3) := by decide +kernel
theorem dX10_extra_39 : decode cX10_extra 39 = .ok (.invokevirtual 234, 3) := by decide +kernel
theorem dX10_extra_42 : decode cX10_extra 42 = .ok (.iadd, 1) := by decide +kernel
theorem dX10_extra_43 : decode cX10_extra 43 = .ok (.istore_n 2, 1) := by decide +kernel
theorem dX10_extra_44 : decode cX10_extra 44 = .ok (.iinc 3 1, 3) := by decide +kernel
theorem dX10_extra_47 : decode cX10_extra 47 = .ok (.goto (-29), 3) := by decide +kernel
theorem dX10_extra_50 : decode cX10_extra 50 = .ok (.aload_n 0, 1) := by decide +kernel
theorem dX10_extra_51 : decode cX10_extra 51 = .ok (.iload_n 2, 1) := by decide +kernel
theorem dX10_extra_52 : decode cX10_extra 52 = .ok (.invokevirtual 138, 3) := by decide +kernel
theorem dX10_extra_55 : decode cX10_extra 55 = .ok (.ireturn, 1) := by decide +kernel
def lX10_extra : List (Nat × (Op ⊕ Nat)) := [(0, .inl (o_aload 0 1)), (1, .inl (o_iload 1 2)), (2, .inl (o_callV fX10_hasGame 1 10 5)), (5, .inl (o_if_ne 14 8)), (8, .inl (o_aload 0 9)), (9, .inl (o_pushI (nI 1) 10)), (10, .inl (o_callV fX10_refuse 1 10 13)), (13, .inr 0), (14, .inl (o_pushI (nI 0) 15)), (15, .inl (o_istore 2 16)), (16, .inl (o_pushI (nI 0) 17)), (17, .inl (o_istore 3 18)), (18, .inl (o_iload 3 19)), (19, .inl (o_aload 0 20)), (20, .inl (o_get 10 2 23)), (23, .inl (o_get 9 0 26)), (26, .inl (o_icmp_ge 50 29)), (29, .inl (o_iload 2 30)), (30, .inl (o_aload 0 31)), (31, .inl (o_get 10 5 34)), (34, .inl (o_iload 3 35)), (35, .inl (o_iload 1 36)), (36, .inl (o_pushI (nI 200) 39)), (39, .inl (o_callV fX3_mostOf 3 3 42)), (42, .inl (o_iadd 43)), (43, .inl (o_istore 2 44)), (44, .inl (o_iinc 3 (nI 1) 47)), (47, .inl (o_goto 18)), (50, .inl (o_aload 0 51)), (51, .inl (o_iload 2 52)), (52, .inl (o_callV fX10_answer 1 10 55)), (55, .inr 0)]
theorem qX10_extra : yX10_extra.cls = RX10 ∧ yX10_extra.cls ≠ "java/lang/invoke/MethodHandle" ∧ yX10_extra.cls ≠ "java/lang/invoke/VarHandle" ∧ (parseMethodDescriptor yX10_extra.desc).map (fun d => d.parameters.length) = some 1 := by decide +kernel
set_option maxRecDepth 10000 in
theorem hX10_extra_0 (l : Launch) {p : Program} {e : Env} {s : State} {m : MethodId} {args : Array Value} {below : List Frame} {meth : Method} {c : Code} {D : va_G} {ad adV : Nat → Nat} {cA : Nat → ClassId} {K : Kt} (C0 : Cx p s m args meth c D ad adV cA cX10_extra 4 RX10) (hr : meth.sig.returnType = (some .int)) : ∀ q ∈ lX10_extra, Sd p l e (rmd 4) s m args below meth c (MQ below (QQ D ad cA K) args s 0 0 (AA ad)) D ad cA 4 q.1 (opOf K q.2) := List.forall_mem_cons.mpr ⟨s_aload_n C0 dX10_extra_0 rfl, List.forall_mem_cons.mpr ⟨s_iload_n C0 dX10_extra_1 rfl, List.forall_mem_cons.mpr ⟨s_callV (ci := 10) C0 (kX10_hasGame l) dX10_extra_2 rfl qX10_hasGame tw3_217 tw3_219 twp_19 tw1_1 tw3_220 rfl (by decide) (by decide), List.forall_mem_cons.mpr ⟨s_if_ne C0 dX10_extra_5 rfl, List.forall_mem_cons.mpr ⟨s_aload_n C0 dX10_extra_8 rfl, List.forall_mem_cons.mpr ⟨s_iconst C0 dX10_extra_9 rfl, List.forall_mem_cons.mpr ⟨s_callV (ci := 10) C0 (kX10_refuse l) dX10_extra_10 rfl qX10_refuse tw2_173 tw2_175 twp_0 tw1_1 tw2_176 rfl (by decide) (by decide), List.forall_mem_cons.mpr ⟨s_iret C0 hr dX10_extra_13, List.forall_mem_cons.mpr ⟨s_iconst C0 dX10_extra_14 rfl, List.forall_mem_cons.mpr ⟨s_istore_n C0 dX10_extra_15 rfl (by decide), List.forall_mem_cons.mpr ⟨s_iconst C0 dX10_extra_16 rfl, List.forall_mem_cons.mpr ⟨s_istore_n C0 dX10_extra_17 rfl (by decide), List.forall_mem_cons.mpr ⟨s_iload_n C0 dX10_extra_18 rfl, List.forall_mem_cons.mpr ⟨s_aload_n C0 dX10_extra_19 rfl, List.forall_mem_cons.mpr ⟨s_get (ci := 10) (k := 2) C0 dX10_extra_20 inX10 rfl (by decide) tw2_120, List.forall_mem_cons.mpr ⟨s_get (ci := 9) (k := 0) C0 dX10_extra_23 inX9 rfl (by decide) tw1_84, List.forall_mem_cons.mpr ⟨s_icmp_ge C0 dX10_extra_26 rfl, List.forall_mem_cons.mpr ⟨s_iload_n C0 dX10_extra_29 rfl, List.forall_mem_cons.mpr ⟨s_aload_n C0 dX10_extra_30 rfl, List.forall_mem_cons.mpr ⟨s_get (ci := 10) (k := 5) C0 dX10_extra_31 inX10 rfl (by decide) tw2_123, List.forall_mem_cons.mpr ⟨s_iload_n C0 dX10_extra_34 rfl, List.forall_mem_cons.mpr ⟨s_iload_n C0 dX10_extra_35 rfl, List.forall_mem_cons.mpr ⟨s_sipush C0 dX10_extra_36 (by decide +kernel), List.forall_mem_cons.mpr ⟨s_callV (ci := 3) C0 (kX3_mostOf l) dX10_extra_39 rfl qX3_mostOf tw4_96 tw4_97 tw4_98 tw1_7 tw4_99 rfl (by decide) (by decide), List.forall_mem_cons.mpr ⟨s_iadd C0 dX10_extra_42, List.forall_mem_cons.mpr ⟨s_istore_n C0 dX10_extra_43 rfl (by decide), List.forall_mem_cons.mpr ⟨s_iinc C0 dX10_extra_44 rfl (by decide), List.forall_mem_cons.mpr ⟨s_goto C0 dX10_extra_47 rfl, List.forall_mem_cons.mpr ⟨s_aload_n C0 dX10_extra_50 rfl, List.forall_mem_cons.mpr ⟨s_iload_n C0 dX10_extra_51 rfl, List.forall_mem_cons.mpr ⟨s_callV (ci := 10) C0 (kX10_answer l) dX10_extra_52 rfl qX10_answer tw3_139 tw3_141 twp_14 tw1_1 tw3_142 rfl (by decide) (by decide), List.forall_mem_cons.mpr ⟨s_iret C0 hr dX10_extra_55, fun _ h => absurd h List.not_mem_nil⟩⟩⟩⟩⟩⟩⟩⟩⟩⟩⟩⟩⟩⟩⟩⟩⟩⟩⟩⟩⟩⟩⟩⟩⟩⟩⟩⟩⟩⟩⟩⟩
def fX10_extra : Mf := mf 4 (fun K => tl K lX10_extra)
theorem kX10_extra (l : Launch) : Okm l yX10_extra cX10_extra 4 (some .int) 4 fX10_extra := Okm_tl (own := RX10) (by decide +kernel) rfl (fun C0 hr => hX10_extra_0 l C0 hr)
theorem dX10_clash_0 : decode cX10_clash 0 = .ok (.aload_n 0, 1) := by decide +kernel
theorem dX10_clash_1 : decode cX10_clash 1 = .ok (.iload_n 1, 1) := by decide +kernel
theorem dX10_clash_2 : decode cX10_clash 2 = .ok (.invokevirtual 162, 3) := by decide +kernel
theorem dX10_clash_5 : decode cX10_clash 5 = .ok (.ifCond .eq 11, 3) := by decide +kernel
theorem dX10_clash_8 : decode cX10_clash 8 = .ok (.aload_n 0, 1) := by decide +kernel
theorem dX10_clash_9 : decode cX10_clash 9 = .ok (.iload_n 2, 1) := by decide +kernel
theorem dX10_clash_10 : decode cX10_clash 10 = .ok (.invokevirtual 184, 3) := by decide +kernel
theorem dX10_clash_13 : decode cX10_clash 13 = .ok (.ifCond .ne 9, 3) := by decide +kernel
theorem dX10_clash_16 : decode cX10_clash 16 = .ok (.aload_n 0, 1) := by decide +kernel
theorem dX10_clash_17 : decode cX10_clash 17 = .ok (.iconst 1, 1) := by decide +kernel
theorem dX10_clash_18 : decode cX10_clash 18 = .ok (.invokevirtual 108, 3) := by decide +kernel
theorem dX10_clash_21 : decode cX10_clash 21 = .ok (.ireturn, 1) := by decide +kernel
theorem dX10_clash_22 : decode cX10_clash 22 = .ok (.iload_n 3, 1) := by decide +kernel
theorem dX10_clash_23 : decode cX10_clash 23 = .ok (.iconst 1, 1) := by decide +kernel
theorem dX10_clash_24 : decode cX10_clash 24 = .ok (.bipush 120, 2) := by decide +kernel
theorem dX10_clash_26 : decode cX10_clash 26 = .ok (.invokestatic 104, 3) := by decide +kernel
theorem dX10_clash_29 : decode cX10_clash 29 = .ok (.ifCond .ne 9, 3) := by decide +kernel
theorem dX10_clash_32 : decode cX10_clash 32 = .ok (.aload_n 0, 1) := by decide +kernel
theorem dX10_clash_33 : decode cX10_clash 33 = .ok (.iconst 2, 1) := by decide +kernel
theorem dX10_clash_34 : decode cX10_clash 34 = .ok (.invokevirtual 108, 3) := by decide +kernel
theorem dX10_clash_37 : decode cX10_clash 37 = .ok (.ireturn, 1) := by decide +kernel
theorem dX10_clash_38 : decode cX10_clash 38 = .ok (.aload_n 0, 1) := by decide +kernel
theorem dX10_clash_39 : decode cX10_clash 39 = .ok (.getfield 53, 3) := by decide +kernel
theorem dX10_clash_42 : decode cX10_clash 42 = .ok (.iload_n 1, 1) := by decide +kernel
theorem dX10_clash_43 : decode cX10_clash 43 = .ok (.invokevirtual 243, 3) := by decide +kernel
theorem dX10_clash_46 : decode cX10_clash 46 = .ok (.aload_n 0, 1) := by decide +kernel
theorem dX10_clash_47 : decode cX10_clash 47 = .ok (.aload_n 0, 1) := by decide +kernel
theorem dX10_clash_48 : decode cX10_clash 48 = .ok (.getfield 53, 3) := by decide +kernel
theorem dX10_clash_51 : decode cX10_clash 51 = .ok (.iload_n 2, 1) := by decide +kernel
theorem dX10_clash_52 : decode cX10_clash 52 = .ok (.iload_n 3, 1) := by decide +kernel
theorem dX10_clash_53 : decode cX10_clash 53 = .ok (.invokevirtual 246, 3) := by decide +kernel
theorem dX10_clash_56 : decode cX10_clash 56 = .ok (.invokevirtual 138, 3) := by decide +kernel
theorem dX10_clash_59 : decode cX10_clash 59 = .ok (.ireturn, 1) := by decide +kernel
def lX10_clash : List (Nat × (Op ⊕ Nat)) := [(0, .inl (o_aload 0 1)), (1, .inl (o_iload 1 2)), (2, .inl (o_callV fX10_hasArm 1 10 5)), (5, .inl (o_if_eq 16 8)), (8, .inl (o_aload 0 9)), (9, .inl (o_iload 2 10)), (10, .inl (o_callV fX10_hasGame 1 10 13)), (13, .inl (o_if_ne 22 16)), (16, .inl (o_aload 0 17)), (17, .inl (o_pushI (nI 1) 18)), (18, .inl (o_callV fX10_refuse 1 10 21)), (21, .inr 0), (22, .inl (o_iload 3 23)), (23, .inl (o_pushI (nI 1) 24)), (24, .inl (o_pushI (nI 120) 26)), (26, .inl (o_callS fX10_within 3 29)), (29, .inl (o_if_ne 38 32)), (32, .inl (o_aload 0 33)), (33, .inl (o_pushI (nI 2) 34)), (34, .inl (o_callV fX10_refuse 1 10 37)), (37, .inr 0), (38, .inl (o_aload 0 39)), (39, .inl (o_get 10 5 42)), (42, .inl (o_iload 1 43)), (43, .inl (o_callV fX3_open 1 3 46)), (46, .inl (o_aload 0 47)), (47, .inl (o_aload 0 48)), (48, .inl (o_get 10 5 51)), (51, .inl (o_iload 2 52)), (52, .inl (o_iload 3 53)), (53, .inl (o_callV fX3_clashes 2 3 56)), (56, .inl (o_callV fX10_answer 1 10 59)), (59, .inr 0)]
theorem qX10_clash : yX10_clash.cls = RX10 ∧ yX10_clash.cls ≠ "java/lang/invoke/MethodHandle" ∧ yX10_clash.cls ≠ "java/lang/invoke/VarHandle" ∧ (parseMethodDescriptor yX10_clash.desc).map (fun d => d.parameters.length) = some 3 := by decide +kernel
set_option maxRecDepth 10000 in
theorem hX10_clash_0 (l : Launch) {p : Program} {e : Env} {s : State} {m : MethodId} {args : Array Value} {below : List Frame} {meth : Method} {c : Code} {D : va_G} {ad adV : Nat → Nat} {cA : Nat → ClassId} {K : Kt} (C0 : Cx p s m args meth c D ad adV cA cX10_clash 4 RX10) (hr : meth.sig.returnType = (some .int)) : ∀ q ∈ lX10_clash, Sd p l e (rmd 4) s m args below meth c (MQ below (QQ D ad cA K) args s 0 0 (AA ad)) D ad cA 4 q.1 (opOf K q.2) := List.forall_mem_cons.mpr ⟨s_aload_n C0 dX10_clash_0 rfl, List.forall_mem_cons.mpr ⟨s_iload_n C0 dX10_clash_1 rfl, List.forall_mem_cons.mpr ⟨s_callV (ci := 10) C0 (kX10_hasArm l) dX10_clash_2 rfl qX10_hasArm tw3_171 tw3_173 twp_17 tw1_1 tw3_174 rfl (by decide) (by decide), List.forall_mem_cons.mpr ⟨s_if_eq C0 dX10_clash_5 rfl, List.forall_mem_cons.mpr ⟨s_aload_n C0 dX10_clash_8 rfl, List.forall_mem_cons.mpr ⟨s_iload_n C0 dX10_clash_9 rfl, List.forall_mem_cons.mpr ⟨s_callV (ci := 10) C0 (kX10_hasGame l) dX10_clash_10 rfl qX10_hasGame tw3_217 tw3_219 twp_19 tw1_1 tw3_220 rfl (by decide) (by decide), List.forall_mem_cons.mpr ⟨s_if_ne C0 dX10_clash_13 rfl, List.forall_mem_cons.mpr ⟨s_aload_n C0 dX10_clash_16 rfl, List.forall_mem_cons.mpr ⟨s_iconst C0 dX10_clash_17 rfl, List.forall_mem_cons.mpr ⟨s_callV (ci := 10) C0 (kX10_refuse l) dX10_clash_18 rfl qX10_refuse tw2_173 tw2_175 twp_0 tw1_1 tw2_176 rfl (by decide) (by decide), List.forall_mem_cons.mpr ⟨s_iret C0 hr dX10_clash_21, List.forall_mem_cons.mpr ⟨s_iload_n C0 dX10_clash_22 rfl, List.forall_mem_cons.mpr ⟨s_iconst C0 dX10_clash_23 rfl, List.forall_mem_cons.mpr ⟨s_bipush C0 dX10_clash_24 (by decide +kernel), List.forall_mem_cons.mpr ⟨s_callS C0 (kX10_within l) dX10_clash_26 qX10_within tw2_170 tw2_171 tw1_1 tw2_172 rfl (by decide) (by decide), List.forall_mem_cons.mpr ⟨s_if_ne C0 dX10_clash_29 rfl, List.forall_mem_cons.mpr ⟨s_aload_n C0 dX10_clash_32 rfl, List.forall_mem_cons.mpr ⟨s_iconst C0 dX10_clash_33 rfl, List.forall_mem_cons.mpr ⟨s_callV (ci := 10) C0 (kX10_refuse l) dX10_clash_34 rfl qX10_refuse tw2_173 tw2_175 twp_0 tw1_1 tw2_176 rfl (by decide) (by decide), List.forall_mem_cons.mpr ⟨s_iret C0 hr dX10_clash_37, List.forall_mem_cons.mpr ⟨s_aload_n C0 dX10_clash_38 rfl, List.forall_mem_cons.mpr ⟨s_get (ci := 10) (k := 5) C0 dX10_clash_39 inX10 rfl (by decide) tw2_123, List.forall_mem_cons.mpr ⟨s_iload_n C0 dX10_clash_42 rfl, List.forall_mem_cons.mpr ⟨s_callV (ci := 3) C0 (kX3_open l) dX10_clash_43 rfl qX3_open tw4_127 tw4_42 tw4_43 tw1_7 tw4_44 rfl (by decide) (by decide), List.forall_mem_cons.mpr ⟨s_aload_n C0 dX10_clash_46 rfl, List.forall_mem_cons.mpr ⟨s_aload_n C0 dX10_clash_47 rfl, List.forall_mem_cons.mpr ⟨s_get (ci := 10) (k := 5) C0 dX10_clash_48 inX10 rfl (by decide) tw2_123, List.forall_mem_cons.mpr ⟨s_iload_n C0 dX10_clash_51 rfl, List.forall_mem_cons.mpr ⟨s_iload_n C0 dX10_clash_52 rfl, List.forall_mem_cons.mpr ⟨s_callV (ci := 3) C0 (kX3_clashes l) dX10_clash_53 rfl qX3_clashes tw4_128 tw4_51 tw4_52 tw1_7 tw4_53 rfl (by decide) (by decide), List.forall_mem_cons.mpr ⟨s_callV (ci := 10) C0 (kX10_answer l) dX10_clash_56 rfl qX10_answer tw3_139 tw3_141 twp_14 tw1_1 tw3_142 rfl (by decide) (by decide), List.forall_mem_cons.mpr ⟨s_iret C0 hr dX10_clash_59, fun _ h => absurd h List.not_mem_nil⟩⟩⟩⟩⟩⟩⟩⟩⟩⟩⟩⟩⟩⟩⟩⟩⟩⟩⟩⟩⟩⟩⟩⟩⟩⟩⟩⟩⟩⟩⟩⟩⟩
def fX10_clash : Mf := mf 4 (fun K => tl K lX10_clash)
theorem kX10_clash (l : Launch) : Okm l yX10_clash cX10_clash 4 (some .int) 4 fX10_clash := Okm_tl (own := RX10) (by decide +kernel) rfl (fun C0 hr => hX10_clash_0 l C0 hr)
theorem dX10_troubleOfBest_0 : decode cX10_troubleOfBest 0 = .ok (.aload_n 0, 1) := by decide +kernel
theorem dX10_troubleOfBest_1 : decode cX10_troubleOfBest 1 = .ok (.iload_n 1, 1) := by decide +kernel
theorem dX10_troubleOfBest_2 : decode cX10_troubleOfBest 2 = .ok (.invokevirtual 184, 3) := by decide +kernel
theorem dX10_troubleOfBest_5 : decode cX10_troubleOfBest 5 = .ok (.ifCond .ne 5, 3) := by decide +kernel
theorem dX10_troubleOfBest_8 : decode cX10_troubleOfBest 8 = .ok (.iconst 1, 1) := by decide +kernel
theorem dX10_troubleOfBest_9 : decode cX10_troubleOfBest 9 = .ok (.ireturn, 1) := by decide +kernel
theorem dX10_troubleOfBest_10 : decode cX10_troubleOfBest 10 = .ok (.iload_n 2, 1) := by decide +kernel
theorem dX10_troubleOfBest_11 : decode cX10_troubleOfBest 11 = .ok (.iconst 1, 1) := by decide +kernel
theorem dX10_troubleOfBest_12 : decode cX10_troubleOfBest 12 = .ok (.iconst 5, 1) := by decide +kernel
theorem dX10_troubleOfBest_13 : decode cX10_troubleOfBest 13 = .ok (.invokestatic 104, 3) := by decide +kernel
theorem dX10_troubleOfBest_16 : decode cX10_troubleOfBest 16 = .ok (.ifCond .ne 5, 3) := by decide +kernel
theorem dX10_troubleOfBest_19 : decode cX10_troubleOfBest 19 = .ok (.iconst 2, 1) := by decide +kernel
theorem dX10_troubleOfBest_20 : decode cX10_troubleOfBest 20 = .ok (.ireturn, 1) := by decide +kernel
theorem dX10_troubleOfBest_21 : decode cX10_troubleOfBest 21 = .ok (.iload_n 1, 1) := by decide +kernel
theorem dX10_troubleOfBest_22 : decode cX10_troubleOfBest 22 = .ok (.iload_n 2, 1) := by decide +kernel
theorem dX10_troubleOfBest_23 : decode cX10_troubleOfBest 23 = .ok (.iadd, 1) := by decide +kernel
theorem dX10_troubleOfBest_24 : decode cX10_troubleOfBest 24 = .ok (.aload_n 0, 1) := by decide +kernel
theorem dX10_troubleOfBest_25 : decode cX10_troubleOfBest 25 = .ok (.getfield 28, 3) := by decide +kernel
theorem dX10_troubleOfBest_28 : decode cX10_troubleOfBest 28 = .ok (.getfield 135, 3) := by decide +kernel
theorem dX10_troubleOfBest_31 : decode cX10_troubleOfBest 31 = .ok (.if_icmp .le 7, 3) := by decide +kernel
theorem dX10_troubleOfBest_34 : decode cX10_troubleOfBest 34 = .ok (.iconst 1, 1) := by decide +kernel
theorem dX10_troubleOfBest_35 : decode cX10_troubleOfBest 35 = .ok (.goto 4, 3) := by decide +kernel
theorem dX10_troubleOfBest_38 : decode cX10_troubleOfBest 38 = .ok (.iconst 0, 1) := by decide +kernel
theorem dX10_troubleOfBest_39 : decode cX10_troubleOfBest 39 = .ok (.ireturn, 1) := by decide +kernel
def lX10_troubleOfBest : List (Nat × (Op ⊕ Nat)) := [(0, .inl (o_aload 0 1)), (1, .inl (o_iload 1 2)), (2, .inl (o_callV fX10_hasGame 1 10 5)), (5, .inl (o_if_ne 10 8)), (8, .inl (o_pushI (nI 1) 9)), (9, .inr 0), (10, .inl (o_iload 2 11)), (11, .inl (o_pushI (nI 1) 12)), (12, .inl (o_pushI (nI 5) 13)), (13, .inl (o_callS fX10_within 3 16)), (16, .inl (o_if_ne 21 19)), (19, .inl (o_pushI (nI 2) 20)), (20, .inr 0), (21, .inl (o_iload 1 22)), (22, .inl (o_iload 2 23)), (23, .inl (o_iadd 24)), (24, .inl (o_aload 0 25)), (25, .inl (o_get 10 2 28)), (28, .inl (o_get 9 4 31)), (31, .inl (o_icmp_le 38 34)), (34, .inl (o_pushI (nI 1) 35)), (35, .inl (o_goto 39)), (38, .inl (o_pushI (nI 0) 39)), (39, .inr 0)]
theorem qX10_troubleOfBest : yX10_troubleOfBest.cls = RX10 ∧ yX10_troubleOfBest.cls ≠ "java/lang/invoke/MethodHandle" ∧ yX10_troubleOfBest.cls ≠ "java/lang/invoke/VarHandle" ∧ (parseMethodDescriptor yX10_troubleOfBest.desc).map (fun d => d.parameters.length) = some 2 := by decide +kernel
set_option maxRecDepth 10000 in
theorem hX10_troubleOfBest_0 (l : Launch) {p : Program} {e : Env} {s : State} {m : MethodId} {args : Array Value} {below : List Frame} {meth : Method} {c : Code} {D : va_G} {ad adV : Nat → Nat} {cA : Nat → ClassId} {K : Kt} (C0 : Cx p s m args meth c D ad adV cA cX10_troubleOfBest 3 RX10) (hr : meth.sig.returnType = (some .int)) : ∀ q ∈ lX10_troubleOfBest, Sd p l e (rmd 2) s m args below meth c (MQ below (QQ D ad cA K) args s 0 0 (AA ad)) D ad cA 3 q.1 (opOf K q.2) := List.forall_mem_cons.mpr ⟨s_aload_n C0 dX10_troubleOfBest_0 rfl, List.forall_mem_cons.mpr ⟨s_iload_n C0 dX10_troubleOfBest_1 rfl, List.forall_mem_cons.mpr ⟨s_callV (ci := 10) C0 (kX10_hasGame l) dX10_troubleOfBest_2 rfl qX10_hasGame tw3_217 tw3_219 twp_19 tw1_1 tw3_220 rfl (by decide) (by decide), List.forall_mem_cons.mpr ⟨s_if_ne C0 dX10_troubleOfBest_5 rfl, List.forall_mem_cons.mpr ⟨s_iconst C0 dX10_troubleOfBest_8 rfl, List.forall_mem_cons.mpr ⟨s_iret C0 hr dX10_troubleOfBest_9, List.forall_mem_cons.mpr ⟨s_iload_n C0 dX10_troubleOfBest_10 rfl, List.forall_mem_cons.mpr ⟨s_iconst C0 dX10_troubleOfBest_11 rfl, List.forall_mem_cons.mpr ⟨s_iconst C0 dX10_troubleOfBest_12 rfl, List.forall_mem_cons.mpr ⟨s_callS C0 (kX10_within l) dX10_troubleOfBest_13 qX10_within tw2_170 tw2_171 tw1_1 tw2_172 rfl (by decide) (by decide), List.forall_mem_cons.mpr ⟨s_if_ne C0 dX10_troubleOfBest_16 rfl, List.forall_mem_cons.mpr ⟨s_iconst C0 dX10_troubleOfBest_19 rfl, List.forall_mem_cons.mpr ⟨s_iret C0 hr dX10_troubleOfBest_20, List.forall_mem_cons.mpr ⟨s_iload_n C0 dX10_troubleOfBest_21 rfl, List.forall_mem_cons.mpr ⟨s_iload_n C0 dX10_troubleOfBest_22 rfl, List.forall_mem_cons.mpr ⟨s_iadd C0 dX10_troubleOfBest_23, List.forall_mem_cons.mpr ⟨s_aload_n C0 dX10_troubleOfBest_24 rfl, List.forall_mem_cons.mpr ⟨s_get (ci := 10) (k := 2) C0 dX10_troubleOfBest_25 inX10 rfl (by decide) tw2_120, List.forall_mem_cons.mpr ⟨s_get (ci := 9) (k := 4) C0 dX10_troubleOfBest_28 inX9 rfl (by decide) tw1_95, List.forall_mem_cons.mpr ⟨s_icmp_le C0 dX10_troubleOfBest_31 rfl, List.forall_mem_cons.mpr ⟨s_iconst C0 dX10_troubleOfBest_34 rfl, List.forall_mem_cons.mpr ⟨s_goto C0 dX10_troubleOfBest_35 rfl, List.forall_mem_cons.mpr ⟨s_iconst C0 dX10_troubleOfBest_38 rfl, List.forall_mem_cons.mpr ⟨s_iret C0 hr dX10_troubleOfBest_39, fun _ h => absurd h List.not_mem_nil⟩⟩⟩⟩⟩⟩⟩⟩⟩⟩⟩⟩⟩⟩⟩⟩⟩⟩⟩⟩⟩⟩⟩⟩
def fX10_troubleOfBest : Mf := mf 3 (fun K => tl K lX10_troubleOfBest)
theorem kX10_troubleOfBest (l : Launch) : Okm l yX10_troubleOfBest cX10_troubleOfBest 3 (some .int) 2 fX10_troubleOfBest := Okm_tl (own := RX10) (by decide +kernel) rfl (fun C0 hr => hX10_troubleOfBest_0 l C0 hr)
theorem dX10_best_0 : decode cX10_best 0 = .ok (.aload_n 0, 1) := by decide +kernel
theorem dX10_best_1 : decode cX10_best 1 = .ok (.iload_n 1, 1) := by decide +kernel
theorem dX10_best_2 : decode cX10_best 2 = .ok (.iload_n 2, 1) := by decide +kernel
theorem dX10_best_3 : decode cX10_best 3 = .ok (.invokevirtual 249, 3) := by decide +kernel
theorem dX10_best_6 : decode cX10_best 6 = .ok (.istore_n 3, 1) := by decide +kernel
theorem dX10_best_7 : decode cX10_best 7 = .ok (.iload_n 3, 1) := by decide +kernel
theorem dX10_best_8 : decode cX10_best 8 = .ok (.ifCond .eq 9, 3) := by decide +kernel
theorem dX10_best_11 : decode cX10_best 11 = .ok (.aload_n 0, 1) := by decide +kernel
theorem dX10_best_12 : decode cX10_best 12 = .ok (.iload_n 3, 1) := by decide +kernel
theorem dX10_best_13 : decode cX10_best 13 = .ok (.invokevirtual 108, 3) := by decide +kernel
theorem dX10_best_16 : decode cX10_best 16 = .ok (.ireturn, 1) := by decide +kernel
theorem dX10_best_17 : decode cX10_best 17 = .ok (.aload_n 0, 1) := by decide +kernel
theorem dX10_best_18 : decode cX10_best 18 = .ok (.getfield 62, 3) := by decide +kernel
theorem dX10_best_21 : decode cX10_best 21 = .ok (.iload_n 1, 1) := by decide +kernel
theorem dX10_best_22 : decode cX10_best 22 = .ok (.iload_n 2, 1) := by decide +kernel
theorem dX10_best_23 : decode cX10_best 23 = .ok (.invokevirtual 252, 3) := by decide +kernel
theorem dX10_best_26 : decode cX10_best 26 = .ok (.aload_n 0, 1) := by decide +kernel
theorem dX10_best_27 : decode cX10_best 27 = .ok (.aload_n 0, 1) := by decide +kernel
theorem dX10_best_28 : decode cX10_best 28 = .ok (.getfield 62, 3) := by decide +kernel
theorem dX10_best_31 : decode cX10_best 31 = .ok (.getfield 256, 3) := by decide +kernel
theorem dX10_best_34 : decode cX10_best 34 = .ok (.invokevirtual 138, 3) := by decide +kernel
theorem dX10_best_37 : decode cX10_best 37 = .ok (.ireturn, 1) := by decide +kernel
def lX10_best : List (Nat × (Op ⊕ Nat)) := [(0, .inl (o_aload 0 1)), (1, .inl (o_iload 1 2)), (2, .inl (o_iload 2 3)), (3, .inl (o_callV fX10_troubleOfBest 2 10 6)), (6, .inl (o_istore 3 7)), (7, .inl (o_iload 3 8)), (8, .inl (o_if_eq 17 11)), (11, .inl (o_aload 0 12)), (12, .inl (o_iload 3 13)), (13, .inl (o_callV fX10_refuse 1 10 16)), (16, .inr 0), (17, .inl (o_aload 0 18)), (18, .inl (o_get 10 6 21)), (21, .inl (o_iload 1 22)), (22, .inl (o_iload 2 23)), (23, .inl (o_callV fX0_find 2 0 26)), (26, .inl (o_aload 0 27)), (27, .inl (o_aload 0 28)), (28, .inl (o_get 10 6 31)), (31, .inl (o_get 0 10 34)), (34, .inl (o_callV fX10_answer 1 10 37)), (37, .inr 0)]
theorem qX10_best : yX10_best.cls = RX10 ∧ yX10_best.cls ≠ "java/lang/invoke/MethodHandle" ∧ yX10_best.cls ≠ "java/lang/invoke/VarHandle" ∧ (parseMethodDescriptor yX10_best.desc).map (fun d => d.parameters.length) = some 2 := by decide +kernel
set_option maxRecDepth 10000 in
theorem hX10_best_0 (l : Launch) {p : Program} {e : Env} {s : State} {m : MethodId} {args : Array Value} {below : List Frame} {meth : Method} {c : Code} {D : va_G} {ad adV : Nat → Nat} {cA : Nat → ClassId} {K : Kt} (C0 : Cx p s m args meth c D ad adV cA cX10_best 4 RX10) (hr : meth.sig.returnType = (some .int)) : ∀ q ∈ lX10_best, Sd p l e (rmd 12) s m args below meth c (MQ below (QQ D ad cA K) args s 0 0 (AA ad)) D ad cA 4 q.1 (opOf K q.2) := List.forall_mem_cons.mpr ⟨s_aload_n C0 dX10_best_0 rfl, List.forall_mem_cons.mpr ⟨s_iload_n C0 dX10_best_1 rfl, List.forall_mem_cons.mpr ⟨s_iload_n C0 dX10_best_2 rfl, List.forall_mem_cons.mpr ⟨s_callV (ci := 10) C0 (kX10_troubleOfBest l) dX10_best_3 rfl qX10_troubleOfBest tw4_133 tw4_135 twp_28 tw1_1 tw4_136 rfl (by decide) (by decide), List.forall_mem_cons.mpr ⟨s_istore_n C0 dX10_best_6 rfl (by decide), List.forall_mem_cons.mpr ⟨s_iload_n C0 dX10_best_7 rfl, List.forall_mem_cons.mpr ⟨s_if_eq C0 dX10_best_8 rfl, List.forall_mem_cons.mpr ⟨s_aload_n C0 dX10_best_11 rfl, List.forall_mem_cons.mpr ⟨s_iload_n C0 dX10_best_12 rfl, List.forall_mem_cons.mpr ⟨s_callV (ci := 10) C0 (kX10_refuse l) dX10_best_13 rfl qX10_refuse tw2_173 tw2_175 twp_0 tw1_1 tw2_176 rfl (by decide) (by decide), List.forall_mem_cons.mpr ⟨s_iret C0 hr dX10_best_16, List.forall_mem_cons.mpr ⟨s_aload_n C0 dX10_best_17 rfl, List.forall_mem_cons.mpr ⟨s_get (ci := 10) (k := 6) C0 dX10_best_18 inX10 rfl (by decide) tw2_124, List.forall_mem_cons.mpr ⟨s_iload_n C0 dX10_best_21 rfl, List.forall_mem_cons.mpr ⟨s_iload_n C0 dX10_best_22 rfl, List.forall_mem_cons.mpr ⟨s_callV (ci := 0) C0 (kX0_find l) dX10_best_23 rfl qX0_find tw4_137 tw4_138 tw4_139 tw1_8 tw4_140 rfl (by decide) (by decide), List.forall_mem_cons.mpr ⟨s_aload_n C0 dX10_best_26 rfl, List.forall_mem_cons.mpr ⟨s_aload_n C0 dX10_best_27 rfl, List.forall_mem_cons.mpr ⟨s_get (ci := 10) (k := 6) C0 dX10_best_28 inX10 rfl (by decide) tw2_124, List.forall_mem_cons.mpr ⟨s_get (ci := 0) (k := 10) C0 dX10_best_31 inX0 rfl (by decide) tw1_238, List.forall_mem_cons.mpr ⟨s_callV (ci := 10) C0 (kX10_answer l) dX10_best_34 rfl qX10_answer tw3_139 tw3_141 twp_14 tw1_1 tw3_142 rfl (by decide) (by decide), List.forall_mem_cons.mpr ⟨s_iret C0 hr dX10_best_37, fun _ h => absurd h List.not_mem_nil⟩⟩⟩⟩⟩⟩⟩⟩⟩⟩⟩⟩⟩⟩⟩⟩⟩⟩⟩⟩⟩⟩
def fX10_best : Mf := mf 4 (fun K => tl K lX10_best)
theorem kX10_best (l : Launch) : Okm l yX10_best cX10_best 4 (some .int) 12 fX10_best := Okm_tl (own := RX10) (by decide +kernel) rfl (fun C0 hr => hX10_best_0 l C0 hr)
theorem dX10_bestOf_0 : decode cX10_bestOf 0 = .ok (.aload_n 0, 1) := by decide +kernel
theorem dX10_bestOf_1 : decode cX10_bestOf 1 = .ok (.iload_n 1, 1) := by decide +kernel
theorem dX10_bestOf_2 : decode cX10_bestOf 2 = .ok (.iload_n 2, 1) := by decide +kernel
theorem dX10_bestOf_3 : decode cX10_bestOf 3 = .ok (.invokevirtual 249, 3) := by decide +kernel
theorem dX10_bestOf_6 : decode cX10_bestOf 6 = .ok (.istore 4, 2) := by decide +kernel
theorem dX10_bestOf_8 : decode cX10_bestOf 8 = .ok (.iload 4, 2) := by decide +kernel
theorem dX10_bestOf_10 : decode cX10_bestOf 10 = .ok (.ifCond .eq 10, 3) := by decide +kernel
theorem dX10_bestOf_13 : decode cX10_bestOf 13 = .ok (.aload_n 0, 1) := by decide +kernel
theorem dX10_bestOf_14 : decode cX10_bestOf 14 = .ok (.iload 4, 2) := by decide +kernel
theorem dX10_bestOf_16 : decode cX10_bestOf 16 = .ok (.invokevirtual 108, 3) := by decide +kernel
theorem dX10_bestOf_19 : decode cX10_bestOf 19 = .ok (.ireturn, 1) := by decide +kernel
theorem dX10_bestOf_20 : decode cX10_bestOf 20 = .ok (.iload_n 3, 1) := by decide +kernel
theorem dX10_bestOf_21 : decode cX10_bestOf 21 = .ok (.iconst 0, 1) := by decide +kernel
theorem dX10_bestOf_22 : decode cX10_bestOf 22 = .ok (.iload_n 2, 1) := by decide +kernel
theorem dX10_bestOf_23 : decode cX10_bestOf 23 = .ok (.iconst 1, 1) := by decide +kernel
theorem dX10_bestOf_24 : decode cX10_bestOf 24 = .ok (.isub, 1) := by decide +kernel
theorem dX10_bestOf_25 : decode cX10_bestOf 25 = .ok (.invokestatic 104, 3) := by decide +kernel
theorem dX10_bestOf_28 : decode cX10_bestOf 28 = .ok (.ifCond .ne 9, 3) := by decide +kernel
theorem dX10_bestOf_31 : decode cX10_bestOf 31 = .ok (.aload_n 0, 1) := by decide +kernel
theorem dX10_bestOf_32 : decode cX10_bestOf 32 = .ok (.iconst 1, 1) := by decide +kernel
theorem dX10_bestOf_33 : decode cX10_bestOf 33 = .ok (.invokevirtual 108, 3) := by decide +kernel
theorem dX10_bestOf_36 : decode cX10_bestOf 36 = .ok (.ireturn, 1) := by decide +kernel
theorem dX10_bestOf_37 : decode cX10_bestOf 37 = .ok (.aload_n 0, 1) := by decide +kernel
theorem dX10_bestOf_38 : decode cX10_bestOf 38 = .ok (.getfield 62, 3) := by decide +kernel
theorem dX10_bestOf_41 : decode cX10_bestOf 41 = .ok (.iload_n 1, 1) := by decide +kernel
theorem dX10_bestOf_42 : decode cX10_bestOf 42 = .ok (.iload_n 2, 1) := by decide +kernel
theorem dX10_bestOf_43 : decode cX10_bestOf 43 = .ok (.invokevirtual 252, 3) := by decide +kernel
theorem dX10_bestOf_46 : decode cX10_bestOf 46 = .ok (.aload_n 0, 1) := by decide +kernel
theorem dX10_bestOf_47 : decode cX10_bestOf 47 = .ok (.aload_n 0, 1) := by decide +kernel
theorem dX10_bestOf_48 : decode cX10_bestOf 48 = .ok (.getfield 62, 3) := by decide +kernel
theorem dX10_bestOf_51 : decode cX10_bestOf 51 = .ok (.getfield 259, 3) := by decide +kernel
theorem dX10_bestOf_54 : decode cX10_bestOf 54 = .ok (.iload_n 3, 1) := by decide +kernel
theorem dX10_bestOf_55 : decode cX10_bestOf 55 = .ok (.iaload, 1) := by decide +kernel
theorem dX10_bestOf_56 : decode cX10_bestOf 56 = .ok (.invokevirtual 138, 3) := by decide +kernel
theorem dX10_bestOf_59 : decode cX10_bestOf 59 = .ok (.ireturn, 1) := by decide +kernel
def lX10_bestOf : List (Nat × (Op ⊕ Nat)) := [(0, .inl (o_aload 0 1)), (1, .inl (o_iload 1 2)), (2, .inl (o_iload 2 3)), (3, .inl (o_callV fX10_troubleOfBest 2 10 6)), (6, .inl (o_istore 4 8)), (8, .inl (o_iload 4 10)), (10, .inl (o_if_eq 20 13)), (13, .inl (o_aload 0 14)), (14, .inl (o_iload 4 16)), (16, .inl (o_callV fX10_refuse 1 10 19)), (19, .inr 0), (20, .inl (o_iload 3 21)), (21, .inl (o_pushI (nI 0) 22)), (22, .inl (o_iload 2 23)), (23, .inl (o_pushI (nI 1) 24)), (24, .inl (o_isub 25)), (25, .inl (o_callS fX10_within 3 28)), (28, .inl (o_if_ne 37 31)), (31, .inl (o_aload 0 32)), (32, .inl (o_pushI (nI 1) 33)), (33, .inl (o_callV fX10_refuse 1 10 36)), (36, .inr 0), (37, .inl (o_aload 0 38)), (38, .inl (o_get 10 6 41)), (41, .inl (o_iload 1 42)), (42, .inl (o_iload 2 43)), (43, .inl (o_callV fX0_find 2 0 46)), (46, .inl (o_aload 0 47)), (47, .inl (o_aload 0 48)), (48, .inl (o_get 10 6 51)), (51, .inl (o_get 0 9 54)), (54, .inl (o_iload 3 55)), (55, .inl (o_iald 56)), (56, .inl (o_callV fX10_answer 1 10 59)), (59, .inr 0)]
theorem qX10_bestOf : yX10_bestOf.cls = RX10 ∧ yX10_bestOf.cls ≠ "java/lang/invoke/MethodHandle" ∧ yX10_bestOf.cls ≠ "java/lang/invoke/VarHandle" ∧ (parseMethodDescriptor yX10_bestOf.desc).map (fun d => d.parameters.length) = some 3 := by decide +kernel
set_option maxRecDepth 10000 in
theorem hX10_bestOf_0 (l : Launch) {p : Program} {e : Env} {s : State} {m : MethodId} {args : Array Value} {below : List Frame} {meth : Method} {c : Code} {D : va_G} {ad adV : Nat → Nat} {cA : Nat → ClassId} {K : Kt} (C0 : Cx p s m args meth c D ad adV cA cX10_bestOf 5 RX10) (hr : meth.sig.returnType = (some .int)) : ∀ q ∈ lX10_bestOf, Sd p l e (rmd 12) s m args below meth c (MQ below (QQ D ad cA K) args s 0 0 (AA ad)) D ad cA 5 q.1 (opOf K q.2) := List.forall_mem_cons.mpr ⟨s_aload_n C0 dX10_bestOf_0 rfl, List.forall_mem_cons.mpr ⟨s_iload_n C0 dX10_bestOf_1 rfl, List.forall_mem_cons.mpr ⟨s_iload_n C0 dX10_bestOf_2 rfl, List.forall_mem_cons.mpr ⟨s_callV (ci := 10) C0 (kX10_troubleOfBest l) dX10_bestOf_3 rfl qX10_troubleOfBest tw4_133 tw4_135 twp_28 tw1_1 tw4_136 rfl (by decide) (by decide), List.forall_mem_cons.mpr ⟨s_istore C0 dX10_bestOf_6 (by decide), List.forall_mem_cons.mpr ⟨s_iload C0 dX10_bestOf_8, List.forall_mem_cons.mpr ⟨s_if_eq C0 dX10_bestOf_10 rfl, List.forall_mem_cons.mpr ⟨s_aload_n C0 dX10_bestOf_13 rfl, List.forall_mem_cons.mpr ⟨s_iload C0 dX10_bestOf_14, List.forall_mem_cons.mpr ⟨s_callV (ci := 10) C0 (kX10_refuse l) dX10_bestOf_16 rfl qX10_refuse tw2_173 tw2_175 twp_0 tw1_1 tw2_176 rfl (by decide) (by decide), List.forall_mem_cons.mpr ⟨s_iret C0 hr dX10_bestOf_19, List.forall_mem_cons.mpr ⟨s_iload_n C0 dX10_bestOf_20 rfl, List.forall_mem_cons.mpr ⟨s_iconst C0 dX10_bestOf_21 rfl, List.forall_mem_cons.mpr ⟨s_iload_n C0 dX10_bestOf_22 rfl, List.forall_mem_cons.mpr ⟨s_iconst C0 dX10_bestOf_23 rfl, List.forall_mem_cons.mpr ⟨s_isub C0 dX10_bestOf_24, List.forall_mem_cons.mpr ⟨s_callS C0 (kX10_within l) dX10_bestOf_25 qX10_within tw2_170 tw2_171 tw1_1 tw2_172 rfl (by decide) (by decide), List.forall_mem_cons.mpr ⟨s_if_ne C0 dX10_bestOf_28 rfl, List.forall_mem_cons.mpr ⟨s_aload_n C0 dX10_bestOf_31 rfl, List.forall_mem_cons.mpr ⟨s_iconst C0 dX10_bestOf_32 rfl, List.forall_mem_cons.mpr ⟨s_callV (ci := 10) C0 (kX10_refuse l) dX10_bestOf_33 rfl qX10_refuse tw2_173 tw2_175 twp_0 tw1_1 tw2_176 rfl (by decide) (by decide), List.forall_mem_cons.mpr ⟨s_iret C0 hr dX10_bestOf_36, List.forall_mem_cons.mpr ⟨s_aload_n C0 dX10_bestOf_37 rfl, List.forall_mem_cons.mpr ⟨s_get (ci := 10) (k := 6) C0 dX10_bestOf_38 inX10 rfl (by decide) tw2_124, List.forall_mem_cons.mpr ⟨s_iload_n C0 dX10_bestOf_41 rfl, List.forall_mem_cons.mpr ⟨s_iload_n C0 dX10_bestOf_42 rfl, List.forall_mem_cons.mpr ⟨s_callV (ci := 0) C0 (kX0_find l) dX10_bestOf_43 rfl qX0_find tw4_137 tw4_138 tw4_139 tw1_8 tw4_140 rfl (by decide) (by decide), List.forall_mem_cons.mpr ⟨s_aload_n C0 dX10_bestOf_46 rfl, List.forall_mem_cons.mpr ⟨s_aload_n C0 dX10_bestOf_47 rfl, List.forall_mem_cons.mpr ⟨s_get (ci := 10) (k := 6) C0 dX10_bestOf_48 inX10 rfl (by decide) tw2_124, List.forall_mem_cons.mpr ⟨s_get (ci := 0) (k := 9) C0 dX10_bestOf_51 inX0 rfl (by decide) tw1_236, List.forall_mem_cons.mpr ⟨s_iload_n C0 dX10_bestOf_54 rfl, List.forall_mem_cons.mpr ⟨s_iald C0 dX10_bestOf_55, List.forall_mem_cons.mpr ⟨s_callV (ci := 10) C0 (kX10_answer l) dX10_bestOf_56 rfl qX10_answer tw3_139 tw3_141 twp_14 tw1_1 tw3_142 rfl (by decide) (by decide), List.forall_mem_cons.mpr ⟨s_iret C0 hr dX10_bestOf_59, fun _ h => absurd h List.not_mem_nil⟩⟩⟩⟩⟩⟩⟩⟩⟩⟩⟩⟩⟩⟩⟩⟩⟩⟩⟩⟩⟩⟩⟩⟩⟩⟩⟩⟩⟩⟩⟩⟩⟩⟩⟩
def fX10_bestOf : Mf := mf 5 (fun K => tl K lX10_bestOf)
theorem kX10_bestOf (l : Launch) : Okm l yX10_bestOf cX10_bestOf 5 (some .int) 12 fX10_bestOf := Okm_tl (own := RX10) (by decide +kernel) rfl (fun C0 hr => hX10_bestOf_0 l C0 hr)
theorem dX10_pair_0 : decode cX10_pair 0 = .ok (.aload_n 0, 1) := by decide +kernel
theorem dX10_pair_1 : decode cX10_pair 1 = .ok (.iload_n 1, 1) := by decide +kernel
theorem dX10_pair_2 : decode cX10_pair 2 = .ok (.invokevirtual 184, 3) := by decide +kernel
theorem dX10_pair_5 : decode cX10_pair 5 = .ok (.ifCond .eq 12, 3) := by decide +kernel
theorem dX10_pair_8 : decode cX10_pair 8 = .ok (.iload_n 3, 1) := by decide +kernel
theorem dX10_pair_9 : decode cX10_pair 9 = .ok (.iconst 0, 1) := by decide +kernel
theorem dX10_pair_10 : decode cX10_pair 10 = .ok (.iconst 2, 1) := by decide +kernel
theorem dX10_pair_11 : decode cX10_pair 11 = .ok (.invokestatic 104, 3) := by decide +kernel
theorem dX10_pair_14 : decode cX10_pair 14 = .ok (.ifCond .ne 9, 3) := by decide +kernel
theorem dX10_pair_17 : decode cX10_pair 17 = .ok (.aload_n 0, 1) := by decide +kernel
theorem dX10_pair_18 : decode cX10_pair 18 = .ok (.iconst 1, 1) := by decide +kernel
theorem dX10_pair_19 : decode cX10_pair 19 = .ok (.invokevirtual 108, 3) := by decide +kernel
theorem dX10_pair_22 : decode cX10_pair 22 = .ok (.ireturn, 1) := by decide +kernel
theorem dX10_pair_23 : decode cX10_pair 23 = .ok (.iload_n 2, 1) := by decide +kernel
theorem dX10_pair_24 : decode cX10_pair 24 = .ok (.iconst 1, 1) := by decide +kernel
theorem dX10_pair_25 : decode cX10_pair 25 = .ok (.bipush 120, 2) := by decide +kernel
theorem dX10_pair_27 : decode cX10_pair 27 = .ok (.invokestatic 104, 3) := by decide +kernel
theorem dX10_pair_30 : decode cX10_pair 30 = .ok (.ifCond .ne 9, 3) := by decide +kernel
theorem dX10_pair_33 : decode cX10_pair 33 = .ok (.aload_n 0, 1) := by decide +kernel
theorem dX10_pair_34 : decode cX10_pair 34 = .ok (.iconst 2, 1) := by decide +kernel
theorem dX10_pair_35 : decode cX10_pair 35 = .ok (.invokevirtual 108, 3) := by decide +kernel
theorem dX10_pair_38 : decode cX10_pair 38 = .ok (.ireturn, 1) := by decide +kernel
theorem dX10_pair_39 : decode cX10_pair 39 = .ok (.aload_n 0, 1) := by decide +kernel
theorem dX10_pair_40 : decode cX10_pair 40 = .ok (.getfield 69, 3) := by decide +kernel
theorem dX10_pair_43 : decode cX10_pair 43 = .ok (.iload_n 1, 1) := by decide +kernel
theorem dX10_pair_44 : decode cX10_pair 44 = .ok (.iload_n 2, 1) := by decide +kernel
theorem dX10_pair_45 : decode cX10_pair 45 = .ok (.invokevirtual 262, 3) := by decide +kernel
theorem dX10_pair_48 : decode cX10_pair 48 = .ok (.iload_n 3, 1) := by decide +kernel
theorem dX10_pair_49 : decode cX10_pair 49 = .ok (.ifCond .ne 15, 3) := by decide +kernel
theorem dX10_pair_52 : decode cX10_pair 52 = .ok (.aload_n 0, 1) := by decide +kernel
theorem dX10_pair_53 : decode cX10_pair 53 = .ok (.aload_n 0, 1) := by decide +kernel
theorem dX10_pair_54 : decode cX10_pair 54 = .ok (.getfield 69, 3) := by decide +kernel
theorem dX10_pair_57 : decode cX10_pair 57 = .ok (.getfield 265, 3) := by decide +kernel
theorem dX10_pair_60 : decode cX10_pair 60 = .ok (.invokevirtual 138, 3) := by decide +kernel
theorem dX10_pair_63 : decode cX10_pair 63 = .ok (.ireturn, 1) := by decide +kernel
theorem dX10_pair_64 : decode cX10_pair 64 = .ok (.aload_n 0, 1) := by decide +kernel
theorem dX10_pair_65 : decode cX10_pair 65 = .ok (.iload_n 3, 1) := by decide +kernel
theorem dX10_pair_66 : decode cX10_pair 66 = .ok (.iconst 1, 1) := by decide +kernel
theorem dX10_pair_67 : decode cX10_pair 67 = .ok (.if_icmp .ne 13, 3) := by decide +kernel
theorem dX10_pair_70 : decode cX10_pair 70 = .ok (.aload_n 0, 1) := by decide +kernel
theorem dX10_pair_71 : decode cX10_pair 71 = .ok (.getfield 69, 3) := by decide +kernel
theorem dX10_pair_74 : decode cX10_pair 74 = .ok (.getfield 268, 3) := by decide +kernel
theorem dX10_pair_77 : decode cX10_pair 77 = .ok (.goto 10, 3) := by decide +kernel
theorem dX10_pair_80 : decode cX10_pair 80 = .ok (.aload_n 0, 1) := by decide +kernel
theorem dX10_pair_81 : decode cX10_pair 81 = .ok (.getfield 69, 3) := by decide +kernel
theorem dX10_pair_84 : decode cX10_pair 84 = .ok (.getfield 271, 3) := by decide +kernel
theorem dX10_pair_87 : decode cX10_pair 87 = .ok (.invokevirtual 138, 3) := by decide +kernel
theorem dX10_pair_90 : decode cX10_pair 90 = .ok (.ireturn, 1) := by decide +kernel
def lX10_pair_0 : List (Nat × (Op ⊕ Nat)) := [(0, .inl (o_aload 0 1)), (1, .inl (o_iload 1 2)), (2, .inl (o_callV fX10_hasGame 1 10 5)), (5, .inl (o_if_eq 17 8)), (8, .inl (o_iload 3 9)), (9, .inl (o_pushI (nI 0) 10)), (10, .inl (o_pushI (nI 2) 11)), (11, .inl (o_callS fX10_within 3 14)), (14, .inl (o_if_ne 23 17)), (17, .inl (o_aload 0 18)), (18, .inl (o_pushI (nI 1) 19)), (19, .inl (o_callV fX10_refuse 1 10 22)), (22, .inr 0), (23, .inl (o_iload 2 24)), (24, .inl (o_pushI (nI 1) 25)), (25, .inl (o_pushI (nI 120) 27)), (27, .inl (o_callS fX10_within 3 30)), (30, .inl (o_if_ne 39 33)), (33, .inl (o_aload 0 34)), (34, .inl (o_pushI (nI 2) 35)), (35, .inl (o_callV fX10_refuse 1 10 38)), (38, .inr 0), (39, .inl (o_aload 0 40)), (40, .inl (o_get 10 7 43)), (43, .inl (o_iload 1 44)), (44, .inl (o_iload 2 45)), (45, .inl (o_callV fX2_choosePair 2 2 48)), (48, .inl (o_iload 3 49)), (49, .inl (o_if_ne 64 52)), (52, .inl (o_aload 0 53)), (53, .inl (o_aload 0 54)), (54, .inl (o_get 10 7 57)), (57, .inl (o_get 2 2 60)), (60, .inl (o_callV fX10_answer 1 10 63)), (63, .inr 0), (64, .inl (o_aload 0 65)), (65, .inl (o_iload 3 66)), (66, .inl (o_pushI (nI 1) 67)), (67, .inl (o_icmp_ne 80 70)), (70, .inl (o_aload 0 71))]
def lX10_pair_1 : List (Nat × (Op ⊕ Nat)) := [(71, .inl (o_get 10 7 74)), (74, .inl (o_get 2 3 77)), (77, .inl (o_goto 87)), (80, .inl (o_aload 0 81)), (81, .inl (o_get 10 7 84)), (84, .inl (o_get 2 4 87)), (87, .inl (o_callV fX10_answer 1 10 90)), (90, .inr 0)]
def lX10_pair : List (Nat × (Op ⊕ Nat)) := lX10_pair_0 ++ (lX10_pair_1)
theorem qX10_pair : yX10_pair.cls = RX10 ∧ yX10_pair.cls ≠ "java/lang/invoke/MethodHandle" ∧ yX10_pair.cls ≠ "java/lang/invoke/VarHandle" ∧ (parseMethodDescriptor yX10_pair.desc).map (fun d => d.parameters.length) = some 3 := by decide +kernel
set_option maxRecDepth 10000 in
theorem hX10_pair_0 (l : Launch) {p : Program} {e : Env} {s : State} {m : MethodId} {args : Array Value} {below : List Frame} {meth : Method} {c : Code} {D : va_G} {ad adV : Nat → Nat} {cA : Nat → ClassId} {K : Kt} (C0 : Cx p s m args meth c D ad adV cA cX10_pair 4 RX10) (hr : meth.sig.returnType = (some .int)) : ∀ q ∈ lX10_pair_0, Sd p l e (rmd 7) s m args below meth c (MQ below (QQ D ad cA K) args s 0 0 (AA ad)) D ad cA 4 q.1 (opOf K q.2) := List.forall_mem_cons.mpr ⟨s_aload_n C0 dX10_pair_0 rfl, List.forall_mem_cons.mpr ⟨s_iload_n C0 dX10_pair_1 rfl, List.forall_mem_cons.mpr ⟨s_callV (ci := 10) C0 (kX10_hasGame l) dX10_pair_2 rfl qX10_hasGame tw3_217 tw3_219 twp_19 tw1_1 tw3_220 rfl (by decide) (by decide), List.forall_mem_cons.mpr ⟨s_if_eq C0 dX10_pair_5 rfl, List.forall_mem_cons.mpr ⟨s_iload_n C0 dX10_pair_8 rfl, List.forall_mem_cons.mpr ⟨s_iconst C0 dX10_pair_9 rfl, List.forall_mem_cons.mpr ⟨s_iconst C0 dX10_pair_10 rfl, List.forall_mem_cons.mpr ⟨s_callS C0 (kX10_within l) dX10_pair_11 qX10_within tw2_170 tw2_171 tw1_1 tw2_172 rfl (by decide) (by decide), List.forall_mem_cons.mpr ⟨s_if_ne C0 dX10_pair_14 rfl, List.forall_mem_cons.mpr ⟨s_aload_n C0 dX10_pair_17 rfl, List.forall_mem_cons.mpr ⟨s_iconst C0 dX10_pair_18 rfl, List.forall_mem_cons.mpr ⟨s_callV (ci := 10) C0 (kX10_refuse l) dX10_pair_19 rfl qX10_refuse tw2_173 tw2_175 twp_0 tw1_1 tw2_176 rfl (by decide) (by decide), List.forall_mem_cons.mpr ⟨s_iret C0 hr dX10_pair_22, List.forall_mem_cons.mpr ⟨s_iload_n C0 dX10_pair_23 rfl, List.forall_mem_cons.mpr ⟨s_iconst C0 dX10_pair_24 rfl, List.forall_mem_cons.mpr ⟨s_bipush C0 dX10_pair_25 (by decide +kernel), List.forall_mem_cons.mpr ⟨s_callS C0 (kX10_within l) dX10_pair_27 qX10_within tw2_170 tw2_171 tw1_1 tw2_172 rfl (by decide) (by decide), List.forall_mem_cons.mpr ⟨s_if_ne C0 dX10_pair_30 rfl, List.forall_mem_cons.mpr ⟨s_aload_n C0 dX10_pair_33 rfl, List.forall_mem_cons.mpr ⟨s_iconst C0 dX10_pair_34 rfl, List.forall_mem_cons.mpr ⟨s_callV (ci := 10) C0 (kX10_refuse l) dX10_pair_35 rfl qX10_refuse tw2_173 tw2_175 twp_0 tw1_1 tw2_176 rfl (by decide) (by decide), List.forall_mem_cons.mpr ⟨s_iret C0 hr dX10_pair_38, List.forall_mem_cons.mpr ⟨s_aload_n C0 dX10_pair_39 rfl, List.forall_mem_cons.mpr ⟨s_get (ci := 10) (k := 7) C0 dX10_pair_40 inX10 rfl (by decide) tw2_125, List.forall_mem_cons.mpr ⟨s_iload_n C0 dX10_pair_43 rfl, List.forall_mem_cons.mpr ⟨s_iload_n C0 dX10_pair_44 rfl, List.forall_mem_cons.mpr ⟨s_callV (ci := 2) C0 (kX2_choosePair l) dX10_pair_45 rfl qX2_choosePair tw4_176 tw4_177 tw4_178 tw1_9 tw4_179 rfl (by decide) (by decide), List.forall_mem_cons.mpr ⟨s_iload_n C0 dX10_pair_48 rfl, List.forall_mem_cons.mpr ⟨s_if_ne C0 dX10_pair_49 rfl, List.forall_mem_cons.mpr ⟨s_aload_n C0 dX10_pair_52 rfl, List.forall_mem_cons.mpr ⟨s_aload_n C0 dX10_pair_53 rfl, List.forall_mem_cons.mpr ⟨s_get (ci := 10) (k := 7) C0 dX10_pair_54 inX10 rfl (by decide) tw2_125, List.forall_mem_cons.mpr ⟨s_get (ci := 2) (k := 2) C0 dX10_pair_57 inX2 rfl (by decide) tw2_31, List.forall_mem_cons.mpr ⟨s_callV (ci := 10) C0 (kX10_answer l) dX10_pair_60 rfl qX10_answer tw3_139 tw3_141 twp_14 tw1_1 tw3_142 rfl (by decide) (by decide), List.forall_mem_cons.mpr ⟨s_iret C0 hr dX10_pair_63, List.forall_mem_cons.mpr ⟨s_aload_n C0 dX10_pair_64 rfl, List.forall_mem_cons.mpr ⟨s_iload_n C0 dX10_pair_65 rfl, List.forall_mem_cons.mpr ⟨s_iconst C0 dX10_pair_66 rfl, List.forall_mem_cons.mpr ⟨s_icmp_ne C0 dX10_pair_67 rfl, List.forall_mem_cons.mpr ⟨s_aload_n C0 dX10_pair_70 rfl, fun _ h => absurd h List.not_mem_nil⟩⟩⟩⟩⟩⟩⟩⟩⟩⟩⟩⟩⟩⟩⟩⟩⟩⟩⟩⟩⟩⟩⟩⟩⟩⟩⟩⟩⟩⟩⟩⟩⟩⟩⟩⟩⟩⟩⟩⟩
set_option maxRecDepth 10000 in
theorem hX10_pair_1 (l : Launch) {p : Program} {e : Env} {s : State} {m : MethodId} {args : Array Value} {below : List Frame} {meth : Method} {c : Code} {D : va_G} {ad adV : Nat → Nat} {cA : Nat → ClassId} {K : Kt} (C0 : Cx p s m args meth c D ad adV cA cX10_pair 4 RX10) (hr : meth.sig.returnType = (some .int)) : ∀ q ∈ lX10_pair_1, Sd p l e (rmd 7) s m args below meth c (MQ below (QQ D ad cA K) args s 0 0 (AA ad)) D ad cA 4 q.1 (opOf K q.2) := List.forall_mem_cons.mpr ⟨s_get (ci := 10) (k := 7) C0 dX10_pair_71 inX10 rfl (by decide) tw2_125, List.forall_mem_cons.mpr ⟨s_get (ci := 2) (k := 3) C0 dX10_pair_74 inX2 rfl (by decide) tw2_33, List.forall_mem_cons.mpr ⟨s_goto C0 dX10_pair_77 rfl, List.forall_mem_cons.mpr ⟨s_aload_n C0 dX10_pair_80 rfl, List.forall_mem_cons.mpr ⟨s_get (ci := 10) (k := 7) C0 dX10_pair_81 inX10 rfl (by decide) tw2_125, List.forall_mem_cons.mpr ⟨s_get (ci := 2) (k := 4) C0 dX10_pair_84 inX2 rfl (by decide) tw2_35, List.forall_mem_cons.mpr ⟨s_callV (ci := 10) C0 (kX10_answer l) dX10_pair_87 rfl qX10_answer tw3_139 tw3_141 twp_14 tw1_1 tw3_142 rfl (by decide) (by decide), List.forall_mem_cons.mpr ⟨s_iret C0 hr dX10_pair_90, fun _ h => absurd h List.not_mem_nil⟩⟩⟩⟩⟩⟩⟩⟩
def fX10_pair : Mf := mf 4 (fun K => tl K lX10_pair)
theorem kX10_pair (l : Launch) : Okm l yX10_pair cX10_pair 4 (some .int) 7 fX10_pair := Okm_tl (own := RX10) (by decide +kernel) rfl (fun C0 hr => List.forall_mem_append.mpr ⟨hX10_pair_0 l C0 hr, hX10_pair_1 l C0 hr⟩)
theorem dX10_breaches_0 : decode cX10_breaches 0 = .ok (.aload_n 0, 1) := by decide +kernel
theorem dX10_breaches_1 : decode cX10_breaches 1 = .ok (.invokevirtual 141, 3) := by decide +kernel
theorem dX10_breaches_4 : decode cX10_breaches 4 = .ok (.ifCond .ne 9, 3) := by decide +kernel
theorem dX10_breaches_7 : decode cX10_breaches 7 = .ok (.aload_n 0, 1) := by decide +kernel
theorem dX10_breaches_8 : decode cX10_breaches 8 = .ok (.iconst 1, 1) := by decide +kernel
theorem dX10_breaches_9 : decode cX10_breaches 9 = .ok (.invokevirtual 108, 3) := by decide +kernel
theorem dX10_breaches_12 : decode cX10_breaches 12 = .ok (.ireturn, 1) := by decide +kernel
theorem dX10_breaches_13 : decode cX10_breaches 13 = .ok (.iconst 0, 1) := by decide +kernel
theorem dX10_breaches_14 : decode cX10_breaches 14 = .ok (.istore_n 1, 1) := by decide +kernel
theorem dX10_breaches_15 : decode cX10_breaches 15 = .ok (.iconst 0, 1) := by decide +kernel
theorem dX10_breaches_16 : decode cX10_breaches 16 = .ok (.istore_n 2, 1) := by decide +kernel
theorem dX10_breaches_17 : decode cX10_breaches 17 = .ok (.iload_n 2, 1) := by decide +kernel
theorem dX10_breaches_18 : decode cX10_breaches 18 = .ok (.aload_n 0, 1) := by decide +kernel
theorem dX10_breaches_19 : decode cX10_breaches 19 = .ok (.getfield 28, 3) := by decide +kernel
theorem dX10_breaches_22 : decode cX10_breaches 22 = .ok (.getfield 135, 3) := by decide +kernel
theorem dX10_breaches_25 : decode cX10_breaches 25 = .ok (.if_icmp .ge 50, 3) := by decide +kernel
theorem dX10_breaches_28 : decode cX10_breaches 28 = .ok (.iconst 0, 1) := by decide +kernel
theorem dX10_breaches_29 : decode cX10_breaches 29 = .ok (.istore_n 3, 1) := by decide +kernel
theorem dX10_breaches_30 : decode cX10_breaches 30 = .ok (.iload_n 3, 1) := by decide +kernel
theorem dX10_breaches_31 : decode cX10_breaches 31 = .ok (.aload_n 0, 1) := by decide +kernel
theorem dX10_breaches_32 : decode cX10_breaches 32 = .ok (.getfield 35, 3) := by decide +kernel
theorem dX10_breaches_35 : decode cX10_breaches 35 = .ok (.getfield 193, 3) := by decide +kernel
theorem dX10_breaches_38 : decode cX10_breaches 38 = .ok (.iload_n 2, 1) := by decide +kernel
theorem dX10_breaches_39 : decode cX10_breaches 39 = .ok (.iaload, 1) := by decide +kernel
theorem dX10_breaches_40 : decode cX10_breaches 40 = .ok (.if_icmp .ge 29, 3) := by decide +kernel
theorem dX10_breaches_43 : decode cX10_breaches 43 = .ok (.iload_n 1, 1) := by decide +kernel
theorem dX10_breaches_44 : decode cX10_breaches 44 = .ok (.aload_n 0, 1) := by decide +kernel
theorem dX10_breaches_45 : decode cX10_breaches 45 = .ok (.getfield 53, 3) := by decide +kernel
theorem dX10_breaches_48 : decode cX10_breaches 48 = .ok (.iload_n 2, 1) := by decide +kernel
theorem dX10_breaches_49 : decode cX10_breaches 49 = .ok (.iload_n 3, 1) := by decide +kernel
theorem dX10_breaches_50 : decode cX10_breaches 50 = .ok (.invokevirtual 225, 3) := by decide +kernel
theorem dX10_breaches_53 : decode cX10_breaches 53 = .ok (.ifCond .eq 7, 3) := by decide +kernel
theorem dX10_breaches_56 : decode cX10_breaches 56 = .ok (.iconst 0, 1) := by decide +kernel
theorem dX10_breaches_57 : decode cX10_breaches 57 = .ok (.goto 4, 3) := by decide +kernel
theorem dX10_breaches_60 : decode cX10_breaches 60 = .ok (.iconst 1, 1) := by decide +kernel
theorem dX10_breaches_61 : decode cX10_breaches 61 = .ok (.iadd, 1) := by decide +kernel
theorem dX10_breaches_62 : decode cX10_breaches 62 = .ok (.istore_n 1, 1) := by decide +kernel
theorem dX10_breaches_63 : decode cX10_breaches 63 = .ok (.iinc 3 1, 3) := by decide +kernel
theorem dX10_breaches_66 : decode cX10_breaches 66 = .ok (.goto (-36), 3) := by decide +kernel
theorem dX10_breaches_69 : decode cX10_breaches 69 = .ok (.iinc 2 1, 3) := by decide +kernel
theorem dX10_breaches_72 : decode cX10_breaches 72 = .ok (.goto (-55), 3) := by decide +kernel
theorem dX10_breaches_75 : decode cX10_breaches 75 = .ok (.aload_n 0, 1) := by decide +kernel
theorem dX10_breaches_76 : decode cX10_breaches 76 = .ok (.iload_n 1, 1) := by decide +kernel
theorem dX10_breaches_77 : decode cX10_breaches 77 = .ok (.invokevirtual 138, 3) := by decide +kernel
theorem dX10_breaches_80 : decode cX10_breaches 80 = .ok (.ireturn, 1) := by decide +kernel
def lX10_breaches_0 : List (Nat × (Op ⊕ Nat)) := [(0, .inl (o_aload 0 1)), (1, .inl (o_callV fX10_hasText 0 10 4)), (4, .inl (o_if_ne 13 7)), (7, .inl (o_aload 0 8)), (8, .inl (o_pushI (nI 1) 9)), (9, .inl (o_callV fX10_refuse 1 10 12)), (12, .inr 0), (13, .inl (o_pushI (nI 0) 14)), (14, .inl (o_istore 1 15)), (15, .inl (o_pushI (nI 0) 16)), (16, .inl (o_istore 2 17)), (17, .inl (o_iload 2 18)), (18, .inl (o_aload 0 19)), (19, .inl (o_get 10 2 22)), (22, .inl (o_get 9 4 25)), (25, .inl (o_icmp_ge 75 28)), (28, .inl (o_pushI (nI 0) 29)), (29, .inl (o_istore 3 30)), (30, .inl (o_iload 3 31)), (31, .inl (o_aload 0 32)), (32, .inl (o_get 10 3 35)), (35, .inl (o_get 5 0 38)), (38, .inl (o_iload 2 39)), (39, .inl (o_iald 40)), (40, .inl (o_icmp_ge 69 43)), (43, .inl (o_iload 1 44)), (44, .inl (o_aload 0 45)), (45, .inl (o_get 10 5 48)), (48, .inl (o_iload 2 49)), (49, .inl (o_iload 3 50)), (50, .inl (o_callV fX3_allowsAt 2 3 53)), (53, .inl (o_if_eq 60 56)), (56, .inl (o_pushI (nI 0) 57)), (57, .inl (o_goto 61)), (60, .inl (o_pushI (nI 1) 61)), (61, .inl (o_iadd 62)), (62, .inl (o_istore 1 63)), (63, .inl (o_iinc 3 (nI 1) 66)), (66, .inl (o_goto 30)), (69, .inl (o_iinc 2 (nI 1) 72))]
def lX10_breaches_1 : List (Nat × (Op ⊕ Nat)) := [(72, .inl (o_goto 17)), (75, .inl (o_aload 0 76)), (76, .inl (o_iload 1 77)), (77, .inl (o_callV fX10_answer 1 10 80)), (80, .inr 0)]
def lX10_breaches : List (Nat × (Op ⊕ Nat)) := lX10_breaches_0 ++ (lX10_breaches_1)
theorem qX10_breaches : yX10_breaches.cls = RX10 ∧ yX10_breaches.cls ≠ "java/lang/invoke/MethodHandle" ∧ yX10_breaches.cls ≠ "java/lang/invoke/VarHandle" ∧ (parseMethodDescriptor yX10_breaches.desc).map (fun d => d.parameters.length) = some 0 := by decide +kernel
set_option maxRecDepth 10000 in
theorem hX10_breaches_0 (l : Launch) {p : Program} {e : Env} {s : State} {m : MethodId} {args : Array Value} {below : List Frame} {meth : Method} {c : Code} {D : va_G} {ad adV : Nat → Nat} {cA : Nat → ClassId} {K : Kt} (C0 : Cx p s m args meth c D ad adV cA cX10_breaches 4 RX10) (hr : meth.sig.returnType = (some .int)) : ∀ q ∈ lX10_breaches_0, Sd p l e (rmd 6) s m args below meth c (MQ below (QQ D ad cA K) args s 0 0 (AA ad)) D ad cA 4 q.1 (opOf K q.2) := List.forall_mem_cons.mpr ⟨s_aload_n C0 dX10_breaches_0 rfl, List.forall_mem_cons.mpr ⟨s_callV (ci := 10) C0 (kX10_hasText l) dX10_breaches_1 rfl qX10_hasText tw3_155 tw3_157 twp_15 tw1_1 tw3_158 rfl (by decide) (by decide), List.forall_mem_cons.mpr ⟨s_if_ne C0 dX10_breaches_4 rfl, List.forall_mem_cons.mpr ⟨s_aload_n C0 dX10_breaches_7 rfl, List.forall_mem_cons.mpr ⟨s_iconst C0 dX10_breaches_8 rfl, List.forall_mem_cons.mpr ⟨s_callV (ci := 10) C0 (kX10_refuse l) dX10_breaches_9 rfl qX10_refuse tw2_173 tw2_175 twp_0 tw1_1 tw2_176 rfl (by decide) (by decide), List.forall_mem_cons.mpr ⟨s_iret C0 hr dX10_breaches_12, List.forall_mem_cons.mpr ⟨s_iconst C0 dX10_breaches_13 rfl, List.forall_mem_cons.mpr ⟨s_istore_n C0 dX10_breaches_14 rfl (by decide), List.forall_mem_cons.mpr ⟨s_iconst C0 dX10_breaches_15 rfl, List.forall_mem_cons.mpr ⟨s_istore_n C0 dX10_breaches_16 rfl (by decide), List.forall_mem_cons.mpr ⟨s_iload_n C0 dX10_breaches_17 rfl, List.forall_mem_cons.mpr ⟨s_aload_n C0 dX10_breaches_18 rfl, List.forall_mem_cons.mpr ⟨s_get (ci := 10) (k := 2) C0 dX10_breaches_19 inX10 rfl (by decide) tw2_120, List.forall_mem_cons.mpr ⟨s_get (ci := 9) (k := 4) C0 dX10_breaches_22 inX9 rfl (by decide) tw1_95, List.forall_mem_cons.mpr ⟨s_icmp_ge C0 dX10_breaches_25 rfl, List.forall_mem_cons.mpr ⟨s_iconst C0 dX10_breaches_28 rfl, List.forall_mem_cons.mpr ⟨s_istore_n C0 dX10_breaches_29 rfl (by decide), List.forall_mem_cons.mpr ⟨s_iload_n C0 dX10_breaches_30 rfl, List.forall_mem_cons.mpr ⟨s_aload_n C0 dX10_breaches_31 rfl, List.forall_mem_cons.mpr ⟨s_get (ci := 10) (k := 3) C0 dX10_breaches_32 inX10 rfl (by decide) tw2_121, List.forall_mem_cons.mpr ⟨s_get (ci := 5) (k := 0) C0 dX10_breaches_35 inX5 rfl (by decide) tw1_171, List.forall_mem_cons.mpr ⟨s_iload_n C0 dX10_breaches_38 rfl, List.forall_mem_cons.mpr ⟨s_iald C0 dX10_breaches_39, List.forall_mem_cons.mpr ⟨s_icmp_ge C0 dX10_breaches_40 rfl, List.forall_mem_cons.mpr ⟨s_iload_n C0 dX10_breaches_43 rfl, List.forall_mem_cons.mpr ⟨s_aload_n C0 dX10_breaches_44 rfl, List.forall_mem_cons.mpr ⟨s_get (ci := 10) (k := 5) C0 dX10_breaches_45 inX10 rfl (by decide) tw2_123, List.forall_mem_cons.mpr ⟨s_iload_n C0 dX10_breaches_48 rfl, List.forall_mem_cons.mpr ⟨s_iload_n C0 dX10_breaches_49 rfl, List.forall_mem_cons.mpr ⟨s_callV (ci := 3) C0 (kX3_allowsAt l) dX10_breaches_50 rfl qX3_allowsAt tw4_31 tw4_32 tw4_33 tw1_7 tw4_34 rfl (by decide) (by decide), List.forall_mem_cons.mpr ⟨s_if_eq C0 dX10_breaches_53 rfl, List.forall_mem_cons.mpr ⟨s_iconst C0 dX10_breaches_56 rfl, List.forall_mem_cons.mpr ⟨s_goto C0 dX10_breaches_57 rfl, List.forall_mem_cons.mpr ⟨s_iconst C0 dX10_breaches_60 rfl, List.forall_mem_cons.mpr ⟨s_iadd C0 dX10_breaches_61, List.forall_mem_cons.mpr ⟨s_istore_n C0 dX10_breaches_62 rfl (by decide), List.forall_mem_cons.mpr ⟨s_iinc C0 dX10_breaches_63 rfl (by decide), List.forall_mem_cons.mpr ⟨s_goto C0 dX10_breaches_66 rfl, List.forall_mem_cons.mpr ⟨s_iinc C0 dX10_breaches_69 rfl (by decide), fun _ h => absurd h List.not_mem_nil⟩⟩⟩⟩⟩⟩⟩⟩⟩⟩⟩⟩⟩⟩⟩⟩⟩⟩⟩⟩⟩⟩⟩⟩⟩⟩⟩⟩⟩⟩⟩⟩⟩⟩⟩⟩⟩⟩⟩⟩
set_option maxRecDepth 10000 in
theorem hX10_breaches_1 (l : Launch) {p : Program} {e : Env} {s : State} {m : MethodId} {args : Array Value} {below : List Frame} {meth : Method} {c : Code} {D : va_G} {ad adV : Nat → Nat} {cA : Nat → ClassId} {K : Kt} (C0 : Cx p s m args meth c D ad adV cA cX10_breaches 4 RX10) (hr : meth.sig.returnType = (some .int)) : ∀ q ∈ lX10_breaches_1, Sd p l e (rmd 6) s m args below meth c (MQ below (QQ D ad cA K) args s 0 0 (AA ad)) D ad cA 4 q.1 (opOf K q.2) := List.forall_mem_cons.mpr ⟨s_goto C0 dX10_breaches_72 rfl, List.forall_mem_cons.mpr ⟨s_aload_n C0 dX10_breaches_75 rfl, List.forall_mem_cons.mpr ⟨s_iload_n C0 dX10_breaches_76 rfl, List.forall_mem_cons.mpr ⟨s_callV (ci := 10) C0 (kX10_answer l) dX10_breaches_77 rfl qX10_answer tw3_139 tw3_141 twp_14 tw1_1 tw3_142 rfl (by decide) (by decide), List.forall_mem_cons.mpr ⟨s_iret C0 hr dX10_breaches_80, fun _ h => absurd h List.not_mem_nil⟩⟩⟩⟩⟩
def fX10_breaches : Mf := mf 4 (fun K => tl K lX10_breaches)
theorem kX10_breaches (l : Launch) : Okm l yX10_breaches cX10_breaches 4 (some .int) 6 fX10_breaches := Okm_tl (own := RX10) (by decide +kernel) rfl (fun C0 hr => List.forall_mem_append.mpr ⟨hX10_breaches_0 l C0 hr, hX10_breaches_1 l C0 hr⟩)
theorem dX10_breach_0 : decode cX10_breach 0 = .ok (.aload_n 0, 1) := by decide +kernel
theorem dX10_breach_1 : decode cX10_breach 1 = .ok (.invokevirtual 141, 3) := by decide +kernel
theorem dX10_breach_4 : decode cX10_breach 4 = .ok (.ifCond .eq 7, 3) := by decide +kernel
theorem dX10_breach_7 : decode cX10_breach 7 = .ok (.iload_n 1, 1) := by decide +kernel
theorem dX10_breach_8 : decode cX10_breach 8 = .ok (.ifCond .ge 9, 3) := by decide +kernel
theorem dX10_breach_11 : decode cX10_breach 11 = .ok (.aload_n 0, 1) := by decide +kernel
theorem dX10_breach_12 : decode cX10_breach 12 = .ok (.iconst 1, 1) := by decide +kernel
theorem dX10_breach_13 : decode cX10_breach 13 = .ok (.invokevirtual 108, 3) := by decide +kernel
theorem dX10_breach_16 : decode cX10_breach 16 = .ok (.ireturn, 1) := by decide +kernel
theorem dX10_breach_17 : decode cX10_breach 17 = .ok (.iconst 0, 1) := by decide +kernel
theorem dX10_breach_18 : decode cX10_breach 18 = .ok (.istore_n 2, 1) := by decide +kernel
theorem dX10_breach_19 : decode cX10_breach 19 = .ok (.iconst 0, 1) := by decide +kernel
theorem dX10_breach_20 : decode cX10_breach 20 = .ok (.istore_n 3, 1) := by decide +kernel
theorem dX10_breach_21 : decode cX10_breach 21 = .ok (.iload_n 3, 1) := by decide +kernel
theorem dX10_breach_22 : decode cX10_breach 22 = .ok (.aload_n 0, 1) := by decide +kernel
theorem dX10_breach_23 : decode cX10_breach 23 = .ok (.getfield 28, 3) := by decide +kernel
theorem dX10_breach_26 : decode cX10_breach 26 = .ok (.getfield 135, 3) := by decide +kernel
theorem dX10_breach_29 : decode cX10_breach 29 = .ok (.if_icmp .ge 67, 3) := by decide +kernel
theorem dX10_breach_32 : decode cX10_breach 32 = .ok (.iconst 0, 1) := by decide +kernel
theorem dX10_breach_33 : decode cX10_breach 33 = .ok (.istore 4, 2) := by decide +kernel
theorem dX10_breach_35 : decode cX10_breach 35 = .ok (.iload 4, 2) := by decide +kernel
theorem dX10_breach_37 : decode cX10_breach 37 = .ok (.aload_n 0, 1) := by decide +kernel
theorem dX10_breach_38 : decode cX10_breach 38 = .ok (.getfield 35, 3) := by decide +kernel
theorem dX10_breach_41 : decode cX10_breach 41 = .ok (.getfield 193, 3) := by decide +kernel
theorem dX10_breach_44 : decode cX10_breach 44 = .ok (.iload_n 3, 1) := by decide +kernel
theorem dX10_breach_45 : decode cX10_breach 45 = .ok (.iaload, 1) := by decide +kernel
theorem dX10_breach_46 : decode cX10_breach 46 = .ok (.if_icmp .ge 44, 3) := by decide +kernel
theorem dX10_breach_49 : decode cX10_breach 49 = .ok (.aload_n 0, 1) := by decide +kernel
theorem dX10_breach_50 : decode cX10_breach 50 = .ok (.getfield 53, 3) := by decide +kernel
theorem dX10_breach_53 : decode cX10_breach 53 = .ok (.iload_n 3, 1) := by decide +kernel
theorem dX10_breach_54 : decode cX10_breach 54 = .ok (.iload 4, 2) := by decide +kernel
theorem dX10_breach_56 : decode cX10_breach 56 = .ok (.invokevirtual 225, 3) := by decide +kernel
theorem dX10_breach_59 : decode cX10_breach 59 = .ok (.ifCond .eq 6, 3) := by decide +kernel
theorem dX10_breach_62 : decode cX10_breach 62 = .ok (.goto 22, 3) := by decide +kernel
theorem dX10_breach_65 : decode cX10_breach 65 = .ok (.iload_n 2, 1) := by decide +kernel
theorem dX10_breach_66 : decode cX10_breach 66 = .ok (.iload_n 1, 1) := by decide +kernel
theorem dX10_breach_67 : decode cX10_breach 67 = .ok (.if_icmp .ne 14, 3) := by decide +kernel
theorem dX10_breach_70 : decode cX10_breach 70 = .ok (.aload_n 0, 1) := by decide +kernel
theorem dX10_breach_71 : decode cX10_breach 71 = .ok (.iconst 3, 1) := by decide +kernel
theorem dX10_breach_72 : decode cX10_breach 72 = .ok (.iload_n 3, 1) := by decide +kernel
theorem dX10_breach_73 : decode cX10_breach 73 = .ok (.imul, 1) := by decide +kernel
theorem dX10_breach_74 : decode cX10_breach 74 = .ok (.iload 4, 2) := by decide +kernel
theorem dX10_breach_76 : decode cX10_breach 76 = .ok (.iadd, 1) := by decide +kernel
theorem dX10_breach_77 : decode cX10_breach 77 = .ok (.invokevirtual 138, 3) := by decide +kernel
theorem dX10_breach_80 : decode cX10_breach 80 = .ok (.ireturn, 1) := by decide +kernel
theorem dX10_breach_81 : decode cX10_breach 81 = .ok (.iinc 2 1, 3) := by decide +kernel
theorem dX10_breach_84 : decode cX10_breach 84 = .ok (.iinc 4 1, 3) := by decide +kernel
theorem dX10_breach_87 : decode cX10_breach 87 = .ok (.goto (-52), 3) := by decide +kernel
theorem dX10_breach_90 : decode cX10_breach 90 = .ok (.iinc 3 1, 3) := by decide +kernel
theorem dX10_breach_93 : decode cX10_breach 93 = .ok (.goto (-72), 3) := by decide +kernel
theorem dX10_breach_96 : decode cX10_breach 96 = .ok (.aload_n 0, 1) := by decide +kernel
theorem dX10_breach_97 : decode cX10_breach 97 = .ok (.bipush (-2), 2) := by decide +kernel
theorem dX10_breach_99 : decode cX10_breach 99 = .ok (.invokevirtual 138, 3) := by decide +kernel
theorem dX10_breach_102 : decode cX10_breach 102 = .ok (.ireturn, 1) := by decide +kernel
def lX10_breach_0 : List (Nat × (Op ⊕ Nat)) := [(0, .inl (o_aload 0 1)), (1, .inl (o_callV fX10_hasText 0 10 4)), (4, .inl (o_if_eq 11 7)), (7, .inl (o_iload 1 8)), (8, .inl (o_if_ge 17 11)), (11, .inl (o_aload 0 12)), (12, .inl (o_pushI (nI 1) 13)), (13, .inl (o_callV fX10_refuse 1 10 16)), (16, .inr 0), (17, .inl (o_pushI (nI 0) 18)), (18, .inl (o_istore 2 19)), (19, .inl (o_pushI (nI 0) 20)), (20, .inl (o_istore 3 21)), (21, .inl (o_iload 3 22)), (22, .inl (o_aload 0 23)), (23, .inl (o_get 10 2 26)), (26, .inl (o_get 9 4 29)), (29, .inl (o_icmp_ge 96 32)), (32, .inl (o_pushI (nI 0) 33)), (33, .inl (o_istore 4 35)), (35, .inl (o_iload 4 37)), (37, .inl (o_aload 0 38)), (38, .inl (o_get 10 3 41)), (41, .inl (o_get 5 0 44)), (44, .inl (o_iload 3 45)), (45, .inl (o_iald 46)), (46, .inl (o_icmp_ge 90 49)), (49, .inl (o_aload 0 50)), (50, .inl (o_get 10 5 53)), (53, .inl (o_iload 3 54)), (54, .inl (o_iload 4 56)), (56, .inl (o_callV fX3_allowsAt 2 3 59)), (59, .inl (o_if_eq 65 62)), (62, .inl (o_goto 84)), (65, .inl (o_iload 2 66)), (66, .inl (o_iload 1 67)), (67, .inl (o_icmp_ne 81 70)), (70, .inl (o_aload 0 71)), (71, .inl (o_pushI (nI 3) 72)), (72, .inl (o_iload 3 73))]
def lX10_breach_1 : List (Nat × (Op ⊕ Nat)) := [(73, .inl (o_imul 74)), (74, .inl (o_iload 4 76)), (76, .inl (o_iadd 77)), (77, .inl (o_callV fX10_answer 1 10 80)), (80, .inr 0), (81, .inl (o_iinc 2 (nI 1) 84)), (84, .inl (o_iinc 4 (nI 1) 87)), (87, .inl (o_goto 35)), (90, .inl (o_iinc 3 (nI 1) 93)), (93, .inl (o_goto 21)), (96, .inl (o_aload 0 97)), (97, .inl (o_pushI ((-2)) 99)), (99, .inl (o_callV fX10_answer 1 10 102)), (102, .inr 0)]
def lX10_breach : List (Nat × (Op ⊕ Nat)) := lX10_breach_0 ++ (lX10_breach_1)
theorem qX10_breach : yX10_breach.cls = RX10 ∧ yX10_breach.cls ≠ "java/lang/invoke/MethodHandle" ∧ yX10_breach.cls ≠ "java/lang/invoke/VarHandle" ∧ (parseMethodDescriptor yX10_breach.desc).map (fun d => d.parameters.length) = some 1 := by decide +kernel
set_option maxRecDepth 10000 in
theorem hX10_breach_0 (l : Launch) {p : Program} {e : Env} {s : State} {m : MethodId} {args : Array Value} {below : List Frame} {meth : Method} {c : Code} {D : va_G} {ad adV : Nat → Nat} {cA : Nat → ClassId} {K : Kt} (C0 : Cx p s m args meth c D ad adV cA cX10_breach 5 RX10) (hr : meth.sig.returnType = (some .int)) : ∀ q ∈ lX10_breach_0, Sd p l e (rmd 6) s m args below meth c (MQ below (QQ D ad cA K) args s 0 0 (AA ad)) D ad cA 5 q.1 (opOf K q.2) := List.forall_mem_cons.mpr ⟨s_aload_n C0 dX10_breach_0 rfl, List.forall_mem_cons.mpr ⟨s_callV (ci := 10) C0 (kX10_hasText l) dX10_breach_1 rfl qX10_hasText tw3_155 tw3_157 twp_15 tw1_1 tw3_158 rfl (by decide) (by decide), List.forall_mem_cons.mpr ⟨s_if_eq C0 dX10_breach_4 rfl, List.forall_mem_cons.mpr ⟨s_iload_n C0 dX10_breach_7 rfl, List.forall_mem_cons.mpr ⟨s_if_ge C0 dX10_breach_8 rfl, List.forall_mem_cons.mpr ⟨s_aload_n C0 dX10_breach_11 rfl, List.forall_mem_cons.mpr ⟨s_iconst C0 dX10_breach_12 rfl, List.forall_mem_cons.mpr ⟨s_callV (ci := 10) C0 (kX10_refuse l) dX10_breach_13 rfl qX10_refuse tw2_173 tw2_175 twp_0 tw1_1 tw2_176 rfl (by decide) (by decide), List.forall_mem_cons.mpr ⟨s_iret C0 hr dX10_breach_16, List.forall_mem_cons.mpr ⟨s_iconst C0 dX10_breach_17 rfl, List.forall_mem_cons.mpr ⟨s_istore_n C0 dX10_breach_18 rfl (by decide), List.forall_mem_cons.mpr ⟨s_iconst C0 dX10_breach_19 rfl, List.forall_mem_cons.mpr ⟨s_istore_n C0 dX10_breach_20 rfl (by decide), List.forall_mem_cons.mpr ⟨s_iload_n C0 dX10_breach_21 rfl, List.forall_mem_cons.mpr ⟨s_aload_n C0 dX10_breach_22 rfl, List.forall_mem_cons.mpr ⟨s_get (ci := 10) (k := 2) C0 dX10_breach_23 inX10 rfl (by decide) tw2_120, List.forall_mem_cons.mpr ⟨s_get (ci := 9) (k := 4) C0 dX10_breach_26 inX9 rfl (by decide) tw1_95, List.forall_mem_cons.mpr ⟨s_icmp_ge C0 dX10_breach_29 rfl, List.forall_mem_cons.mpr ⟨s_iconst C0 dX10_breach_32 rfl, List.forall_mem_cons.mpr ⟨s_istore C0 dX10_breach_33 (by decide), List.forall_mem_cons.mpr ⟨s_iload C0 dX10_breach_35, List.forall_mem_cons.mpr ⟨s_aload_n C0 dX10_breach_37 rfl, List.forall_mem_cons.mpr ⟨s_get (ci := 10) (k := 3) C0 dX10_breach_38 inX10 rfl (by decide) tw2_121, List.forall_mem_cons.mpr ⟨s_get (ci := 5) (k := 0) C0 dX10_breach_41 inX5 rfl (by decide) tw1_171, List.forall_mem_cons.mpr ⟨s_iload_n C0 dX10_breach_44 rfl, List.forall_mem_cons.mpr ⟨s_iald C0 dX10_breach_45, List.forall_mem_cons.mpr ⟨s_icmp_ge C0 dX10_breach_46 rfl, List.forall_mem_cons.mpr ⟨s_aload_n C0 dX10_breach_49 rfl, List.forall_mem_cons.mpr ⟨s_get (ci := 10) (k := 5) C0 dX10_breach_50 inX10 rfl (by decide) tw2_123, List.forall_mem_cons.mpr ⟨s_iload_n C0 dX10_breach_53 rfl, List.forall_mem_cons.mpr ⟨s_iload C0 dX10_breach_54, List.forall_mem_cons.mpr ⟨s_callV (ci := 3) C0 (kX3_allowsAt l) dX10_breach_56 rfl qX3_allowsAt tw4_31 tw4_32 tw4_33 tw1_7 tw4_34 rfl (by decide) (by decide), List.forall_mem_cons.mpr ⟨s_if_eq C0 dX10_breach_59 rfl, List.forall_mem_cons.mpr ⟨s_goto C0 dX10_breach_62 rfl, List.forall_mem_cons.mpr ⟨s_iload_n C0 dX10_breach_65 rfl, List.forall_mem_cons.mpr ⟨s_iload_n C0 dX10_breach_66 rfl, List.forall_mem_cons.mpr ⟨s_icmp_ne C0 dX10_breach_67 rfl, List.forall_mem_cons.mpr ⟨s_aload_n C0 dX10_breach_70 rfl, List.forall_mem_cons.mpr ⟨s_iconst C0 dX10_breach_71 rfl, List.forall_mem_cons.mpr ⟨s_iload_n C0 dX10_breach_72 rfl, fun _ h => absurd h List.not_mem_nil⟩⟩⟩⟩⟩⟩⟩⟩⟩⟩⟩⟩⟩⟩⟩⟩⟩⟩⟩⟩⟩⟩⟩⟩⟩⟩⟩⟩⟩⟩⟩⟩⟩⟩⟩⟩⟩⟩⟩⟩
set_option maxRecDepth 10000 in
theorem hX10_breach_1 (l : Launch) {p : Program} {e : Env} {s : State} {m : MethodId} {args : Array Value} {below : List Frame} {meth : Method} {c : Code} {D : va_G} {ad adV : Nat → Nat} {cA : Nat → ClassId} {K : Kt} (C0 : Cx p s m args meth c D ad adV cA cX10_breach 5 RX10) (hr : meth.sig.returnType = (some .int)) : ∀ q ∈ lX10_breach_1, Sd p l e (rmd 6) s m args below meth c (MQ below (QQ D ad cA K) args s 0 0 (AA ad)) D ad cA 5 q.1 (opOf K q.2) := List.forall_mem_cons.mpr ⟨s_imul C0 dX10_breach_73, List.forall_mem_cons.mpr ⟨s_iload C0 dX10_breach_74, List.forall_mem_cons.mpr ⟨s_iadd C0 dX10_breach_76, List.forall_mem_cons.mpr ⟨s_callV (ci := 10) C0 (kX10_answer l) dX10_breach_77 rfl qX10_answer tw3_139 tw3_141 twp_14 tw1_1 tw3_142 rfl (by decide) (by decide), List.forall_mem_cons.mpr ⟨s_iret C0 hr dX10_breach_80, List.forall_mem_cons.mpr ⟨s_iinc C0 dX10_breach_81 rfl (by decide), List.forall_mem_cons.mpr ⟨s_iinc C0 dX10_breach_84 rfl (by decide), List.forall_mem_cons.mpr ⟨s_goto C0 dX10_breach_87 rfl, List.forall_mem_cons.mpr ⟨s_iinc C0 dX10_breach_90 rfl (by decide), List.forall_mem_cons.mpr ⟨s_goto C0 dX10_breach_93 rfl, List.forall_mem_cons.mpr ⟨s_aload_n C0 dX10_breach_96 rfl, List.forall_mem_cons.mpr ⟨s_bipush C0 dX10_breach_97 (by decide +kernel), List.forall_mem_cons.mpr ⟨s_callV (ci := 10) C0 (kX10_answer l) dX10_breach_99 rfl qX10_answer tw3_139 tw3_141 twp_14 tw1_1 tw3_142 rfl (by decide) (by decide), List.forall_mem_cons.mpr ⟨s_iret C0 hr dX10_breach_102, fun _ h => absurd h List.not_mem_nil⟩⟩⟩⟩⟩⟩⟩⟩⟩⟩⟩⟩⟩⟩
def fX10_breach : Mf := mf 5 (fun K => tl K lX10_breach)
theorem kX10_breach (l : Launch) : Okm l yX10_breach cX10_breach 5 (some .int) 6 fX10_breach := Okm_tl (own := RX10) (by decide +kernel) rfl (fun C0 hr => List.forall_mem_append.mpr ⟨hX10_breach_0 l C0 hr, hX10_breach_1 l C0 hr⟩)
