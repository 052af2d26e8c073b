theorem dX11_size_0 : decode cX11_size 0 = .ok (.aload_n 0, 1) := by decide +kernel
theorem dX11_size_1 : decode cX11_size 1 = .ok (.iconst 0, 1) := by decide +kernel
theorem dX11_size_2 : decode cX11_size 2 = .ok (.putfield 47, 3) := by decide +kernel
theorem dX11_size_5 : decode cX11_size 5 = .ok (.aload_n 0, 1) := by decide +kernel
theorem dX11_size_6 : decode cX11_size 6 = .ok (.getfield 53, 3) := by decide +kernel
theorem dX11_size_9 : decode cX11_size 9 = .ok (.ireturn, 1) := by decide +kernel
def lX11_size : List (Nat × (Op ⊕ Nat)) := [(0, .inl (o_aload 0 1)), (1, .inl (o_pushI (nI 0) 2)), (2, .inl (o_putI 11 0 5)), (5, .inl (o_aload 0 6)), (6, .inl (o_get 11 5 9)), (9, .inr 0)]
theorem qX11_size : yX11_size.cls = RX11 ∧ yX11_size.cls ≠ "java/lang/invoke/MethodHandle" ∧ yX11_size.cls ≠ "java/lang/invoke/VarHandle" ∧ (parseMethodDescriptor yX11_size.desc).map (fun d => d.parameters.length) = some 0 := by decide +kernel
set_option maxRecDepth 10000 in
theorem hX11_size_0 (l : Launch) {p : Program} {e : Env} {s : State} {m : MethodId} {args : Array Value} {below : List Frame} {meth : Method} {c : Code} {D : va_G} {ad adV : Nat → Nat} {cA : Nat → ClassId} {K : Kt} (C0 : Cx p s m args meth c D ad adV cA cX11_size 1 RX11) (hr : meth.sig.returnType = (some .int)) : ∀ q ∈ lX11_size, Sd p l e (rmd 0) s m args below meth c (MQ below (QQ D ad cA K) args s 0 0 (AA ad)) D ad cA 1 q.1 (opOf K q.2) := List.forall_mem_cons.mpr ⟨s_aload_n C0 dX11_size_0 rfl, List.forall_mem_cons.mpr ⟨s_iconst C0 dX11_size_1 rfl, List.forall_mem_cons.mpr ⟨s_putI (ci := 11) (k := 0) C0 dX11_size_2 inX11 tyX11_ok nmX11 rfl (by decide) rfl rfl tw6_11, List.forall_mem_cons.mpr ⟨s_aload_n C0 dX11_size_5 rfl, List.forall_mem_cons.mpr ⟨s_get (ci := 11) (k := 5) C0 dX11_size_6 inX11 rfl (by decide) tw6_16, List.forall_mem_cons.mpr ⟨s_iret C0 hr dX11_size_9, fun _ h => absurd h List.not_mem_nil⟩⟩⟩⟩⟩⟩
def fX11_size : Mf := mf 1 (fun K => tl K lX11_size)
theorem kX11_size (l : Launch) : Okm l yX11_size cX11_size 1 (some .int) 0 fX11_size := Okm_tl (own := RX11) (by decide +kernel) rfl (fun C0 hr => hX11_size_0 l C0 hr)
theorem dX11_trouble_0 : decode cX11_trouble 0 = .ok (.aload_n 0, 1) := by decide +kernel
theorem dX11_trouble_1 : decode cX11_trouble 1 = .ok (.iconst 0, 1) := by decide +kernel
theorem dX11_trouble_2 : decode cX11_trouble 2 = .ok (.putfield 47, 3) := by decide +kernel
theorem dX11_trouble_5 : decode cX11_trouble 5 = .ok (.aload_n 0, 1) := by decide +kernel
theorem dX11_trouble_6 : decode cX11_trouble 6 = .ok (.getfield 50, 3) := by decide +kernel
theorem dX11_trouble_9 : decode cX11_trouble 9 = .ok (.ireturn, 1) := by decide +kernel
def lX11_trouble : List (Nat × (Op ⊕ Nat)) := [(0, .inl (o_aload 0 1)), (1, .inl (o_pushI (nI 0) 2)), (2, .inl (o_putI 11 0 5)), (5, .inl (o_aload 0 6)), (6, .inl (o_get 11 1 9)), (9, .inr 0)]
theorem qX11_trouble : yX11_trouble.cls = RX11 ∧ yX11_trouble.cls ≠ "java/lang/invoke/MethodHandle" ∧ yX11_trouble.cls ≠ "java/lang/invoke/VarHandle" ∧ (parseMethodDescriptor yX11_trouble.desc).map (fun d => d.parameters.length) = some 0 := by decide +kernel
set_option maxRecDepth 10000 in
theorem hX11_trouble_0 (l : Launch) {p : Program} {e : Env} {s : State} {m : MethodId} {args : Array Value} {below : List Frame} {meth : Method} {c : Code} {D : va_G} {ad adV : Nat → Nat} {cA : Nat → ClassId} {K : Kt} (C0 : Cx p s m args meth c D ad adV cA cX11_trouble 1 RX11) (hr : meth.sig.returnType = (some .int)) : ∀ q ∈ lX11_trouble, Sd p l e (rmd 0) s m args below meth c (MQ below (QQ D ad cA K) args s 0 0 (AA ad)) D ad cA 1 q.1 (opOf K q.2) := List.forall_mem_cons.mpr ⟨s_aload_n C0 dX11_trouble_0 rfl, List.forall_mem_cons.mpr ⟨s_iconst C0 dX11_trouble_1 rfl, List.forall_mem_cons.mpr ⟨s_putI (ci := 11) (k := 0) C0 dX11_trouble_2 inX11 tyX11_ok nmX11 rfl (by decide) rfl rfl tw6_11, List.forall_mem_cons.mpr ⟨s_aload_n C0 dX11_trouble_5 rfl, List.forall_mem_cons.mpr ⟨s_get (ci := 11) (k := 1) C0 dX11_trouble_6 inX11 rfl (by decide) tw6_12, List.forall_mem_cons.mpr ⟨s_iret C0 hr dX11_trouble_9, fun _ h => absurd h List.not_mem_nil⟩⟩⟩⟩⟩⟩
def fX11_trouble : Mf := mf 1 (fun K => tl K lX11_trouble)
theorem kX11_trouble (l : Launch) : Okm l yX11_trouble cX11_trouble 1 (some .int) 0 fX11_trouble := Okm_tl (own := RX11) (by decide +kernel) rfl (fun C0 hr => hX11_trouble_0 l C0 hr)
