theorem eX9_trait {As L : List Value} {w : Wd} {K : Kt} (hw : wds As ≤ 3) (hL : ent 3 As = L) (h : RR (tl K lX9_trait) 0 L [] w) : fX9_trait As w K := ⟨hw, by rw [hL]; exact h⟩
theorem nX9_trait : MonoF fX9_trait := mono_f 3 lX9_trait
theorem aX9_trait_0 (K : Kt) : tl K (lX9_trait) 0 = o_aload 0 1 := rfl
theorem aX9_trait_1 (K : Kt) : tl K (lX9_trait) 1 = o_get 9 3 4 := rfl
theorem aX9_trait_4 (K : Kt) : tl K (lX9_trait) 4 = o_iload 1 5 := rfl
theorem aX9_trait_5 (K : Kt) : tl K (lX9_trait) 5 = o_pushI (nI 4) 6 := rfl
theorem aX9_trait_6 (K : Kt) : tl K (lX9_trait) 6 = o_imul 7 := rfl
theorem aX9_trait_7 (K : Kt) : tl K (lX9_trait) 7 = o_iload 2 8 := rfl
theorem aX9_trait_8 (K : Kt) : tl K (lX9_trait) 8 = o_iadd 9 := rfl
theorem aX9_trait_9 (K : Kt) : tl K (lX9_trait) 9 = o_iald 10 := rfl
theorem aX9_trait_10 (K : Kt) : tl K (lX9_trait) 10 = o_iret K := rfl
theorem eX9_fact {As L : List Value} {w : Wd} {K : Kt} (hw : wds As ≤ 3) (hL : ent 3 As = L) (h : RR (tl K lX9_fact) 0 L [] w) : fX9_fact As w K := ⟨hw, by rw [hL]; exact h⟩
theorem nX9_fact : MonoF fX9_fact := mono_f 3 lX9_fact
theorem aX9_fact_0 (K : Kt) : tl K (lX9_fact) 0 = o_aload 0 1 := rfl
theorem aX9_fact_1 (K : Kt) : tl K (lX9_fact) 1 = o_get 9 5 4 := rfl
theorem aX9_fact_4 (K : Kt) : tl K (lX9_fact) 4 = o_iload 1 5 := rfl
theorem aX9_fact_5 (K : Kt) : tl K (lX9_fact) 5 = o_pushI (nI 3) 6 := rfl
theorem aX9_fact_6 (K : Kt) : tl K (lX9_fact) 6 = o_imul 7 := rfl
theorem aX9_fact_7 (K : Kt) : tl K (lX9_fact) 7 = o_iload 2 8 := rfl
theorem aX9_fact_8 (K : Kt) : tl K (lX9_fact) 8 = o_iadd 9 := rfl
theorem aX9_fact_9 (K : Kt) : tl K (lX9_fact) 9 = o_iald 10 := rfl
theorem aX9_fact_10 (K : Kt) : tl K (lX9_fact) 10 = o_iret K := rfl
theorem eX1_fullThrows {As L : List Value} {w : Wd} {K : Kt} (hw : wds As ≤ 3) (hL : ent 3 As = L) (h : RR (tl K lX1_fullThrows) 0 L [] w) : fX1_fullThrows As w K := ⟨hw, by rw [hL]; exact h⟩
theorem nX1_fullThrows : MonoF fX1_fullThrows := mono_f 3 lX1_fullThrows
theorem aX1_fullThrows_0 (K : Kt) : tl K (lX1_fullThrows) 0 = o_aload 0 1 := rfl
theorem aX1_fullThrows_1 (K : Kt) : tl K (lX1_fullThrows) 1 = o_get 1 0 4 := rfl
theorem aX1_fullThrows_4 (K : Kt) : tl K (lX1_fullThrows) 4 = o_iload 1 5 := rfl
theorem aX1_fullThrows_5 (K : Kt) : tl K (lX1_fullThrows) 5 = o_pushI (nI 1) 6 := rfl
theorem aX1_fullThrows_6 (K : Kt) : tl K (lX1_fullThrows) 6 = o_callV fX9_trait 2 9 9 := rfl
theorem aX1_fullThrows_9 (K : Kt) : tl K (lX1_fullThrows) 9 = o_aload 0 10 := rfl
theorem aX1_fullThrows_10 (K : Kt) : tl K (lX1_fullThrows) 10 = o_get 1 0 13 := rfl
theorem aX1_fullThrows_13 (K : Kt) : tl K (lX1_fullThrows) 13 = o_iload 2 14 := rfl
theorem aX1_fullThrows_14 (K : Kt) : tl K (lX1_fullThrows) 14 = o_pushI (nI 2) 15 := rfl
theorem aX1_fullThrows_15 (K : Kt) : tl K (lX1_fullThrows) 15 = o_callV fX9_fact 2 9 18 := rfl
theorem aX1_fullThrows_18 (K : Kt) : tl K (lX1_fullThrows) 18 = o_min 21 := rfl
theorem aX1_fullThrows_21 (K : Kt) : tl K (lX1_fullThrows) 21 = o_iret K := rfl
theorem eX1_pointsOf {As L : List Value} {w : Wd} {K : Kt} (hw : wds As ≤ 6) (hL : ent 6 As = L) (h : RR (tl K lX1_pointsOf) 0 L [] w) : fX1_pointsOf As w K := ⟨hw, by rw [hL]; exact h⟩
theorem nX1_pointsOf : MonoF fX1_pointsOf := mono_f 6 lX1_pointsOf
theorem aX1_pointsOf_0 (K : Kt) : tl K (lX1_pointsOf) 0 = o_aload 0 1 := rfl
theorem aX1_pointsOf_1 (K : Kt) : tl K (lX1_pointsOf) 1 = o_get 1 0 4 := rfl
theorem aX1_pointsOf_4 (K : Kt) : tl K (lX1_pointsOf) 4 = o_iload 2 5 := rfl
theorem aX1_pointsOf_5 (K : Kt) : tl K (lX1_pointsOf) 5 = o_pushI (nI 1) 6 := rfl
theorem aX1_pointsOf_6 (K : Kt) : tl K (lX1_pointsOf) 6 = o_callV fX9_fact 2 9 9 := rfl
theorem aX1_pointsOf_9 (K : Kt) : tl K (lX1_pointsOf) 9 = o_istore 3 10 := rfl
theorem aX1_pointsOf_10 (K : Kt) : tl K (lX1_pointsOf) 10 = o_pushI (nI 9) 12 := rfl
theorem aX1_pointsOf_12 (K : Kt) : tl K (lX1_pointsOf) 12 = o_iload 3 13 := rfl
theorem aX1_pointsOf_13 (K : Kt) : tl K (lX1_pointsOf) 13 = o_isub 14 := rfl
theorem aX1_pointsOf_14 (K : Kt) : tl K (lX1_pointsOf) 14 = o_istore 4 16 := rfl
theorem aX1_pointsOf_16 (K : Kt) : tl K (lX1_pointsOf) 16 = o_aload 0 17 := rfl
theorem aX1_pointsOf_17 (K : Kt) : tl K (lX1_pointsOf) 17 = o_get 1 0 20 := rfl
theorem aX1_pointsOf_20 (K : Kt) : tl K (lX1_pointsOf) 20 = o_get 9 2 23 := rfl
theorem aX1_pointsOf_23 (K : Kt) : tl K (lX1_pointsOf) 23 = o_iload 1 24 := rfl
theorem aX1_pointsOf_24 (K : Kt) : tl K (lX1_pointsOf) 24 = o_iald 25 := rfl
theorem aX1_pointsOf_25 (K : Kt) : tl K (lX1_pointsOf) 25 = o_pushI (nI 1) 26 := rfl
theorem aX1_pointsOf_26 (K : Kt) : tl K (lX1_pointsOf) 26 = o_icmp_ne 36 29 := rfl
theorem aX1_pointsOf_29 (K : Kt) : tl K (lX1_pointsOf) 29 = o_iload 4 31 := rfl
theorem aX1_pointsOf_31 (K : Kt) : tl K (lX1_pointsOf) 31 = o_iload 3 32 := rfl
theorem aX1_pointsOf_32 (K : Kt) : tl K (lX1_pointsOf) 32 = o_isub 33 := rfl
theorem aX1_pointsOf_33 (K : Kt) : tl K (lX1_pointsOf) 33 = o_goto 40 := rfl
theorem aX1_pointsOf_36 (K : Kt) : tl K (lX1_pointsOf) 36 = o_iload 3 37 := rfl
theorem aX1_pointsOf_37 (K : Kt) : tl K (lX1_pointsOf) 37 = o_iload 4 39 := rfl
theorem aX1_pointsOf_39 (K : Kt) : tl K (lX1_pointsOf) 39 = o_isub 40 := rfl
theorem aX1_pointsOf_40 (K : Kt) : tl K (lX1_pointsOf) 40 = o_istore 5 42 := rfl
theorem aX1_pointsOf_42 (K : Kt) : tl K (lX1_pointsOf) 42 = o_pushI (nI 0) 43 := rfl
theorem aX1_pointsOf_43 (K : Kt) : tl K (lX1_pointsOf) 43 = o_aload 0 44 := rfl
theorem aX1_pointsOf_44 (K : Kt) : tl K (lX1_pointsOf) 44 = o_get 1 0 47 := rfl
theorem aX1_pointsOf_47 (K : Kt) : tl K (lX1_pointsOf) 47 = o_iload 1 48 := rfl
theorem aX1_pointsOf_48 (K : Kt) : tl K (lX1_pointsOf) 48 = o_pushI (nI 0) 49 := rfl
theorem aX1_pointsOf_49 (K : Kt) : tl K (lX1_pointsOf) 49 = o_callV fX9_trait 2 9 52 := rfl
theorem aX1_pointsOf_52 (K : Kt) : tl K (lX1_pointsOf) 52 = o_aload 0 53 := rfl
theorem aX1_pointsOf_53 (K : Kt) : tl K (lX1_pointsOf) 53 = o_get 1 0 56 := rfl
theorem aX1_pointsOf_56 (K : Kt) : tl K (lX1_pointsOf) 56 = o_get 9 6 59 := rfl
theorem aX1_pointsOf_59 (K : Kt) : tl K (lX1_pointsOf) 59 = o_pushI (nI 1) 60 := rfl
theorem aX1_pointsOf_60 (K : Kt) : tl K (lX1_pointsOf) 60 = o_iald 61 := rfl
theorem aX1_pointsOf_61 (K : Kt) : tl K (lX1_pointsOf) 61 = o_iload 5 63 := rfl
theorem aX1_pointsOf_63 (K : Kt) : tl K (lX1_pointsOf) 63 = o_imul 64 := rfl
theorem aX1_pointsOf_64 (K : Kt) : tl K (lX1_pointsOf) 64 = o_iadd 65 := rfl
theorem aX1_pointsOf_65 (K : Kt) : tl K (lX1_pointsOf) 65 = o_max 68 := rfl
theorem aX1_pointsOf_68 (K : Kt) : tl K (lX1_pointsOf) 68 = o_iret K := rfl
theorem eX1_valueOf {As L : List Value} {w : Wd} {K : Kt} (hw : wds As ≤ 6) (hL : ent 6 As = L) (h : RR (tl K lX1_valueOf) 0 L [] w) : fX1_valueOf As w K := ⟨hw, by rw [hL]; exact h⟩
theorem nX1_valueOf : MonoF fX1_valueOf := mono_f 6 lX1_valueOf
theorem aX1_valueOf_0 (K : Kt) : tl K (lX1_valueOf) 0 = o_iload 3 1 := rfl
theorem aX1_valueOf_1 (K : Kt) : tl K (lX1_valueOf) 1 = o_aload 0 2 := rfl
theorem aX1_valueOf_2 (K : Kt) : tl K (lX1_valueOf) 2 = o_get 1 0 5 := rfl
theorem aX1_valueOf_5 (K : Kt) : tl K (lX1_valueOf) 5 = o_iload 1 6 := rfl
theorem aX1_valueOf_6 (K : Kt) : tl K (lX1_valueOf) 6 = o_pushI (nI 2) 7 := rfl
theorem aX1_valueOf_7 (K : Kt) : tl K (lX1_valueOf) 7 = o_callV fX9_trait 2 9 10 := rfl
theorem aX1_valueOf_10 (K : Kt) : tl K (lX1_valueOf) 10 = o_min 13 := rfl
theorem aX1_valueOf_13 (K : Kt) : tl K (lX1_valueOf) 13 = o_istore 4 15 := rfl
theorem aX1_valueOf_15 (K : Kt) : tl K (lX1_valueOf) 15 = o_aload 0 16 := rfl
theorem aX1_valueOf_16 (K : Kt) : tl K (lX1_valueOf) 16 = o_iload 1 17 := rfl
theorem aX1_valueOf_17 (K : Kt) : tl K (lX1_valueOf) 17 = o_iload 2 18 := rfl
theorem aX1_valueOf_18 (K : Kt) : tl K (lX1_valueOf) 18 = o_callV fX1_pointsOf 2 1 21 := rfl
theorem aX1_valueOf_21 (K : Kt) : tl K (lX1_valueOf) 21 = o_istore 5 23 := rfl
theorem aX1_valueOf_23 (K : Kt) : tl K (lX1_valueOf) 23 = o_iload 5 25 := rfl
theorem aX1_valueOf_25 (K : Kt) : tl K (lX1_valueOf) 25 = o_iload 4 27 := rfl
theorem aX1_valueOf_27 (K : Kt) : tl K (lX1_valueOf) 27 = o_imul 28 := rfl
theorem aX1_valueOf_28 (K : Kt) : tl K (lX1_valueOf) 28 = o_iload 5 30 := rfl
theorem aX1_valueOf_30 (K : Kt) : tl K (lX1_valueOf) 30 = o_iload 3 31 := rfl
theorem aX1_valueOf_31 (K : Kt) : tl K (lX1_valueOf) 31 = o_iload 4 33 := rfl
theorem aX1_valueOf_33 (K : Kt) : tl K (lX1_valueOf) 33 = o_isub 34 := rfl
theorem aX1_valueOf_34 (K : Kt) : tl K (lX1_valueOf) 34 = o_imul 35 := rfl
theorem aX1_valueOf_35 (K : Kt) : tl K (lX1_valueOf) 35 = o_pushI (nI 2) 36 := rfl
theorem aX1_valueOf_36 (K : Kt) : tl K (lX1_valueOf) 36 = o_idiv 37 := rfl
theorem aX1_valueOf_37 (K : Kt) : tl K (lX1_valueOf) 37 = o_iadd 38 := rfl
theorem aX1_valueOf_38 (K : Kt) : tl K (lX1_valueOf) 38 = o_iret K := rfl
theorem eX5_copyLoads {As L : List Value} {w : Wd} {K : Kt} (hw : wds As ≤ 3) (hL : ent 3 As = L) (h : RR (tl K lX5_copyLoads) 0 L [] w) : fX5_copyLoads As w K := ⟨hw, by rw [hL]; exact h⟩
theorem nX5_copyLoads : MonoF fX5_copyLoads := mono_f 3 lX5_copyLoads
theorem aX5_copyLoads_0 (K : Kt) : tl K (lX5_copyLoads) 0 = o_aload 0 1 := rfl
theorem aX5_copyLoads_1 (K : Kt) : tl K (lX5_copyLoads) 1 = o_get 5 3 4 := rfl
theorem aX5_copyLoads_4 (K : Kt) : tl K (lX5_copyLoads) 4 = o_iload 1 5 := rfl
theorem aX5_copyLoads_5 (K : Kt) : tl K (lX5_copyLoads) 5 = o_pushI (nI 20) 7 := rfl
theorem aX5_copyLoads_7 (K : Kt) : tl K (lX5_copyLoads) 7 = o_imul 8 := rfl
theorem aX5_copyLoads_8 (K : Kt) : tl K (lX5_copyLoads) 8 = o_aload 2 9 := rfl
theorem aX5_copyLoads_9 (K : Kt) : tl K (lX5_copyLoads) 9 = o_pushI (nI 0) 10 := rfl
theorem aX5_copyLoads_10 (K : Kt) : tl K (lX5_copyLoads) 10 = o_pushI (nI 20) 12 := rfl
theorem aX5_copyLoads_12 (K : Kt) : tl K (lX5_copyLoads) 12 = o_copyI 15 := rfl
theorem aX5_copyLoads_15 (K : Kt) : tl K (lX5_copyLoads) 15 = o_vret K := rfl
theorem eX3_open {As L : List Value} {w : Wd} {K : Kt} (hw : wds As ≤ 2) (hL : ent 2 As = L) (h : RR (tl K lX3_open) 0 L [] w) : fX3_open As w K := ⟨hw, by rw [hL]; exact h⟩
theorem nX3_open : MonoF fX3_open := mono_f 2 lX3_open
theorem aX3_open_0 (K : Kt) : tl K (lX3_open) 0 = o_aload 0 1 := rfl
theorem aX3_open_1 (K : Kt) : tl K (lX3_open) 1 = o_iload 1 2 := rfl
theorem aX3_open_2 (K : Kt) : tl K (lX3_open) 2 = o_putI 3 2 5 := rfl
theorem aX3_open_5 (K : Kt) : tl K (lX3_open) 5 = o_aload 0 6 := rfl
theorem aX3_open_6 (K : Kt) : tl K (lX3_open) 6 = o_get 3 0 9 := rfl
theorem aX3_open_9 (K : Kt) : tl K (lX3_open) 9 = o_get 1 1 12 := rfl
theorem aX3_open_12 (K : Kt) : tl K (lX3_open) 12 = o_iload 1 13 := rfl
theorem aX3_open_13 (K : Kt) : tl K (lX3_open) 13 = o_aload 0 14 := rfl
theorem aX3_open_14 (K : Kt) : tl K (lX3_open) 14 = o_get 3 1 17 := rfl
theorem aX3_open_17 (K : Kt) : tl K (lX3_open) 17 = o_callV fX5_copyLoads 2 5 20 := rfl
theorem aX3_open_20 (K : Kt) : tl K (lX3_open) 20 = o_vret K := rfl
theorem eX3_write {As L : List Value} {w : Wd} {K : Kt} (hw : wds As ≤ 3) (hL : ent 3 As = L) (h : RR (tl K lX3_write) 0 L [] w) : fX3_write As w K := ⟨hw, by rw [hL]; exact h⟩
theorem nX3_write : MonoF fX3_write := mono_f 3 lX3_write
theorem aX3_write_0 (K : Kt) : tl K (lX3_write) 0 = o_aload 0 1 := rfl
theorem aX3_write_1 (K : Kt) : tl K (lX3_write) 1 = o_get 3 1 4 := rfl
theorem aX3_write_4 (K : Kt) : tl K (lX3_write) 4 = o_iload 1 5 := rfl
theorem aX3_write_5 (K : Kt) : tl K (lX3_write) 5 = o_iload 2 6 := rfl
theorem aX3_write_6 (K : Kt) : tl K (lX3_write) 6 = o_iast 7 := rfl
theorem aX3_write_7 (K : Kt) : tl K (lX3_write) 7 = o_vret K := rfl
theorem eX0_mayHave {As L : List Value} {w : Wd} {K : Kt} (hw : wds As ≤ 3) (hL : ent 3 As = L) (h : RR (tl K lX0_mayHave) 0 L [] w) : fX0_mayHave As w K := ⟨hw, by rw [hL]; exact h⟩
theorem nX0_mayHave : MonoF fX0_mayHave := mono_f 3 lX0_mayHave
theorem aX0_mayHave_0 (K : Kt) : tl K (lX0_mayHave) 0 = o_aload 0 1 := rfl
theorem aX0_mayHave_1 (K : Kt) : tl K (lX0_mayHave) 1 = o_get 0 4 4 := rfl
theorem aX0_mayHave_4 (K : Kt) : tl K (lX0_mayHave) 4 = o_iload 1 5 := rfl
theorem aX0_mayHave_5 (K : Kt) : tl K (lX0_mayHave) 5 = o_iald 6 := rfl
theorem aX0_mayHave_6 (K : Kt) : tl K (lX0_mayHave) 6 = o_iload 2 7 := rfl
theorem aX0_mayHave_7 (K : Kt) : tl K (lX0_mayHave) 7 = o_iushr 8 := rfl
theorem aX0_mayHave_8 (K : Kt) : tl K (lX0_mayHave) 8 = o_pushI (nI 1) 9 := rfl
theorem aX0_mayHave_9 (K : Kt) : tl K (lX0_mayHave) 9 = o_iand 10 := rfl
theorem aX0_mayHave_10 (K : Kt) : tl K (lX0_mayHave) 10 = o_pushI (nI 1) 11 := rfl
theorem aX0_mayHave_11 (K : Kt) : tl K (lX0_mayHave) 11 = o_icmp_ne 18 14 := rfl
theorem aX0_mayHave_14 (K : Kt) : tl K (lX0_mayHave) 14 = o_pushI (nI 1) 15 := rfl
theorem aX0_mayHave_15 (K : Kt) : tl K (lX0_mayHave) 15 = o_goto 19 := rfl
theorem aX0_mayHave_18 (K : Kt) : tl K (lX0_mayHave) 18 = o_pushI (nI 0) 19 := rfl
theorem aX0_mayHave_19 (K : Kt) : tl K (lX0_mayHave) 19 = o_zret K := rfl
theorem eX9_daysFrom {As L : List Value} {w : Wd} {K : Kt} (hw : wds As ≤ 3) (hL : ent 3 As = L) (h : RR (tl K lX9_daysFrom) 0 L [] w) : fX9_daysFrom As w K := ⟨hw, by rw [hL]; exact h⟩
theorem nX9_daysFrom : MonoF fX9_daysFrom := mono_f 3 lX9_daysFrom
theorem aX9_daysFrom_0 (K : Kt) : tl K (lX9_daysFrom) 0 = o_aload 0 1 := rfl
theorem aX9_daysFrom_1 (K : Kt) : tl K (lX9_daysFrom) 1 = o_get 9 5 4 := rfl
theorem aX9_daysFrom_4 (K : Kt) : tl K (lX9_daysFrom) 4 = o_iload 2 5 := rfl
theorem aX9_daysFrom_5 (K : Kt) : tl K (lX9_daysFrom) 5 = o_pushI (nI 3) 6 := rfl
theorem aX9_daysFrom_6 (K : Kt) : tl K (lX9_daysFrom) 6 = o_imul 7 := rfl
theorem aX9_daysFrom_7 (K : Kt) : tl K (lX9_daysFrom) 7 = o_pushI (nI 0) 8 := rfl
theorem aX9_daysFrom_8 (K : Kt) : tl K (lX9_daysFrom) 8 = o_iadd 9 := rfl
theorem aX9_daysFrom_9 (K : Kt) : tl K (lX9_daysFrom) 9 = o_iald 10 := rfl
theorem aX9_daysFrom_10 (K : Kt) : tl K (lX9_daysFrom) 10 = o_aload 0 11 := rfl
theorem aX9_daysFrom_11 (K : Kt) : tl K (lX9_daysFrom) 11 = o_get 9 5 14 := rfl
theorem aX9_daysFrom_14 (K : Kt) : tl K (lX9_daysFrom) 14 = o_iload 1 15 := rfl
theorem aX9_daysFrom_15 (K : Kt) : tl K (lX9_daysFrom) 15 = o_pushI (nI 3) 16 := rfl
theorem aX9_daysFrom_16 (K : Kt) : tl K (lX9_daysFrom) 16 = o_imul 17 := rfl
theorem aX9_daysFrom_17 (K : Kt) : tl K (lX9_daysFrom) 17 = o_pushI (nI 0) 18 := rfl
theorem aX9_daysFrom_18 (K : Kt) : tl K (lX9_daysFrom) 18 = o_iadd 19 := rfl
theorem aX9_daysFrom_19 (K : Kt) : tl K (lX9_daysFrom) 19 = o_iald 20 := rfl
theorem aX9_daysFrom_20 (K : Kt) : tl K (lX9_daysFrom) 20 = o_isub 21 := rfl
theorem aX9_daysFrom_21 (K : Kt) : tl K (lX9_daysFrom) 21 = o_iret K := rfl
theorem eX9_restAfter {As L : List Value} {w : Wd} {K : Kt} (hw : wds As ≤ 3) (hL : ent 3 As = L) (h : RR (tl K lX9_restAfter) 0 L [] w) : fX9_restAfter As w K := ⟨hw, by rw [hL]; exact h⟩
theorem nX9_restAfter : MonoF fX9_restAfter := mono_f 3 lX9_restAfter
theorem aX9_restAfter_0 (K : Kt) : tl K (lX9_restAfter) 0 = o_aload 0 1 := rfl
theorem aX9_restAfter_1 (K : Kt) : tl K (lX9_restAfter) 1 = o_get 9 7 4 := rfl
theorem aX9_restAfter_4 (K : Kt) : tl K (lX9_restAfter) 4 = o_pushI (nI 1) 5 := rfl
theorem aX9_restAfter_5 (K : Kt) : tl K (lX9_restAfter) 5 = o_isub 6 := rfl
theorem aX9_restAfter_6 (K : Kt) : tl K (lX9_restAfter) 6 = o_istore 2 7 := rfl
theorem aX9_restAfter_7 (K : Kt) : tl K (lX9_restAfter) 7 = o_iload 2 8 := rfl
theorem aX9_restAfter_8 (K : Kt) : tl K (lX9_restAfter) 8 = o_if_lt 34 11 := rfl
theorem aX9_restAfter_11 (K : Kt) : tl K (lX9_restAfter) 11 = o_aload 0 12 := rfl
theorem aX9_restAfter_12 (K : Kt) : tl K (lX9_restAfter) 12 = o_get 9 8 15 := rfl
theorem aX9_restAfter_15 (K : Kt) : tl K (lX9_restAfter) 15 = o_iload 2 16 := rfl
theorem aX9_restAfter_16 (K : Kt) : tl K (lX9_restAfter) 16 = o_iald 17 := rfl
theorem aX9_restAfter_17 (K : Kt) : tl K (lX9_restAfter) 17 = o_iload 1 18 := rfl
theorem aX9_restAfter_18 (K : Kt) : tl K (lX9_restAfter) 18 = o_icmp_gt 28 21 := rfl
theorem aX9_restAfter_21 (K : Kt) : tl K (lX9_restAfter) 21 = o_aload 0 22 := rfl
theorem aX9_restAfter_22 (K : Kt) : tl K (lX9_restAfter) 22 = o_get 9 9 25 := rfl
theorem aX9_restAfter_25 (K : Kt) : tl K (lX9_restAfter) 25 = o_iload 2 26 := rfl
theorem aX9_restAfter_26 (K : Kt) : tl K (lX9_restAfter) 26 = o_iald 27 := rfl
theorem aX9_restAfter_27 (K : Kt) : tl K (lX9_restAfter) 27 = o_iret K := rfl
theorem aX9_restAfter_28 (K : Kt) : tl K (lX9_restAfter) 28 = o_iinc 2 ((-1)) 31 := rfl
theorem aX9_restAfter_31 (K : Kt) : tl K (lX9_restAfter) 31 = o_goto 7 := rfl
theorem aX9_restAfter_34 (K : Kt) : tl K (lX9_restAfter) 34 = o_pushI (nI 0) 35 := rfl
theorem aX9_restAfter_35 (K : Kt) : tl K (lX9_restAfter) 35 = o_iret K := rfl
theorem eX3_isRested {As L : List Value} {w : Wd} {K : Kt} (hw : wds As ≤ 3) (hL : ent 3 As = L) (h : RR (tl K lX3_isRested) 0 L [] w) : fX3_isRested As w K := ⟨hw, by rw [hL]; exact h⟩
theorem nX3_isRested : MonoF fX3_isRested := mono_f 3 lX3_isRested
theorem aX3_isRested_0 (K : Kt) : tl K (lX3_isRested) 0 = o_pushI (nI 0) 1 := rfl
theorem aX3_isRested_1 (K : Kt) : tl K (lX3_isRested) 1 = o_istore 2 2 := rfl
theorem aX3_isRested_2 (K : Kt) : tl K (lX3_isRested) 2 = o_iload 2 3 := rfl
theorem aX3_isRested_3 (K : Kt) : tl K (lX3_isRested) 3 = o_iload 1 4 := rfl
theorem aX3_isRested_4 (K : Kt) : tl K (lX3_isRested) 4 = o_icmp_ge 55 7 := rfl
theorem aX3_isRested_7 (K : Kt) : tl K (lX3_isRested) 7 = o_aload 0 8 := rfl
theorem aX3_isRested_8 (K : Kt) : tl K (lX3_isRested) 8 = o_get 3 1 11 := rfl
theorem aX3_isRested_11 (K : Kt) : tl K (lX3_isRested) 11 = o_iload 2 12 := rfl
theorem aX3_isRested_12 (K : Kt) : tl K (lX3_isRested) 12 = o_iald 13 := rfl
theorem aX3_isRested_13 (K : Kt) : tl K (lX3_isRested) 13 = o_if_le 49 16 := rfl
theorem aX3_isRested_16 (K : Kt) : tl K (lX3_isRested) 16 = o_aload 0 17 := rfl
theorem aX3_isRested_17 (K : Kt) : tl K (lX3_isRested) 17 = o_get 3 0 20 := rfl
theorem aX3_isRested_20 (K : Kt) : tl K (lX3_isRested) 20 = o_get 1 0 23 := rfl
theorem aX3_isRested_23 (K : Kt) : tl K (lX3_isRested) 23 = o_iload 2 24 := rfl
theorem aX3_isRested_24 (K : Kt) : tl K (lX3_isRested) 24 = o_iload 1 25 := rfl
theorem aX3_isRested_25 (K : Kt) : tl K (lX3_isRested) 25 = o_callV fX9_daysFrom 2 9 28 := rfl
theorem aX3_isRested_28 (K : Kt) : tl K (lX3_isRested) 28 = o_aload 0 29 := rfl
theorem aX3_isRested_29 (K : Kt) : tl K (lX3_isRested) 29 = o_get 3 0 32 := rfl
theorem aX3_isRested_32 (K : Kt) : tl K (lX3_isRested) 32 = o_get 1 0 35 := rfl
theorem aX3_isRested_35 (K : Kt) : tl K (lX3_isRested) 35 = o_aload 0 36 := rfl
theorem aX3_isRested_36 (K : Kt) : tl K (lX3_isRested) 36 = o_get 3 1 39 := rfl
theorem aX3_isRested_39 (K : Kt) : tl K (lX3_isRested) 39 = o_iload 2 40 := rfl
theorem aX3_isRested_40 (K : Kt) : tl K (lX3_isRested) 40 = o_iald 41 := rfl
theorem aX3_isRested_41 (K : Kt) : tl K (lX3_isRested) 41 = o_callV fX9_restAfter 1 9 44 := rfl
theorem aX3_isRested_44 (K : Kt) : tl K (lX3_isRested) 44 = o_icmp_gt 49 47 := rfl
theorem aX3_isRested_47 (K : Kt) : tl K (lX3_isRested) 47 = o_pushI (nI 0) 48 := rfl
theorem aX3_isRested_48 (K : Kt) : tl K (lX3_isRested) 48 = o_zret K := rfl
theorem aX3_isRested_49 (K : Kt) : tl K (lX3_isRested) 49 = o_iinc 2 (nI 1) 52 := rfl
theorem aX3_isRested_52 (K : Kt) : tl K (lX3_isRested) 52 = o_goto 2 := rfl
theorem aX3_isRested_55 (K : Kt) : tl K (lX3_isRested) 55 = o_pushI (nI 1) 56 := rfl
theorem aX3_isRested_56 (K : Kt) : tl K (lX3_isRested) 56 = o_zret K := rfl
theorem eX3_daysToNext {As L : List Value} {w : Wd} {K : Kt} (hw : wds As ≤ 3) (hL : ent 3 As = L) (h : RR (tl K lX3_daysToNext) 0 L [] w) : fX3_daysToNext As w K := ⟨hw, by rw [hL]; exact h⟩
theorem nX3_daysToNext : MonoF fX3_daysToNext := mono_f 3 lX3_daysToNext
theorem aX3_daysToNext_0 (K : Kt) : tl K (lX3_daysToNext) 0 = o_iload 1 1 := rfl
theorem aX3_daysToNext_1 (K : Kt) : tl K (lX3_daysToNext) 1 = o_pushI (nI 1) 2 := rfl
theorem aX3_daysToNext_2 (K : Kt) : tl K (lX3_daysToNext) 2 = o_iadd 3 := rfl
theorem aX3_daysToNext_3 (K : Kt) : tl K (lX3_daysToNext) 3 = o_istore 2 4 := rfl
theorem aX3_daysToNext_4 (K : Kt) : tl K (lX3_daysToNext) 4 = o_iload 2 5 := rfl
theorem aX3_daysToNext_5 (K : Kt) : tl K (lX3_daysToNext) 5 = o_aload 0 6 := rfl
theorem aX3_daysToNext_6 (K : Kt) : tl K (lX3_daysToNext) 6 = o_get 3 0 9 := rfl
theorem aX3_daysToNext_9 (K : Kt) : tl K (lX3_daysToNext) 9 = o_get 1 0 12 := rfl
theorem aX3_daysToNext_12 (K : Kt) : tl K (lX3_daysToNext) 12 = o_get 9 4 15 := rfl
theorem aX3_daysToNext_15 (K : Kt) : tl K (lX3_daysToNext) 15 = o_icmp_ge 46 18 := rfl
theorem aX3_daysToNext_18 (K : Kt) : tl K (lX3_daysToNext) 18 = o_aload 0 19 := rfl
theorem aX3_daysToNext_19 (K : Kt) : tl K (lX3_daysToNext) 19 = o_get 3 1 22 := rfl
theorem aX3_daysToNext_22 (K : Kt) : tl K (lX3_daysToNext) 22 = o_iload 2 23 := rfl
theorem aX3_daysToNext_23 (K : Kt) : tl K (lX3_daysToNext) 23 = o_iald 24 := rfl
theorem aX3_daysToNext_24 (K : Kt) : tl K (lX3_daysToNext) 24 = o_if_le 40 27 := rfl
theorem aX3_daysToNext_27 (K : Kt) : tl K (lX3_daysToNext) 27 = o_aload 0 28 := rfl
theorem aX3_daysToNext_28 (K : Kt) : tl K (lX3_daysToNext) 28 = o_get 3 0 31 := rfl
theorem aX3_daysToNext_31 (K : Kt) : tl K (lX3_daysToNext) 31 = o_get 1 0 34 := rfl
theorem aX3_daysToNext_34 (K : Kt) : tl K (lX3_daysToNext) 34 = o_iload 1 35 := rfl
theorem aX3_daysToNext_35 (K : Kt) : tl K (lX3_daysToNext) 35 = o_iload 2 36 := rfl
theorem aX3_daysToNext_36 (K : Kt) : tl K (lX3_daysToNext) 36 = o_callV fX9_daysFrom 2 9 39 := rfl
theorem aX3_daysToNext_39 (K : Kt) : tl K (lX3_daysToNext) 39 = o_iret K := rfl
theorem aX3_daysToNext_40 (K : Kt) : tl K (lX3_daysToNext) 40 = o_iinc 2 (nI 1) 43 := rfl
theorem aX3_daysToNext_43 (K : Kt) : tl K (lX3_daysToNext) 43 = o_goto 4 := rfl
theorem aX3_daysToNext_46 (K : Kt) : tl K (lX3_daysToNext) 46 = o_pushI (nI 1000000) 48 := rfl
theorem aX3_daysToNext_48 (K : Kt) : tl K (lX3_daysToNext) 48 = o_iret K := rfl
theorem eX3_weekFrom {As L : List Value} {w : Wd} {K : Kt} (hw : wds As ≤ 5) (hL : ent 5 As = L) (h : RR (tl K lX3_weekFrom) 0 L [] w) : fX3_weekFrom As w K := ⟨hw, by rw [hL]; exact h⟩
theorem nX3_weekFrom : MonoF fX3_weekFrom := mono_f 5 lX3_weekFrom
theorem aX3_weekFrom_0 (K : Kt) : tl K (lX3_weekFrom) 0 = o_pushI (nI 0) 1 := rfl
theorem aX3_weekFrom_1 (K : Kt) : tl K (lX3_weekFrom) 1 = o_istore 3 2 := rfl
theorem aX3_weekFrom_2 (K : Kt) : tl K (lX3_weekFrom) 2 = o_iload 1 3 := rfl
theorem aX3_weekFrom_3 (K : Kt) : tl K (lX3_weekFrom) 3 = o_istore 4 5 := rfl
theorem aX3_weekFrom_5 (K : Kt) : tl K (lX3_weekFrom) 5 = o_iload 4 7 := rfl
theorem aX3_weekFrom_7 (K : Kt) : tl K (lX3_weekFrom) 7 = o_aload 0 8 := rfl
theorem aX3_weekFrom_8 (K : Kt) : tl K (lX3_weekFrom) 8 = o_get 3 0 11 := rfl
theorem aX3_weekFrom_11 (K : Kt) : tl K (lX3_weekFrom) 11 = o_get 1 0 14 := rfl
theorem aX3_weekFrom_14 (K : Kt) : tl K (lX3_weekFrom) 14 = o_get 9 4 17 := rfl
theorem aX3_weekFrom_17 (K : Kt) : tl K (lX3_weekFrom) 17 = o_icmp_ge 67 20 := rfl
theorem aX3_weekFrom_20 (K : Kt) : tl K (lX3_weekFrom) 20 = o_aload 0 21 := rfl
theorem aX3_weekFrom_21 (K : Kt) : tl K (lX3_weekFrom) 21 = o_get 3 0 24 := rfl
theorem aX3_weekFrom_24 (K : Kt) : tl K (lX3_weekFrom) 24 = o_get 1 0 27 := rfl
theorem aX3_weekFrom_27 (K : Kt) : tl K (lX3_weekFrom) 27 = o_iload 1 28 := rfl
theorem aX3_weekFrom_28 (K : Kt) : tl K (lX3_weekFrom) 28 = o_iload 4 30 := rfl
theorem aX3_weekFrom_30 (K : Kt) : tl K (lX3_weekFrom) 30 = o_callV fX9_daysFrom 2 9 33 := rfl
theorem aX3_weekFrom_33 (K : Kt) : tl K (lX3_weekFrom) 33 = o_pushI (nI 7) 35 := rfl
theorem aX3_weekFrom_35 (K : Kt) : tl K (lX3_weekFrom) 35 = o_icmp_lt 41 38 := rfl
theorem aX3_weekFrom_38 (K : Kt) : tl K (lX3_weekFrom) 38 = o_goto 67 := rfl
theorem aX3_weekFrom_41 (K : Kt) : tl K (lX3_weekFrom) 41 = o_iload 3 42 := rfl
theorem aX3_weekFrom_42 (K : Kt) : tl K (lX3_weekFrom) 42 = o_iload 4 44 := rfl
theorem aX3_weekFrom_44 (K : Kt) : tl K (lX3_weekFrom) 44 = o_iload 2 45 := rfl
theorem aX3_weekFrom_45 (K : Kt) : tl K (lX3_weekFrom) 45 = o_icmp_ne 52 48 := rfl
theorem aX3_weekFrom_48 (K : Kt) : tl K (lX3_weekFrom) 48 = o_pushI (nI 0) 49 := rfl
theorem aX3_weekFrom_49 (K : Kt) : tl K (lX3_weekFrom) 49 = o_goto 59 := rfl
theorem aX3_weekFrom_52 (K : Kt) : tl K (lX3_weekFrom) 52 = o_aload 0 53 := rfl
theorem aX3_weekFrom_53 (K : Kt) : tl K (lX3_weekFrom) 53 = o_get 3 1 56 := rfl
theorem aX3_weekFrom_56 (K : Kt) : tl K (lX3_weekFrom) 56 = o_iload 4 58 := rfl
theorem aX3_weekFrom_58 (K : Kt) : tl K (lX3_weekFrom) 58 = o_iald 59 := rfl
theorem aX3_weekFrom_59 (K : Kt) : tl K (lX3_weekFrom) 59 = o_iadd 60 := rfl
theorem aX3_weekFrom_60 (K : Kt) : tl K (lX3_weekFrom) 60 = o_istore 3 61 := rfl
theorem aX3_weekFrom_61 (K : Kt) : tl K (lX3_weekFrom) 61 = o_iinc 4 (nI 1) 64 := rfl
theorem aX3_weekFrom_64 (K : Kt) : tl K (lX3_weekFrom) 64 = o_goto 5 := rfl
theorem aX3_weekFrom_67 (K : Kt) : tl K (lX3_weekFrom) 67 = o_iload 3 68 := rfl
theorem aX3_weekFrom_68 (K : Kt) : tl K (lX3_weekFrom) 68 = o_iret K := rfl
theorem eX3_roomInWeek {As L : List Value} {w : Wd} {K : Kt} (hw : wds As ≤ 5) (hL : ent 5 As = L) (h : RR (tl K lX3_roomInWeek) 0 L [] w) : fX3_roomInWeek As w K := ⟨hw, by rw [hL]; exact h⟩
theorem nX3_roomInWeek : MonoF fX3_roomInWeek := mono_f 5 lX3_roomInWeek
theorem aX3_roomInWeek_0 (K : Kt) : tl K (lX3_roomInWeek) 0 = o_aload 0 1 := rfl
theorem aX3_roomInWeek_1 (K : Kt) : tl K (lX3_roomInWeek) 1 = o_get 3 0 4 := rfl
theorem aX3_roomInWeek_4 (K : Kt) : tl K (lX3_roomInWeek) 4 = o_get 1 0 7 := rfl
theorem aX3_roomInWeek_7 (K : Kt) : tl K (lX3_roomInWeek) 7 = o_get 9 6 10 := rfl
theorem aX3_roomInWeek_10 (K : Kt) : tl K (lX3_roomInWeek) 10 = o_pushI (nI 0) 11 := rfl
theorem aX3_roomInWeek_11 (K : Kt) : tl K (lX3_roomInWeek) 11 = o_iald 12 := rfl
theorem aX3_roomInWeek_12 (K : Kt) : tl K (lX3_roomInWeek) 12 = o_istore 2 13 := rfl
theorem aX3_roomInWeek_13 (K : Kt) : tl K (lX3_roomInWeek) 13 = o_iload 2 14 := rfl
theorem aX3_roomInWeek_14 (K : Kt) : tl K (lX3_roomInWeek) 14 = o_if_ne 20 17 := rfl
theorem aX3_roomInWeek_17 (K : Kt) : tl K (lX3_roomInWeek) 17 = o_pushI (nI 1000000) 19 := rfl
theorem aX3_roomInWeek_19 (K : Kt) : tl K (lX3_roomInWeek) 19 = o_iret K := rfl
theorem aX3_roomInWeek_20 (K : Kt) : tl K (lX3_roomInWeek) 20 = o_pushI (nI 0) 21 := rfl
theorem aX3_roomInWeek_21 (K : Kt) : tl K (lX3_roomInWeek) 21 = o_istore 3 22 := rfl
theorem aX3_roomInWeek_22 (K : Kt) : tl K (lX3_roomInWeek) 22 = o_iload 1 23 := rfl
theorem aX3_roomInWeek_23 (K : Kt) : tl K (lX3_roomInWeek) 23 = o_istore 4 25 := rfl
theorem aX3_roomInWeek_25 (K : Kt) : tl K (lX3_roomInWeek) 25 = o_iload 4 27 := rfl
theorem aX3_roomInWeek_27 (K : Kt) : tl K (lX3_roomInWeek) 27 = o_if_lt 69 30 := rfl
theorem aX3_roomInWeek_30 (K : Kt) : tl K (lX3_roomInWeek) 30 = o_aload 0 31 := rfl
theorem aX3_roomInWeek_31 (K : Kt) : tl K (lX3_roomInWeek) 31 = o_get 3 0 34 := rfl
theorem aX3_roomInWeek_34 (K : Kt) : tl K (lX3_roomInWeek) 34 = o_get 1 0 37 := rfl
theorem aX3_roomInWeek_37 (K : Kt) : tl K (lX3_roomInWeek) 37 = o_iload 4 39 := rfl
theorem aX3_roomInWeek_39 (K : Kt) : tl K (lX3_roomInWeek) 39 = o_iload 1 40 := rfl
theorem aX3_roomInWeek_40 (K : Kt) : tl K (lX3_roomInWeek) 40 = o_callV fX9_daysFrom 2 9 43 := rfl
theorem aX3_roomInWeek_43 (K : Kt) : tl K (lX3_roomInWeek) 43 = o_pushI (nI 7) 45 := rfl
theorem aX3_roomInWeek_45 (K : Kt) : tl K (lX3_roomInWeek) 45 = o_icmp_lt 51 48 := rfl
theorem aX3_roomInWeek_48 (K : Kt) : tl K (lX3_roomInWeek) 48 = o_goto 69 := rfl
theorem aX3_roomInWeek_51 (K : Kt) : tl K (lX3_roomInWeek) 51 = o_iload 3 52 := rfl
theorem aX3_roomInWeek_52 (K : Kt) : tl K (lX3_roomInWeek) 52 = o_aload 0 53 := rfl
theorem aX3_roomInWeek_53 (K : Kt) : tl K (lX3_roomInWeek) 53 = o_iload 4 55 := rfl
theorem aX3_roomInWeek_55 (K : Kt) : tl K (lX3_roomInWeek) 55 = o_iload 1 56 := rfl
theorem aX3_roomInWeek_56 (K : Kt) : tl K (lX3_roomInWeek) 56 = o_callV fX3_weekFrom 2 3 59 := rfl
theorem aX3_roomInWeek_59 (K : Kt) : tl K (lX3_roomInWeek) 59 = o_max 62 := rfl
theorem aX3_roomInWeek_62 (K : Kt) : tl K (lX3_roomInWeek) 62 = o_istore 3 63 := rfl
theorem aX3_roomInWeek_63 (K : Kt) : tl K (lX3_roomInWeek) 63 = o_iinc 4 ((-1)) 66 := rfl
theorem aX3_roomInWeek_66 (K : Kt) : tl K (lX3_roomInWeek) 66 = o_goto 25 := rfl
theorem aX3_roomInWeek_69 (K : Kt) : tl K (lX3_roomInWeek) 69 = o_iload 2 70 := rfl
theorem aX3_roomInWeek_70 (K : Kt) : tl K (lX3_roomInWeek) 70 = o_iload 3 71 := rfl
theorem aX3_roomInWeek_71 (K : Kt) : tl K (lX3_roomInWeek) 71 = o_isub 72 := rfl
theorem aX3_roomInWeek_72 (K : Kt) : tl K (lX3_roomInWeek) 72 = o_iret K := rfl
theorem eX3_clashes {As L : List Value} {w : Wd} {K : Kt} (hw : wds As ≤ 4) (hL : ent 4 As = L) (h : RR (tl K lX3_clashes) 0 L [] w) : fX3_clashes As w K := ⟨hw, by rw [hL]; exact h⟩
theorem nX3_clashes : MonoF fX3_clashes := mono_f 4 lX3_clashes
theorem aX3_clashes_0 (K : Kt) : tl K (lX3_clashes) 0 = o_pushI (nI 0) 1 := rfl
theorem aX3_clashes_1 (K : Kt) : tl K (lX3_clashes) 1 = o_istore 3 2 := rfl
theorem aX3_clashes_2 (K : Kt) : tl K (lX3_clashes) 2 = o_iload 2 3 := rfl
theorem aX3_clashes_3 (K : Kt) : tl K (lX3_clashes) 3 = o_aload 0 4 := rfl
theorem aX3_clashes_4 (K : Kt) : tl K (lX3_clashes) 4 = o_get 3 0 7 := rfl
theorem aX3_clashes_7 (K : Kt) : tl K (lX3_clashes) 7 = o_get 1 0 10 := rfl
theorem aX3_clashes_10 (K : Kt) : tl K (lX3_clashes) 10 = o_aload 0 11 := rfl
theorem aX3_clashes_11 (K : Kt) : tl K (lX3_clashes) 11 = o_get 3 2 14 := rfl
theorem aX3_clashes_14 (K : Kt) : tl K (lX3_clashes) 14 = o_pushI (nI 1) 15 := rfl
theorem aX3_clashes_15 (K : Kt) : tl K (lX3_clashes) 15 = o_callV fX9_trait 2 9 18 := rfl
theorem aX3_clashes_18 (K : Kt) : tl K (lX3_clashes) 18 = o_icmp_le 25 21 := rfl
theorem aX3_clashes_21 (K : Kt) : tl K (lX3_clashes) 21 = o_iload 3 22 := rfl
theorem aX3_clashes_22 (K : Kt) : tl K (lX3_clashes) 22 = o_pushI (nI 1) 23 := rfl
theorem aX3_clashes_23 (K : Kt) : tl K (lX3_clashes) 23 = o_ior 24 := rfl
theorem aX3_clashes_24 (K : Kt) : tl K (lX3_clashes) 24 = o_istore 3 25 := rfl
theorem aX3_clashes_25 (K : Kt) : tl K (lX3_clashes) 25 = o_aload 0 26 := rfl
theorem aX3_clashes_26 (K : Kt) : tl K (lX3_clashes) 26 = o_iload 1 27 := rfl
theorem aX3_clashes_27 (K : Kt) : tl K (lX3_clashes) 27 = o_callV fX3_isRested 1 3 30 := rfl
theorem aX3_clashes_30 (K : Kt) : tl K (lX3_clashes) 30 = o_if_ne 37 33 := rfl
theorem aX3_clashes_33 (K : Kt) : tl K (lX3_clashes) 33 = o_iload 3 34 := rfl
theorem aX3_clashes_34 (K : Kt) : tl K (lX3_clashes) 34 = o_pushI (nI 2) 35 := rfl
theorem aX3_clashes_35 (K : Kt) : tl K (lX3_clashes) 35 = o_ior 36 := rfl
theorem aX3_clashes_36 (K : Kt) : tl K (lX3_clashes) 36 = o_istore 3 37 := rfl
theorem aX3_clashes_37 (K : Kt) : tl K (lX3_clashes) 37 = o_aload 0 38 := rfl
theorem aX3_clashes_38 (K : Kt) : tl K (lX3_clashes) 38 = o_get 3 0 41 := rfl
theorem aX3_clashes_41 (K : Kt) : tl K (lX3_clashes) 41 = o_get 1 0 44 := rfl
theorem aX3_clashes_44 (K : Kt) : tl K (lX3_clashes) 44 = o_iload 2 45 := rfl
theorem aX3_clashes_45 (K : Kt) : tl K (lX3_clashes) 45 = o_callV fX9_restAfter 1 9 48 := rfl
theorem aX3_clashes_48 (K : Kt) : tl K (lX3_clashes) 48 = o_aload 0 49 := rfl
theorem aX3_clashes_49 (K : Kt) : tl K (lX3_clashes) 49 = o_iload 1 50 := rfl
theorem aX3_clashes_50 (K : Kt) : tl K (lX3_clashes) 50 = o_callV fX3_daysToNext 1 3 53 := rfl
theorem aX3_clashes_53 (K : Kt) : tl K (lX3_clashes) 53 = o_icmp_lt 60 56 := rfl
theorem aX3_clashes_56 (K : Kt) : tl K (lX3_clashes) 56 = o_iload 3 57 := rfl
theorem aX3_clashes_57 (K : Kt) : tl K (lX3_clashes) 57 = o_pushI (nI 4) 58 := rfl
theorem aX3_clashes_58 (K : Kt) : tl K (lX3_clashes) 58 = o_ior 59 := rfl
theorem aX3_clashes_59 (K : Kt) : tl K (lX3_clashes) 59 = o_istore 3 60 := rfl
theorem aX3_clashes_60 (K : Kt) : tl K (lX3_clashes) 60 = o_iload 2 61 := rfl
theorem aX3_clashes_61 (K : Kt) : tl K (lX3_clashes) 61 = o_aload 0 62 := rfl
theorem aX3_clashes_62 (K : Kt) : tl K (lX3_clashes) 62 = o_iload 1 63 := rfl
theorem aX3_clashes_63 (K : Kt) : tl K (lX3_clashes) 63 = o_callV fX3_roomInWeek 1 3 66 := rfl
theorem aX3_clashes_66 (K : Kt) : tl K (lX3_clashes) 66 = o_icmp_le 74 69 := rfl
theorem aX3_clashes_69 (K : Kt) : tl K (lX3_clashes) 69 = o_iload 3 70 := rfl
theorem aX3_clashes_70 (K : Kt) : tl K (lX3_clashes) 70 = o_pushI (nI 8) 72 := rfl
theorem aX3_clashes_72 (K : Kt) : tl K (lX3_clashes) 72 = o_ior 73 := rfl
theorem aX3_clashes_73 (K : Kt) : tl K (lX3_clashes) 73 = o_istore 3 74 := rfl
theorem aX3_clashes_74 (K : Kt) : tl K (lX3_clashes) 74 = o_iload 3 75 := rfl
theorem aX3_clashes_75 (K : Kt) : tl K (lX3_clashes) 75 = o_iret K := rfl
theorem eX0_fitsTogether {As L : List Value} {w : Wd} {K : Kt} (hw : wds As ≤ 6) (hL : ent 6 As = L) (h : RR (tl K lX0_fitsTogether) 0 L [] w) : fX0_fitsTogether As w K := ⟨hw, by rw [hL]; exact h⟩
theorem nX0_fitsTogether : MonoF fX0_fitsTogether := mono_f 6 lX0_fitsTogether
theorem aX0_fitsTogether_0 (K : Kt) : tl K (lX0_fitsTogether) 0 = o_pushI (nI 0) 1 := rfl
theorem aX0_fitsTogether_1 (K : Kt) : tl K (lX0_fitsTogether) 1 = o_istore 3 2 := rfl
theorem aX0_fitsTogether_2 (K : Kt) : tl K (lX0_fitsTogether) 2 = o_pushI (nI 0) 3 := rfl
theorem aX0_fitsTogether_3 (K : Kt) : tl K (lX0_fitsTogether) 3 = o_istore 4 5 := rfl
theorem aX0_fitsTogether_5 (K : Kt) : tl K (lX0_fitsTogether) 5 = o_iload 4 7 := rfl
theorem aX0_fitsTogether_7 (K : Kt) : tl K (lX0_fitsTogether) 7 = o_aload 0 8 := rfl
theorem aX0_fitsTogether_8 (K : Kt) : tl K (lX0_fitsTogether) 8 = o_get 0 3 11 := rfl
theorem aX0_fitsTogether_11 (K : Kt) : tl K (lX0_fitsTogether) 11 = o_icmp_ge 87 14 := rfl
theorem aX0_fitsTogether_14 (K : Kt) : tl K (lX0_fitsTogether) 14 = o_iload 2 15 := rfl
theorem aX0_fitsTogether_15 (K : Kt) : tl K (lX0_fitsTogether) 15 = o_iload 4 17 := rfl
theorem aX0_fitsTogether_17 (K : Kt) : tl K (lX0_fitsTogether) 17 = o_iushr 18 := rfl
theorem aX0_fitsTogether_18 (K : Kt) : tl K (lX0_fitsTogether) 18 = o_pushI (nI 1) 19 := rfl
theorem aX0_fitsTogether_19 (K : Kt) : tl K (lX0_fitsTogether) 19 = o_iand 20 := rfl
theorem aX0_fitsTogether_20 (K : Kt) : tl K (lX0_fitsTogether) 20 = o_pushI (nI 1) 21 := rfl
theorem aX0_fitsTogether_21 (K : Kt) : tl K (lX0_fitsTogether) 21 = o_icmp_ne 28 24 := rfl
theorem aX0_fitsTogether_24 (K : Kt) : tl K (lX0_fitsTogether) 24 = o_pushI (nI 1) 25 := rfl
theorem aX0_fitsTogether_25 (K : Kt) : tl K (lX0_fitsTogether) 25 = o_goto 29 := rfl
theorem aX0_fitsTogether_28 (K : Kt) : tl K (lX0_fitsTogether) 28 = o_pushI (nI 0) 29 := rfl
theorem aX0_fitsTogether_29 (K : Kt) : tl K (lX0_fitsTogether) 29 = o_istore 5 31 := rfl
theorem aX0_fitsTogether_31 (K : Kt) : tl K (lX0_fitsTogether) 31 = o_aload 0 32 := rfl
theorem aX0_fitsTogether_32 (K : Kt) : tl K (lX0_fitsTogether) 32 = o_get 0 1 35 := rfl
theorem aX0_fitsTogether_35 (K : Kt) : tl K (lX0_fitsTogether) 35 = o_aload 0 36 := rfl
theorem aX0_fitsTogether_36 (K : Kt) : tl K (lX0_fitsTogether) 36 = o_get 0 2 39 := rfl
theorem aX0_fitsTogether_39 (K : Kt) : tl K (lX0_fitsTogether) 39 = o_iload 4 41 := rfl
theorem aX0_fitsTogether_41 (K : Kt) : tl K (lX0_fitsTogether) 41 = o_iadd 42 := rfl
theorem aX0_fitsTogether_42 (K : Kt) : tl K (lX0_fitsTogether) 42 = o_iload 5 44 := rfl
theorem aX0_fitsTogether_44 (K : Kt) : tl K (lX0_fitsTogether) 44 = o_if_eq 65 47 := rfl
theorem aX0_fitsTogether_47 (K : Kt) : tl K (lX0_fitsTogether) 47 = o_aload 0 48 := rfl
theorem aX0_fitsTogether_48 (K : Kt) : tl K (lX0_fitsTogether) 48 = o_get 0 0 51 := rfl
theorem aX0_fitsTogether_51 (K : Kt) : tl K (lX0_fitsTogether) 51 = o_iload 1 52 := rfl
theorem aX0_fitsTogether_52 (K : Kt) : tl K (lX0_fitsTogether) 52 = o_aload 0 53 := rfl
theorem aX0_fitsTogether_53 (K : Kt) : tl K (lX0_fitsTogether) 53 = o_get 0 2 56 := rfl
theorem aX0_fitsTogether_56 (K : Kt) : tl K (lX0_fitsTogether) 56 = o_iload 4 58 := rfl
theorem aX0_fitsTogether_58 (K : Kt) : tl K (lX0_fitsTogether) 58 = o_iadd 59 := rfl
theorem aX0_fitsTogether_59 (K : Kt) : tl K (lX0_fitsTogether) 59 = o_callV fX1_fullThrows 2 1 62 := rfl
theorem aX0_fitsTogether_62 (K : Kt) : tl K (lX0_fitsTogether) 62 = o_goto 66 := rfl
theorem aX0_fitsTogether_65 (K : Kt) : tl K (lX0_fitsTogether) 65 = o_pushI (nI 0) 66 := rfl
theorem aX0_fitsTogether_66 (K : Kt) : tl K (lX0_fitsTogether) 66 = o_callV fX3_write 2 3 69 := rfl
theorem aX0_fitsTogether_69 (K : Kt) : tl K (lX0_fitsTogether) 69 = o_iload 5 71 := rfl
theorem aX0_fitsTogether_71 (K : Kt) : tl K (lX0_fitsTogether) 71 = o_if_eq 79 74 := rfl
theorem aX0_fitsTogether_74 (K : Kt) : tl K (lX0_fitsTogether) 74 = o_iload 4 76 := rfl
theorem aX0_fitsTogether_76 (K : Kt) : tl K (lX0_fitsTogether) 76 = o_goto 80 := rfl
theorem aX0_fitsTogether_79 (K : Kt) : tl K (lX0_fitsTogether) 79 = o_iload 3 80 := rfl
theorem aX0_fitsTogether_80 (K : Kt) : tl K (lX0_fitsTogether) 80 = o_istore 3 81 := rfl
theorem aX0_fitsTogether_81 (K : Kt) : tl K (lX0_fitsTogether) 81 = o_iinc 4 (nI 1) 84 := rfl
theorem aX0_fitsTogether_84 (K : Kt) : tl K (lX0_fitsTogether) 84 = o_goto 5 := rfl
theorem aX0_fitsTogether_87 (K : Kt) : tl K (lX0_fitsTogether) 87 = o_aload 0 88 := rfl
theorem aX0_fitsTogether_88 (K : Kt) : tl K (lX0_fitsTogether) 88 = o_iload 1 89 := rfl
theorem aX0_fitsTogether_89 (K : Kt) : tl K (lX0_fitsTogether) 89 = o_iload 2 90 := rfl
theorem aX0_fitsTogether_90 (K : Kt) : tl K (lX0_fitsTogether) 90 = o_pushI (nI 1) 91 := rfl
theorem aX0_fitsTogether_91 (K : Kt) : tl K (lX0_fitsTogether) 91 = o_iload 3 92 := rfl
theorem aX0_fitsTogether_92 (K : Kt) : tl K (lX0_fitsTogether) 92 = o_ishl 93 := rfl
theorem aX0_fitsTogether_93 (K : Kt) : tl K (lX0_fitsTogether) 93 = o_ixor 94 := rfl
theorem aX0_fitsTogether_94 (K : Kt) : tl K (lX0_fitsTogether) 94 = o_callV fX0_mayHave 2 0 97 := rfl
theorem aX0_fitsTogether_97 (K : Kt) : tl K (lX0_fitsTogether) 97 = o_if_eq 134 100 := rfl
theorem aX0_fitsTogether_100 (K : Kt) : tl K (lX0_fitsTogether) 100 = o_aload 0 101 := rfl
theorem aX0_fitsTogether_101 (K : Kt) : tl K (lX0_fitsTogether) 101 = o_get 0 1 104 := rfl
theorem aX0_fitsTogether_104 (K : Kt) : tl K (lX0_fitsTogether) 104 = o_aload 0 105 := rfl
theorem aX0_fitsTogether_105 (K : Kt) : tl K (lX0_fitsTogether) 105 = o_get 0 2 108 := rfl
theorem aX0_fitsTogether_108 (K : Kt) : tl K (lX0_fitsTogether) 108 = o_iload 3 109 := rfl
theorem aX0_fitsTogether_109 (K : Kt) : tl K (lX0_fitsTogether) 109 = o_iadd 110 := rfl
set_option maxRecDepth 8000 in
theorem aX0_fitsTogether_110 (K : Kt) : tl K (lX0_fitsTogether) 110 = o_aload 0 111 := rfl
set_option maxRecDepth 8000 in
theorem aX0_fitsTogether_111 (K : Kt) : tl K (lX0_fitsTogether) 111 = o_get 0 0 114 := rfl
set_option maxRecDepth 8000 in
theorem aX0_fitsTogether_114 (K : Kt) : tl K (lX0_fitsTogether) 114 = o_iload 1 115 := rfl
set_option maxRecDepth 8000 in
theorem aX0_fitsTogether_115 (K : Kt) : tl K (lX0_fitsTogether) 115 = o_aload 0 116 := rfl
set_option maxRecDepth 8000 in
theorem aX0_fitsTogether_116 (K : Kt) : tl K (lX0_fitsTogether) 116 = o_get 0 2 119 := rfl
set_option maxRecDepth 8000 in
theorem aX0_fitsTogether_119 (K : Kt) : tl K (lX0_fitsTogether) 119 = o_iload 3 120 := rfl
set_option maxRecDepth 8000 in
theorem aX0_fitsTogether_120 (K : Kt) : tl K (lX0_fitsTogether) 120 = o_iadd 121 := rfl
set_option maxRecDepth 8000 in
theorem aX0_fitsTogether_121 (K : Kt) : tl K (lX0_fitsTogether) 121 = o_callV fX1_fullThrows 2 1 124 := rfl
set_option maxRecDepth 8000 in
theorem aX0_fitsTogether_124 (K : Kt) : tl K (lX0_fitsTogether) 124 = o_callV fX3_clashes 2 3 127 := rfl
set_option maxRecDepth 8000 in
theorem aX0_fitsTogether_127 (K : Kt) : tl K (lX0_fitsTogether) 127 = o_if_ne 134 130 := rfl
set_option maxRecDepth 8000 in
theorem aX0_fitsTogether_130 (K : Kt) : tl K (lX0_fitsTogether) 130 = o_pushI (nI 1) 131 := rfl
set_option maxRecDepth 8000 in
theorem aX0_fitsTogether_131 (K : Kt) : tl K (lX0_fitsTogether) 131 = o_goto 135 := rfl
set_option maxRecDepth 8000 in
theorem aX0_fitsTogether_134 (K : Kt) : tl K (lX0_fitsTogether) 134 = o_pushI (nI 0) 135 := rfl
set_option maxRecDepth 8000 in
theorem aX0_fitsTogether_135 (K : Kt) : tl K (lX0_fitsTogether) 135 = o_zret K := rfl
theorem eX0_prepare {As L : List Value} {w : Wd} {K : Kt} (hw : wds As ≤ 3) (hL : ent 3 As = L) (h : RR (tl K lX0_prepare) 0 L [] w) : fX0_prepare As w K := ⟨hw, by rw [hL]; exact h⟩
theorem nX0_prepare : MonoF fX0_prepare := mono_f 3 lX0_prepare
theorem aX0_prepare_0 (K : Kt) : tl K (lX0_prepare) 0 = o_aload 0 1 := rfl
theorem aX0_prepare_1 (K : Kt) : tl K (lX0_prepare) 1 = o_get 0 5 4 := rfl
theorem aX0_prepare_4 (K : Kt) : tl K (lX0_prepare) 4 = o_iload 1 5 := rfl
theorem aX0_prepare_5 (K : Kt) : tl K (lX0_prepare) 5 = o_pushI (nI 0) 6 := rfl
theorem aX0_prepare_6 (K : Kt) : tl K (lX0_prepare) 6 = o_iast 7 := rfl
theorem aX0_prepare_7 (K : Kt) : tl K (lX0_prepare) 7 = o_pushI (nI 0) 8 := rfl
theorem aX0_prepare_8 (K : Kt) : tl K (lX0_prepare) 8 = o_istore 2 9 := rfl
theorem aX0_prepare_9 (K : Kt) : tl K (lX0_prepare) 9 = o_iload 2 10 := rfl
theorem aX0_prepare_10 (K : Kt) : tl K (lX0_prepare) 10 = o_aload 0 11 := rfl
theorem aX0_prepare_11 (K : Kt) : tl K (lX0_prepare) 11 = o_get 0 3 14 := rfl
theorem aX0_prepare_14 (K : Kt) : tl K (lX0_prepare) 14 = o_icmp_ge 61 17 := rfl
theorem aX0_prepare_17 (K : Kt) : tl K (lX0_prepare) 17 = o_aload 0 18 := rfl
theorem aX0_prepare_18 (K : Kt) : tl K (lX0_prepare) 18 = o_get 0 6 21 := rfl
theorem aX0_prepare_21 (K : Kt) : tl K (lX0_prepare) 21 = o_iload 1 22 := rfl
theorem aX0_prepare_22 (K : Kt) : tl K (lX0_prepare) 22 = o_pushI (nI 5) 23 := rfl
theorem aX0_prepare_23 (K : Kt) : tl K (lX0_prepare) 23 = o_imul 24 := rfl
theorem aX0_prepare_24 (K : Kt) : tl K (lX0_prepare) 24 = o_iload 2 25 := rfl
theorem aX0_prepare_25 (K : Kt) : tl K (lX0_prepare) 25 = o_iadd 26 := rfl
theorem aX0_prepare_26 (K : Kt) : tl K (lX0_prepare) 26 = o_aload 0 27 := rfl
theorem aX0_prepare_27 (K : Kt) : tl K (lX0_prepare) 27 = o_get 0 0 30 := rfl
theorem aX0_prepare_30 (K : Kt) : tl K (lX0_prepare) 30 = o_iload 1 31 := rfl
theorem aX0_prepare_31 (K : Kt) : tl K (lX0_prepare) 31 = o_aload 0 32 := rfl
theorem aX0_prepare_32 (K : Kt) : tl K (lX0_prepare) 32 = o_get 0 2 35 := rfl
theorem aX0_prepare_35 (K : Kt) : tl K (lX0_prepare) 35 = o_iload 2 36 := rfl
theorem aX0_prepare_36 (K : Kt) : tl K (lX0_prepare) 36 = o_iadd 37 := rfl
theorem aX0_prepare_37 (K : Kt) : tl K (lX0_prepare) 37 = o_aload 0 38 := rfl
theorem aX0_prepare_38 (K : Kt) : tl K (lX0_prepare) 38 = o_get 0 0 41 := rfl
theorem aX0_prepare_41 (K : Kt) : tl K (lX0_prepare) 41 = o_iload 1 42 := rfl
theorem aX0_prepare_42 (K : Kt) : tl K (lX0_prepare) 42 = o_aload 0 43 := rfl
theorem aX0_prepare_43 (K : Kt) : tl K (lX0_prepare) 43 = o_get 0 2 46 := rfl
theorem aX0_prepare_46 (K : Kt) : tl K (lX0_prepare) 46 = o_iload 2 47 := rfl
theorem aX0_prepare_47 (K : Kt) : tl K (lX0_prepare) 47 = o_iadd 48 := rfl
theorem aX0_prepare_48 (K : Kt) : tl K (lX0_prepare) 48 = o_callV fX1_fullThrows 2 1 51 := rfl
theorem aX0_prepare_51 (K : Kt) : tl K (lX0_prepare) 51 = o_callV fX1_valueOf 3 1 54 := rfl
theorem aX0_prepare_54 (K : Kt) : tl K (lX0_prepare) 54 = o_iast 55 := rfl
theorem aX0_prepare_55 (K : Kt) : tl K (lX0_prepare) 55 = o_iinc 2 (nI 1) 58 := rfl
theorem aX0_prepare_58 (K : Kt) : tl K (lX0_prepare) 58 = o_goto 9 := rfl
theorem aX0_prepare_61 (K : Kt) : tl K (lX0_prepare) 61 = o_aload 0 62 := rfl
theorem aX0_prepare_62 (K : Kt) : tl K (lX0_prepare) 62 = o_get 0 4 65 := rfl
theorem aX0_prepare_65 (K : Kt) : tl K (lX0_prepare) 65 = o_iload 1 66 := rfl
theorem aX0_prepare_66 (K : Kt) : tl K (lX0_prepare) 66 = o_pushI (nI 1) 67 := rfl
theorem aX0_prepare_67 (K : Kt) : tl K (lX0_prepare) 67 = o_iast 68 := rfl
theorem aX0_prepare_68 (K : Kt) : tl K (lX0_prepare) 68 = o_aload 0 69 := rfl
theorem aX0_prepare_69 (K : Kt) : tl K (lX0_prepare) 69 = o_get 0 1 72 := rfl
theorem aX0_prepare_72 (K : Kt) : tl K (lX0_prepare) 72 = o_iload 1 73 := rfl
theorem aX0_prepare_73 (K : Kt) : tl K (lX0_prepare) 73 = o_callV fX3_open 1 3 76 := rfl
theorem aX0_prepare_76 (K : Kt) : tl K (lX0_prepare) 76 = o_pushI (nI 1) 77 := rfl
theorem aX0_prepare_77 (K : Kt) : tl K (lX0_prepare) 77 = o_istore 2 78 := rfl
theorem aX0_prepare_78 (K : Kt) : tl K (lX0_prepare) 78 = o_iload 2 79 := rfl
theorem aX0_prepare_79 (K : Kt) : tl K (lX0_prepare) 79 = o_pushI (nI 1) 80 := rfl
theorem aX0_prepare_80 (K : Kt) : tl K (lX0_prepare) 80 = o_aload 0 81 := rfl
theorem aX0_prepare_81 (K : Kt) : tl K (lX0_prepare) 81 = o_get 0 3 84 := rfl
theorem aX0_prepare_84 (K : Kt) : tl K (lX0_prepare) 84 = o_ishl 85 := rfl
theorem aX0_prepare_85 (K : Kt) : tl K (lX0_prepare) 85 = o_icmp_ge 115 88 := rfl
theorem aX0_prepare_88 (K : Kt) : tl K (lX0_prepare) 88 = o_aload 0 89 := rfl
theorem aX0_prepare_89 (K : Kt) : tl K (lX0_prepare) 89 = o_iload 1 90 := rfl
theorem aX0_prepare_90 (K : Kt) : tl K (lX0_prepare) 90 = o_iload 2 91 := rfl
theorem aX0_prepare_91 (K : Kt) : tl K (lX0_prepare) 91 = o_callV fX0_fitsTogether 2 0 94 := rfl
theorem aX0_prepare_94 (K : Kt) : tl K (lX0_prepare) 94 = o_if_eq 109 97 := rfl
theorem aX0_prepare_97 (K : Kt) : tl K (lX0_prepare) 97 = o_aload 0 98 := rfl
theorem aX0_prepare_98 (K : Kt) : tl K (lX0_prepare) 98 = o_get 0 4 101 := rfl
set_option maxRecDepth 8000 in
theorem aX0_prepare_101 (K : Kt) : tl K (lX0_prepare) 101 = o_iload 1 102 := rfl
set_option maxRecDepth 8000 in
theorem aX0_prepare_102 (K : Kt) : tl K (lX0_prepare) 102 = o_dup2 103 := rfl
set_option maxRecDepth 8000 in
theorem aX0_prepare_103 (K : Kt) : tl K (lX0_prepare) 103 = o_iald 104 := rfl
set_option maxRecDepth 8000 in
theorem aX0_prepare_104 (K : Kt) : tl K (lX0_prepare) 104 = o_pushI (nI 1) 105 := rfl
set_option maxRecDepth 8000 in
theorem aX0_prepare_105 (K : Kt) : tl K (lX0_prepare) 105 = o_iload 2 106 := rfl
set_option maxRecDepth 8000 in
theorem aX0_prepare_106 (K : Kt) : tl K (lX0_prepare) 106 = o_ishl 107 := rfl
set_option maxRecDepth 8000 in
theorem aX0_prepare_107 (K : Kt) : tl K (lX0_prepare) 107 = o_ior 108 := rfl
set_option maxRecDepth 8000 in
theorem aX0_prepare_108 (K : Kt) : tl K (lX0_prepare) 108 = o_iast 109 := rfl
set_option maxRecDepth 8000 in
theorem aX0_prepare_109 (K : Kt) : tl K (lX0_prepare) 109 = o_iinc 2 (nI 1) 112 := rfl
set_option maxRecDepth 8000 in
theorem aX0_prepare_112 (K : Kt) : tl K (lX0_prepare) 112 = o_goto 78 := rfl
set_option maxRecDepth 8000 in
theorem aX0_prepare_115 (K : Kt) : tl K (lX0_prepare) 115 = o_vret K := rfl
theorem eX0_search {n : Nat} {As L : List Value} {w : Wd} {K : Kt} (hw : wds As ≤ 4) (hL : ent 4 As = L) (h : RR (tl K (lX0_search (fX0_search n))) 0 L [] w) : fX0_search (n + 1) As w K := ⟨hw, by rw [hL]; exact h⟩
theorem nX0_search : ∀ n, MonoF (fX0_search n)
  | 0 => fun _ _ _ _ _ h => h
  | n + 1 => mono_f 4 _
theorem aX0_search_0 (fs : Mf) (K : Kt) : tl K (lX0_search fs) 0 = o_iload 2 1 := rfl
theorem aX0_search_1 (fs : Mf) (K : Kt) : tl K (lX0_search fs) 1 = o_aload 0 2 := rfl
theorem aX0_search_2 (fs : Mf) (K : Kt) : tl K (lX0_search fs) 2 = o_get 0 7 5 := rfl
theorem aX0_search_5 (fs : Mf) (K : Kt) : tl K (lX0_search fs) 5 = o_iload 1 6 := rfl
theorem aX0_search_6 (fs : Mf) (K : Kt) : tl K (lX0_search fs) 6 = o_iald 7 := rfl
theorem aX0_search_7 (fs : Mf) (K : Kt) : tl K (lX0_search fs) 7 = o_iadd 8 := rfl
theorem aX0_search_8 (fs : Mf) (K : Kt) : tl K (lX0_search fs) 8 = o_aload 0 9 := rfl
theorem aX0_search_9 (fs : Mf) (K : Kt) : tl K (lX0_search fs) 9 = o_get 0 10 12 := rfl
theorem aX0_search_12 (fs : Mf) (K : Kt) : tl K (lX0_search fs) 12 = o_icmp_gt 16 15 := rfl
theorem aX0_search_15 (fs : Mf) (K : Kt) : tl K (lX0_search fs) 15 = o_vret K := rfl
theorem aX0_search_16 (fs : Mf) (K : Kt) : tl K (lX0_search fs) 16 = o_iload 1 17 := rfl
theorem aX0_search_17 (fs : Mf) (K : Kt) : tl K (lX0_search fs) 17 = o_aload 0 18 := rfl
theorem aX0_search_18 (fs : Mf) (K : Kt) : tl K (lX0_search fs) 18 = o_get 0 3 21 := rfl
theorem aX0_search_21 (fs : Mf) (K : Kt) : tl K (lX0_search fs) 21 = o_icmp_lt 44 24 := rfl
theorem aX0_search_24 (fs : Mf) (K : Kt) : tl K (lX0_search fs) 24 = o_aload 0 25 := rfl
theorem aX0_search_25 (fs : Mf) (K : Kt) : tl K (lX0_search fs) 25 = o_iload 2 26 := rfl
theorem aX0_search_26 (fs : Mf) (K : Kt) : tl K (lX0_search fs) 26 = o_putI 0 10 29 := rfl
theorem aX0_search_29 (fs : Mf) (K : Kt) : tl K (lX0_search fs) 29 = o_aload 0 30 := rfl
theorem aX0_search_30 (fs : Mf) (K : Kt) : tl K (lX0_search fs) 30 = o_get 0 8 33 := rfl
theorem aX0_search_33 (fs : Mf) (K : Kt) : tl K (lX0_search fs) 33 = o_pushI (nI 0) 34 := rfl
theorem aX0_search_34 (fs : Mf) (K : Kt) : tl K (lX0_search fs) 34 = o_aload 0 35 := rfl
theorem aX0_search_35 (fs : Mf) (K : Kt) : tl K (lX0_search fs) 35 = o_get 0 9 38 := rfl
theorem aX0_search_38 (fs : Mf) (K : Kt) : tl K (lX0_search fs) 38 = o_pushI (nI 0) 39 := rfl
theorem aX0_search_39 (fs : Mf) (K : Kt) : tl K (lX0_search fs) 39 = o_pushI (nI 5) 40 := rfl
theorem aX0_search_40 (fs : Mf) (K : Kt) : tl K (lX0_search fs) 40 = o_copyI 43 := rfl
theorem aX0_search_43 (fs : Mf) (K : Kt) : tl K (lX0_search fs) 43 = o_vret K := rfl
theorem aX0_search_44 (fs : Mf) (K : Kt) : tl K (lX0_search fs) 44 = o_pushI (nI 0) 45 := rfl
theorem aX0_search_45 (fs : Mf) (K : Kt) : tl K (lX0_search fs) 45 = o_istore 3 46 := rfl
theorem aX0_search_46 (fs : Mf) (K : Kt) : tl K (lX0_search fs) 46 = o_iload 3 47 := rfl
theorem aX0_search_47 (fs : Mf) (K : Kt) : tl K (lX0_search fs) 47 = o_aload 0 48 := rfl
theorem aX0_search_48 (fs : Mf) (K : Kt) : tl K (lX0_search fs) 48 = o_get 0 0 51 := rfl
theorem aX0_search_51 (fs : Mf) (K : Kt) : tl K (lX0_search fs) 51 = o_get 1 0 54 := rfl
theorem aX0_search_54 (fs : Mf) (K : Kt) : tl K (lX0_search fs) 54 = o_get 9 0 57 := rfl
theorem aX0_search_57 (fs : Mf) (K : Kt) : tl K (lX0_search fs) 57 = o_icmp_ge 134 60 := rfl
theorem aX0_search_60 (fs : Mf) (K : Kt) : tl K (lX0_search fs) 60 = o_aload 0 61 := rfl
theorem aX0_search_61 (fs : Mf) (K : Kt) : tl K (lX0_search fs) 61 = o_iload 3 62 := rfl
theorem aX0_search_62 (fs : Mf) (K : Kt) : tl K (lX0_search fs) 62 = o_aload 0 63 := rfl
theorem aX0_search_63 (fs : Mf) (K : Kt) : tl K (lX0_search fs) 63 = o_get 0 5 66 := rfl
theorem aX0_search_66 (fs : Mf) (K : Kt) : tl K (lX0_search fs) 66 = o_iload 3 67 := rfl
theorem aX0_search_67 (fs : Mf) (K : Kt) : tl K (lX0_search fs) 67 = o_iald 68 := rfl
theorem aX0_search_68 (fs : Mf) (K : Kt) : tl K (lX0_search fs) 68 = o_pushI (nI 1) 69 := rfl
theorem aX0_search_69 (fs : Mf) (K : Kt) : tl K (lX0_search fs) 69 = o_iload 1 70 := rfl
theorem aX0_search_70 (fs : Mf) (K : Kt) : tl K (lX0_search fs) 70 = o_ishl 71 := rfl
theorem aX0_search_71 (fs : Mf) (K : Kt) : tl K (lX0_search fs) 71 = o_ior 72 := rfl
theorem aX0_search_72 (fs : Mf) (K : Kt) : tl K (lX0_search fs) 72 = o_callV fX0_mayHave 2 0 75 := rfl
theorem aX0_search_75 (fs : Mf) (K : Kt) : tl K (lX0_search fs) 75 = o_if_eq 128 78 := rfl
theorem aX0_search_78 (fs : Mf) (K : Kt) : tl K (lX0_search fs) 78 = o_aload 0 79 := rfl
theorem aX0_search_79 (fs : Mf) (K : Kt) : tl K (lX0_search fs) 79 = o_get 0 5 82 := rfl
theorem aX0_search_82 (fs : Mf) (K : Kt) : tl K (lX0_search fs) 82 = o_iload 3 83 := rfl
theorem aX0_search_83 (fs : Mf) (K : Kt) : tl K (lX0_search fs) 83 = o_dup2 84 := rfl
theorem aX0_search_84 (fs : Mf) (K : Kt) : tl K (lX0_search fs) 84 = o_iald 85 := rfl
theorem aX0_search_85 (fs : Mf) (K : Kt) : tl K (lX0_search fs) 85 = o_pushI (nI 1) 86 := rfl
theorem aX0_search_86 (fs : Mf) (K : Kt) : tl K (lX0_search fs) 86 = o_iload 1 87 := rfl
theorem aX0_search_87 (fs : Mf) (K : Kt) : tl K (lX0_search fs) 87 = o_ishl 88 := rfl
theorem aX0_search_88 (fs : Mf) (K : Kt) : tl K (lX0_search fs) 88 = o_ior 89 := rfl
theorem aX0_search_89 (fs : Mf) (K : Kt) : tl K (lX0_search fs) 89 = o_iast 90 := rfl
theorem aX0_search_90 (fs : Mf) (K : Kt) : tl K (lX0_search fs) 90 = o_aload 0 91 := rfl
theorem aX0_search_91 (fs : Mf) (K : Kt) : tl K (lX0_search fs) 91 = o_get 0 8 94 := rfl
theorem aX0_search_94 (fs : Mf) (K : Kt) : tl K (lX0_search fs) 94 = o_iload 1 95 := rfl
theorem aX0_search_95 (fs : Mf) (K : Kt) : tl K (lX0_search fs) 95 = o_iload 3 96 := rfl
theorem aX0_search_96 (fs : Mf) (K : Kt) : tl K (lX0_search fs) 96 = o_iast 97 := rfl
set_option maxRecDepth 8000 in
theorem aX0_search_97 (fs : Mf) (K : Kt) : tl K (lX0_search fs) 97 = o_aload 0 98 := rfl
set_option maxRecDepth 8000 in
theorem aX0_search_98 (fs : Mf) (K : Kt) : tl K (lX0_search fs) 98 = o_iload 1 99 := rfl
set_option maxRecDepth 8000 in
theorem aX0_search_99 (fs : Mf) (K : Kt) : tl K (lX0_search fs) 99 = o_pushI (nI 1) 100 := rfl
set_option maxRecDepth 8000 in
theorem aX0_search_100 (fs : Mf) (K : Kt) : tl K (lX0_search fs) 100 = o_iadd 101 := rfl
set_option maxRecDepth 8000 in
theorem aX0_search_101 (fs : Mf) (K : Kt) : tl K (lX0_search fs) 101 = o_iload 2 102 := rfl
set_option maxRecDepth 8000 in
theorem aX0_search_102 (fs : Mf) (K : Kt) : tl K (lX0_search fs) 102 = o_aload 0 103 := rfl
set_option maxRecDepth 8000 in
theorem aX0_search_103 (fs : Mf) (K : Kt) : tl K (lX0_search fs) 103 = o_get 0 6 106 := rfl
set_option maxRecDepth 8000 in
theorem aX0_search_106 (fs : Mf) (K : Kt) : tl K (lX0_search fs) 106 = o_iload 3 107 := rfl
set_option maxRecDepth 8000 in
theorem aX0_search_107 (fs : Mf) (K : Kt) : tl K (lX0_search fs) 107 = o_pushI (nI 5) 108 := rfl
set_option maxRecDepth 8000 in
theorem aX0_search_108 (fs : Mf) (K : Kt) : tl K (lX0_search fs) 108 = o_imul 109 := rfl
set_option maxRecDepth 8000 in
theorem aX0_search_109 (fs : Mf) (K : Kt) : tl K (lX0_search fs) 109 = o_iload 1 110 := rfl
set_option maxRecDepth 8000 in
theorem aX0_search_110 (fs : Mf) (K : Kt) : tl K (lX0_search fs) 110 = o_iadd 111 := rfl
set_option maxRecDepth 8000 in
theorem aX0_search_111 (fs : Mf) (K : Kt) : tl K (lX0_search fs) 111 = o_iald 112 := rfl
set_option maxRecDepth 8000 in
theorem aX0_search_112 (fs : Mf) (K : Kt) : tl K (lX0_search fs) 112 = o_iadd 113 := rfl
set_option maxRecDepth 8000 in
theorem aX0_search_113 (fs : Mf) (K : Kt) : tl K (lX0_search fs) 113 = o_callV fs 2 0 116 := rfl
set_option maxRecDepth 8000 in
theorem aX0_search_116 (fs : Mf) (K : Kt) : tl K (lX0_search fs) 116 = o_aload 0 117 := rfl
set_option maxRecDepth 8000 in
theorem aX0_search_117 (fs : Mf) (K : Kt) : tl K (lX0_search fs) 117 = o_get 0 5 120 := rfl
set_option maxRecDepth 8000 in
theorem aX0_search_120 (fs : Mf) (K : Kt) : tl K (lX0_search fs) 120 = o_iload 3 121 := rfl
set_option maxRecDepth 8000 in
theorem aX0_search_121 (fs : Mf) (K : Kt) : tl K (lX0_search fs) 121 = o_dup2 122 := rfl
set_option maxRecDepth 8000 in
theorem aX0_search_122 (fs : Mf) (K : Kt) : tl K (lX0_search fs) 122 = o_iald 123 := rfl
set_option maxRecDepth 8000 in
theorem aX0_search_123 (fs : Mf) (K : Kt) : tl K (lX0_search fs) 123 = o_pushI (nI 1) 124 := rfl
set_option maxRecDepth 8000 in
theorem aX0_search_124 (fs : Mf) (K : Kt) : tl K (lX0_search fs) 124 = o_iload 1 125 := rfl
set_option maxRecDepth 8000 in
theorem aX0_search_125 (fs : Mf) (K : Kt) : tl K (lX0_search fs) 125 = o_ishl 126 := rfl
set_option maxRecDepth 8000 in
theorem aX0_search_126 (fs : Mf) (K : Kt) : tl K (lX0_search fs) 126 = o_ixor 127 := rfl
set_option maxRecDepth 8000 in
theorem aX0_search_127 (fs : Mf) (K : Kt) : tl K (lX0_search fs) 127 = o_iast 128 := rfl
set_option maxRecDepth 8000 in
theorem aX0_search_128 (fs : Mf) (K : Kt) : tl K (lX0_search fs) 128 = o_iinc 3 (nI 1) 131 := rfl
set_option maxRecDepth 8000 in
theorem aX0_search_131 (fs : Mf) (K : Kt) : tl K (lX0_search fs) 131 = o_goto 46 := rfl
set_option maxRecDepth 8000 in
theorem aX0_search_134 (fs : Mf) (K : Kt) : tl K (lX0_search fs) 134 = o_aload 0 135 := rfl
set_option maxRecDepth 8000 in
theorem aX0_search_135 (fs : Mf) (K : Kt) : tl K (lX0_search fs) 135 = o_get 0 8 138 := rfl
set_option maxRecDepth 8000 in
theorem aX0_search_138 (fs : Mf) (K : Kt) : tl K (lX0_search fs) 138 = o_iload 1 139 := rfl
set_option maxRecDepth 8000 in
theorem aX0_search_139 (fs : Mf) (K : Kt) : tl K (lX0_search fs) 139 = o_pushI ((-2)) 141 := rfl
set_option maxRecDepth 8000 in
theorem aX0_search_141 (fs : Mf) (K : Kt) : tl K (lX0_search fs) 141 = o_iast 142 := rfl
set_option maxRecDepth 8000 in
theorem aX0_search_142 (fs : Mf) (K : Kt) : tl K (lX0_search fs) 142 = o_aload 0 143 := rfl
set_option maxRecDepth 8000 in
theorem aX0_search_143 (fs : Mf) (K : Kt) : tl K (lX0_search fs) 143 = o_iload 1 144 := rfl
set_option maxRecDepth 8000 in
theorem aX0_search_144 (fs : Mf) (K : Kt) : tl K (lX0_search fs) 144 = o_pushI (nI 1) 145 := rfl
set_option maxRecDepth 8000 in
theorem aX0_search_145 (fs : Mf) (K : Kt) : tl K (lX0_search fs) 145 = o_iadd 146 := rfl
set_option maxRecDepth 8000 in
theorem aX0_search_146 (fs : Mf) (K : Kt) : tl K (lX0_search fs) 146 = o_iload 2 147 := rfl
set_option maxRecDepth 8000 in
theorem aX0_search_147 (fs : Mf) (K : Kt) : tl K (lX0_search fs) 147 = o_callV fs 2 0 150 := rfl
set_option maxRecDepth 8000 in
theorem aX0_search_150 (fs : Mf) (K : Kt) : tl K (lX0_search fs) 150 = o_vret K := rfl
theorem eX0_find {As L : List Value} {w : Wd} {K : Kt} (hw : wds As ≤ 4) (hL : ent 4 As = L) (h : RR (tl K lX0_find) 0 L [] w) : fX0_find As w K := ⟨hw, by rw [hL]; exact h⟩
theorem nX0_find : MonoF fX0_find := mono_f 4 lX0_find
theorem aX0_find_0 (K : Kt) : tl K (lX0_find) 0 = o_aload 0 1 := rfl
theorem aX0_find_1 (K : Kt) : tl K (lX0_find) 1 = o_iload 1 2 := rfl
theorem aX0_find_2 (K : Kt) : tl K (lX0_find) 2 = o_putI 0 2 5 := rfl
theorem aX0_find_5 (K : Kt) : tl K (lX0_find) 5 = o_aload 0 6 := rfl
theorem aX0_find_6 (K : Kt) : tl K (lX0_find) 6 = o_iload 2 7 := rfl
theorem aX0_find_7 (K : Kt) : tl K (lX0_find) 7 = o_pushI (nI 5) 8 := rfl
theorem aX0_find_8 (K : Kt) : tl K (lX0_find) 8 = o_min 11 := rfl
theorem aX0_find_11 (K : Kt) : tl K (lX0_find) 11 = o_putI 0 3 14 := rfl
theorem aX0_find_14 (K : Kt) : tl K (lX0_find) 14 = o_pushI (nI 0) 15 := rfl
theorem aX0_find_15 (K : Kt) : tl K (lX0_find) 15 = o_istore 3 16 := rfl
theorem aX0_find_16 (K : Kt) : tl K (lX0_find) 16 = o_iload 3 17 := rfl
theorem aX0_find_17 (K : Kt) : tl K (lX0_find) 17 = o_aload 0 18 := rfl
theorem aX0_find_18 (K : Kt) : tl K (lX0_find) 18 = o_get 0 0 21 := rfl
theorem aX0_find_21 (K : Kt) : tl K (lX0_find) 21 = o_get 1 0 24 := rfl
theorem aX0_find_24 (K : Kt) : tl K (lX0_find) 24 = o_get 9 0 27 := rfl
theorem aX0_find_27 (K : Kt) : tl K (lX0_find) 27 = o_icmp_ge 41 30 := rfl
theorem aX0_find_30 (K : Kt) : tl K (lX0_find) 30 = o_aload 0 31 := rfl
theorem aX0_find_31 (K : Kt) : tl K (lX0_find) 31 = o_iload 3 32 := rfl
theorem aX0_find_32 (K : Kt) : tl K (lX0_find) 32 = o_callV fX0_prepare 1 0 35 := rfl
theorem aX0_find_35 (K : Kt) : tl K (lX0_find) 35 = o_iinc 3 (nI 1) 38 := rfl
theorem aX0_find_38 (K : Kt) : tl K (lX0_find) 38 = o_goto 16 := rfl
theorem aX0_find_41 (K : Kt) : tl K (lX0_find) 41 = o_aload 0 42 := rfl
theorem aX0_find_42 (K : Kt) : tl K (lX0_find) 42 = o_get 0 7 45 := rfl
theorem aX0_find_45 (K : Kt) : tl K (lX0_find) 45 = o_aload 0 46 := rfl
theorem aX0_find_46 (K : Kt) : tl K (lX0_find) 46 = o_get 0 3 49 := rfl
theorem aX0_find_49 (K : Kt) : tl K (lX0_find) 49 = o_pushI (nI 0) 50 := rfl
theorem aX0_find_50 (K : Kt) : tl K (lX0_find) 50 = o_iast 51 := rfl
theorem aX0_find_51 (K : Kt) : tl K (lX0_find) 51 = o_aload 0 52 := rfl
theorem aX0_find_52 (K : Kt) : tl K (lX0_find) 52 = o_get 0 3 55 := rfl
theorem aX0_find_55 (K : Kt) : tl K (lX0_find) 55 = o_pushI (nI 1) 56 := rfl
theorem aX0_find_56 (K : Kt) : tl K (lX0_find) 56 = o_isub 57 := rfl
theorem aX0_find_57 (K : Kt) : tl K (lX0_find) 57 = o_istore 3 58 := rfl
theorem aX0_find_58 (K : Kt) : tl K (lX0_find) 58 = o_iload 3 59 := rfl
theorem aX0_find_59 (K : Kt) : tl K (lX0_find) 59 = o_if_lt 97 62 := rfl
theorem aX0_find_62 (K : Kt) : tl K (lX0_find) 62 = o_aload 0 63 := rfl
theorem aX0_find_63 (K : Kt) : tl K (lX0_find) 63 = o_get 0 7 66 := rfl
theorem aX0_find_66 (K : Kt) : tl K (lX0_find) 66 = o_iload 3 67 := rfl
theorem aX0_find_67 (K : Kt) : tl K (lX0_find) 67 = o_pushI (nI 100000000) 69 := rfl
theorem aX0_find_69 (K : Kt) : tl K (lX0_find) 69 = o_iast 70 := rfl
theorem aX0_find_70 (K : Kt) : tl K (lX0_find) 70 = o_aload 0 71 := rfl
theorem aX0_find_71 (K : Kt) : tl K (lX0_find) 71 = o_pushI ((-1)) 72 := rfl
theorem aX0_find_72 (K : Kt) : tl K (lX0_find) 72 = o_putI 0 10 75 := rfl
theorem aX0_find_75 (K : Kt) : tl K (lX0_find) 75 = o_aload 0 76 := rfl
theorem aX0_find_76 (K : Kt) : tl K (lX0_find) 76 = o_iload 3 77 := rfl
theorem aX0_find_77 (K : Kt) : tl K (lX0_find) 77 = o_pushI (nI 0) 78 := rfl
theorem aX0_find_78 (K : Kt) : tl K (lX0_find) 78 = o_callV (fX0_search 8) 2 0 81 := rfl
theorem aX0_find_81 (K : Kt) : tl K (lX0_find) 81 = o_aload 0 82 := rfl
theorem aX0_find_82 (K : Kt) : tl K (lX0_find) 82 = o_get 0 7 85 := rfl
theorem aX0_find_85 (K : Kt) : tl K (lX0_find) 85 = o_iload 3 86 := rfl
theorem aX0_find_86 (K : Kt) : tl K (lX0_find) 86 = o_aload 0 87 := rfl
theorem aX0_find_87 (K : Kt) : tl K (lX0_find) 87 = o_get 0 10 90 := rfl
theorem aX0_find_90 (K : Kt) : tl K (lX0_find) 90 = o_iast 91 := rfl
theorem aX0_find_91 (K : Kt) : tl K (lX0_find) 91 = o_iinc 3 ((-1)) 94 := rfl
theorem aX0_find_94 (K : Kt) : tl K (lX0_find) 94 = o_goto 58 := rfl
theorem aX0_find_97 (K : Kt) : tl K (lX0_find) 97 = o_vret K := rfl
theorem eX1_riskOf {As L : List Value} {w : Wd} {K : Kt} (hw : wds As ≤ 3) (hL : ent 3 As = L) (h : RR (tl K lX1_riskOf) 0 L [] w) : fX1_riskOf As w K := ⟨hw, by rw [hL]; exact h⟩
theorem nX1_riskOf : MonoF fX1_riskOf := mono_f 3 lX1_riskOf
theorem aX1_riskOf_0 (K : Kt) : tl K (lX1_riskOf) 0 = o_aload 0 1 := rfl
theorem aX1_riskOf_1 (K : Kt) : tl K (lX1_riskOf) 1 = o_get 1 0 4 := rfl
theorem aX1_riskOf_4 (K : Kt) : tl K (lX1_riskOf) 4 = o_iload 1 5 := rfl
theorem aX1_riskOf_5 (K : Kt) : tl K (lX1_riskOf) 5 = o_pushI (nI 3) 6 := rfl
theorem aX1_riskOf_6 (K : Kt) : tl K (lX1_riskOf) 6 = o_callV fX9_trait 2 9 9 := rfl
theorem aX1_riskOf_9 (K : Kt) : tl K (lX1_riskOf) 9 = o_pushI (nI 0) 10 := rfl
theorem aX1_riskOf_10 (K : Kt) : tl K (lX1_riskOf) 10 = o_iload 2 11 := rfl
theorem aX1_riskOf_11 (K : Kt) : tl K (lX1_riskOf) 11 = o_aload 0 12 := rfl
theorem aX1_riskOf_12 (K : Kt) : tl K (lX1_riskOf) 12 = o_get 1 0 15 := rfl
theorem aX1_riskOf_15 (K : Kt) : tl K (lX1_riskOf) 15 = o_iload 1 16 := rfl
theorem aX1_riskOf_16 (K : Kt) : tl K (lX1_riskOf) 16 = o_pushI (nI 2) 17 := rfl
theorem aX1_riskOf_17 (K : Kt) : tl K (lX1_riskOf) 17 = o_callV fX9_trait 2 9 20 := rfl
theorem aX1_riskOf_20 (K : Kt) : tl K (lX1_riskOf) 20 = o_isub 21 := rfl
theorem aX1_riskOf_21 (K : Kt) : tl K (lX1_riskOf) 21 = o_max 24 := rfl
theorem aX1_riskOf_24 (K : Kt) : tl K (lX1_riskOf) 24 = o_imul 25 := rfl
theorem aX1_riskOf_25 (K : Kt) : tl K (lX1_riskOf) 25 = o_iret K := rfl
theorem eX5_armAt {As L : List Value} {w : Wd} {K : Kt} (hw : wds As ≤ 3) (hL : ent 3 As = L) (h : RR (tl K lX5_armAt) 0 L [] w) : fX5_armAt As w K := ⟨hw, by rw [hL]; exact h⟩
theorem nX5_armAt : MonoF fX5_armAt := mono_f 3 lX5_armAt
theorem aX5_armAt_0 (K : Kt) : tl K (lX5_armAt) 0 = o_aload 0 1 := rfl
theorem aX5_armAt_1 (K : Kt) : tl K (lX5_armAt) 1 = o_get 5 1 4 := rfl
theorem aX5_armAt_4 (K : Kt) : tl K (lX5_armAt) 4 = o_iload 1 5 := rfl
theorem aX5_armAt_5 (K : Kt) : tl K (lX5_armAt) 5 = o_pushI (nI 3) 6 := rfl
theorem aX5_armAt_6 (K : Kt) : tl K (lX5_armAt) 6 = o_imul 7 := rfl
theorem aX5_armAt_7 (K : Kt) : tl K (lX5_armAt) 7 = o_iload 2 8 := rfl
theorem aX5_armAt_8 (K : Kt) : tl K (lX5_armAt) 8 = o_iadd 9 := rfl
theorem aX5_armAt_9 (K : Kt) : tl K (lX5_armAt) 9 = o_iald 10 := rfl
theorem aX5_armAt_10 (K : Kt) : tl K (lX5_armAt) 10 = o_iret K := rfl
theorem eX5_throwsAt {As L : List Value} {w : Wd} {K : Kt} (hw : wds As ≤ 3) (hL : ent 3 As = L) (h : RR (tl K lX5_throwsAt) 0 L [] w) : fX5_throwsAt As w K := ⟨hw, by rw [hL]; exact h⟩
theorem nX5_throwsAt : MonoF fX5_throwsAt := mono_f 3 lX5_throwsAt
theorem aX5_throwsAt_0 (K : Kt) : tl K (lX5_throwsAt) 0 = o_aload 0 1 := rfl
theorem aX5_throwsAt_1 (K : Kt) : tl K (lX5_throwsAt) 1 = o_get 5 2 4 := rfl
theorem aX5_throwsAt_4 (K : Kt) : tl K (lX5_throwsAt) 4 = o_iload 1 5 := rfl
theorem aX5_throwsAt_5 (K : Kt) : tl K (lX5_throwsAt) 5 = o_pushI (nI 3) 6 := rfl
theorem aX5_throwsAt_6 (K : Kt) : tl K (lX5_throwsAt) 6 = o_imul 7 := rfl
theorem aX5_throwsAt_7 (K : Kt) : tl K (lX5_throwsAt) 7 = o_iload 2 8 := rfl
theorem aX5_throwsAt_8 (K : Kt) : tl K (lX5_throwsAt) 8 = o_iadd 9 := rfl
theorem aX5_throwsAt_9 (K : Kt) : tl K (lX5_throwsAt) 9 = o_iald 10 := rfl
theorem aX5_throwsAt_10 (K : Kt) : tl K (lX5_throwsAt) 10 = o_iret K := rfl
theorem eX1_valueAt {As L : List Value} {w : Wd} {K : Kt} (hw : wds As ≤ 3) (hL : ent 3 As = L) (h : RR (tl K lX1_valueAt) 0 L [] w) : fX1_valueAt As w K := ⟨hw, by rw [hL]; exact h⟩
theorem nX1_valueAt : MonoF fX1_valueAt := mono_f 3 lX1_valueAt
theorem aX1_valueAt_0 (K : Kt) : tl K (lX1_valueAt) 0 = o_aload 0 1 := rfl
theorem aX1_valueAt_1 (K : Kt) : tl K (lX1_valueAt) 1 = o_aload 0 2 := rfl
theorem aX1_valueAt_2 (K : Kt) : tl K (lX1_valueAt) 2 = o_get 1 1 5 := rfl
theorem aX1_valueAt_5 (K : Kt) : tl K (lX1_valueAt) 5 = o_iload 1 6 := rfl
theorem aX1_valueAt_6 (K : Kt) : tl K (lX1_valueAt) 6 = o_iload 2 7 := rfl
theorem aX1_valueAt_7 (K : Kt) : tl K (lX1_valueAt) 7 = o_callV fX5_armAt 2 5 10 := rfl
theorem aX1_valueAt_10 (K : Kt) : tl K (lX1_valueAt) 10 = o_iload 1 11 := rfl
theorem aX1_valueAt_11 (K : Kt) : tl K (lX1_valueAt) 11 = o_aload 0 12 := rfl
theorem aX1_valueAt_12 (K : Kt) : tl K (lX1_valueAt) 12 = o_get 1 1 15 := rfl
theorem aX1_valueAt_15 (K : Kt) : tl K (lX1_valueAt) 15 = o_iload 1 16 := rfl
theorem aX1_valueAt_16 (K : Kt) : tl K (lX1_valueAt) 16 = o_iload 2 17 := rfl
theorem aX1_valueAt_17 (K : Kt) : tl K (lX1_valueAt) 17 = o_callV fX5_throwsAt 2 5 20 := rfl
theorem aX1_valueAt_20 (K : Kt) : tl K (lX1_valueAt) 20 = o_callV fX1_valueOf 3 1 23 := rfl
theorem aX1_valueAt_23 (K : Kt) : tl K (lX1_valueAt) 23 = o_iret K := rfl
theorem eX1_riskAt {As L : List Value} {w : Wd} {K : Kt} (hw : wds As ≤ 3) (hL : ent 3 As = L) (h : RR (tl K lX1_riskAt) 0 L [] w) : fX1_riskAt As w K := ⟨hw, by rw [hL]; exact h⟩
theorem nX1_riskAt : MonoF fX1_riskAt := mono_f 3 lX1_riskAt
theorem aX1_riskAt_0 (K : Kt) : tl K (lX1_riskAt) 0 = o_aload 0 1 := rfl
theorem aX1_riskAt_1 (K : Kt) : tl K (lX1_riskAt) 1 = o_aload 0 2 := rfl
theorem aX1_riskAt_2 (K : Kt) : tl K (lX1_riskAt) 2 = o_get 1 1 5 := rfl
theorem aX1_riskAt_5 (K : Kt) : tl K (lX1_riskAt) 5 = o_iload 1 6 := rfl
theorem aX1_riskAt_6 (K : Kt) : tl K (lX1_riskAt) 6 = o_iload 2 7 := rfl
theorem aX1_riskAt_7 (K : Kt) : tl K (lX1_riskAt) 7 = o_callV fX5_armAt 2 5 10 := rfl
theorem aX1_riskAt_10 (K : Kt) : tl K (lX1_riskAt) 10 = o_aload 0 11 := rfl
theorem aX1_riskAt_11 (K : Kt) : tl K (lX1_riskAt) 11 = o_get 1 1 14 := rfl
theorem aX1_riskAt_14 (K : Kt) : tl K (lX1_riskAt) 14 = o_iload 1 15 := rfl
theorem aX1_riskAt_15 (K : Kt) : tl K (lX1_riskAt) 15 = o_iload 2 16 := rfl
theorem aX1_riskAt_16 (K : Kt) : tl K (lX1_riskAt) 16 = o_callV fX5_throwsAt 2 5 19 := rfl
theorem aX1_riskAt_19 (K : Kt) : tl K (lX1_riskAt) 19 = o_callV fX1_riskOf 2 1 22 := rfl
theorem aX1_riskAt_22 (K : Kt) : tl K (lX1_riskAt) 22 = o_iret K := rfl
theorem eX1_leftIn {As L : List Value} {w : Wd} {K : Kt} (hw : wds As ≤ 4) (hL : ent 4 As = L) (h : RR (tl K lX1_leftIn) 0 L [] w) : fX1_leftIn As w K := ⟨hw, by rw [hL]; exact h⟩
theorem nX1_leftIn : MonoF fX1_leftIn := mono_f 4 lX1_leftIn
theorem aX1_leftIn_0 (K : Kt) : tl K (lX1_leftIn) 0 = o_aload 0 1 := rfl
theorem aX1_leftIn_1 (K : Kt) : tl K (lX1_leftIn) 1 = o_get 1 0 4 := rfl
theorem aX1_leftIn_4 (K : Kt) : tl K (lX1_leftIn) 4 = o_iload 1 5 := rfl
theorem aX1_leftIn_5 (K : Kt) : tl K (lX1_leftIn) 5 = o_pushI (nI 2) 6 := rfl
theorem aX1_leftIn_6 (K : Kt) : tl K (lX1_leftIn) 6 = o_callV fX9_fact 2 9 9 := rfl
theorem aX1_leftIn_9 (K : Kt) : tl K (lX1_leftIn) 9 = o_istore 2 10 := rfl
theorem aX1_leftIn_10 (K : Kt) : tl K (lX1_leftIn) 10 = o_pushI (nI 0) 11 := rfl
theorem aX1_leftIn_11 (K : Kt) : tl K (lX1_leftIn) 11 = o_istore 3 12 := rfl
theorem aX1_leftIn_12 (K : Kt) : tl K (lX1_leftIn) 12 = o_iload 3 13 := rfl
theorem aX1_leftIn_13 (K : Kt) : tl K (lX1_leftIn) 13 = o_aload 0 14 := rfl
theorem aX1_leftIn_14 (K : Kt) : tl K (lX1_leftIn) 14 = o_get 1 1 17 := rfl
theorem aX1_leftIn_17 (K : Kt) : tl K (lX1_leftIn) 17 = o_get 5 0 20 := rfl
theorem aX1_leftIn_20 (K : Kt) : tl K (lX1_leftIn) 20 = o_iload 1 21 := rfl
theorem aX1_leftIn_21 (K : Kt) : tl K (lX1_leftIn) 21 = o_iald 22 := rfl
theorem aX1_leftIn_22 (K : Kt) : tl K (lX1_leftIn) 22 = o_icmp_ge 43 25 := rfl
theorem aX1_leftIn_25 (K : Kt) : tl K (lX1_leftIn) 25 = o_iload 2 26 := rfl
theorem aX1_leftIn_26 (K : Kt) : tl K (lX1_leftIn) 26 = o_aload 0 27 := rfl
theorem aX1_leftIn_27 (K : Kt) : tl K (lX1_leftIn) 27 = o_get 1 1 30 := rfl
theorem aX1_leftIn_30 (K : Kt) : tl K (lX1_leftIn) 30 = o_iload 1 31 := rfl
theorem aX1_leftIn_31 (K : Kt) : tl K (lX1_leftIn) 31 = o_iload 3 32 := rfl
theorem aX1_leftIn_32 (K : Kt) : tl K (lX1_leftIn) 32 = o_callV fX5_throwsAt 2 5 35 := rfl
theorem aX1_leftIn_35 (K : Kt) : tl K (lX1_leftIn) 35 = o_isub 36 := rfl
theorem aX1_leftIn_36 (K : Kt) : tl K (lX1_leftIn) 36 = o_istore 2 37 := rfl
theorem aX1_leftIn_37 (K : Kt) : tl K (lX1_leftIn) 37 = o_iinc 3 (nI 1) 40 := rfl
theorem aX1_leftIn_40 (K : Kt) : tl K (lX1_leftIn) 40 = o_goto 12 := rfl
theorem aX1_leftIn_43 (K : Kt) : tl K (lX1_leftIn) 43 = o_iload 2 44 := rfl
theorem aX1_leftIn_44 (K : Kt) : tl K (lX1_leftIn) 44 = o_iret K := rfl
theorem eX1_valueOfGame {As L : List Value} {w : Wd} {K : Kt} (hw : wds As ≤ 4) (hL : ent 4 As = L) (h : RR (tl K lX1_valueOfGame) 0 L [] w) : fX1_valueOfGame As w K := ⟨hw, by rw [hL]; exact h⟩
theorem nX1_valueOfGame : MonoF fX1_valueOfGame := mono_f 4 lX1_valueOfGame
theorem aX1_valueOfGame_0 (K : Kt) : tl K (lX1_valueOfGame) 0 = o_pushI (nI 0) 1 := rfl
theorem aX1_valueOfGame_1 (K : Kt) : tl K (lX1_valueOfGame) 1 = o_istore 2 2 := rfl
theorem aX1_valueOfGame_2 (K : Kt) : tl K (lX1_valueOfGame) 2 = o_pushI (nI 0) 3 := rfl
theorem aX1_valueOfGame_3 (K : Kt) : tl K (lX1_valueOfGame) 3 = o_istore 3 4 := rfl
theorem aX1_valueOfGame_4 (K : Kt) : tl K (lX1_valueOfGame) 4 = o_iload 3 5 := rfl
theorem aX1_valueOfGame_5 (K : Kt) : tl K (lX1_valueOfGame) 5 = o_aload 0 6 := rfl
theorem aX1_valueOfGame_6 (K : Kt) : tl K (lX1_valueOfGame) 6 = o_get 1 1 9 := rfl
theorem aX1_valueOfGame_9 (K : Kt) : tl K (lX1_valueOfGame) 9 = o_get 5 0 12 := rfl
theorem aX1_valueOfGame_12 (K : Kt) : tl K (lX1_valueOfGame) 12 = o_iload 1 13 := rfl
theorem aX1_valueOfGame_13 (K : Kt) : tl K (lX1_valueOfGame) 13 = o_iald 14 := rfl
theorem aX1_valueOfGame_14 (K : Kt) : tl K (lX1_valueOfGame) 14 = o_icmp_ge 32 17 := rfl
theorem aX1_valueOfGame_17 (K : Kt) : tl K (lX1_valueOfGame) 17 = o_iload 2 18 := rfl
theorem aX1_valueOfGame_18 (K : Kt) : tl K (lX1_valueOfGame) 18 = o_aload 0 19 := rfl
theorem aX1_valueOfGame_19 (K : Kt) : tl K (lX1_valueOfGame) 19 = o_iload 1 20 := rfl
theorem aX1_valueOfGame_20 (K : Kt) : tl K (lX1_valueOfGame) 20 = o_iload 3 21 := rfl
theorem aX1_valueOfGame_21 (K : Kt) : tl K (lX1_valueOfGame) 21 = o_callV fX1_valueAt 2 1 24 := rfl
theorem aX1_valueOfGame_24 (K : Kt) : tl K (lX1_valueOfGame) 24 = o_iadd 25 := rfl
theorem aX1_valueOfGame_25 (K : Kt) : tl K (lX1_valueOfGame) 25 = o_istore 2 26 := rfl
theorem aX1_valueOfGame_26 (K : Kt) : tl K (lX1_valueOfGame) 26 = o_iinc 3 (nI 1) 29 := rfl
theorem aX1_valueOfGame_29 (K : Kt) : tl K (lX1_valueOfGame) 29 = o_goto 4 := rfl
theorem aX1_valueOfGame_32 (K : Kt) : tl K (lX1_valueOfGame) 32 = o_iload 2 33 := rfl
theorem aX1_valueOfGame_33 (K : Kt) : tl K (lX1_valueOfGame) 33 = o_iret K := rfl
theorem eX1_allOutings {As L : List Value} {w : Wd} {K : Kt} (hw : wds As ≤ 3) (hL : ent 3 As = L) (h : RR (tl K lX1_allOutings) 0 L [] w) : fX1_allOutings As w K := ⟨hw, by rw [hL]; exact h⟩
theorem nX1_allOutings : MonoF fX1_allOutings := mono_f 3 lX1_allOutings
theorem aX1_allOutings_0 (K : Kt) : tl K (lX1_allOutings) 0 = o_pushI (nI 0) 1 := rfl
theorem aX1_allOutings_1 (K : Kt) : tl K (lX1_allOutings) 1 = o_istore 1 2 := rfl
theorem aX1_allOutings_2 (K : Kt) : tl K (lX1_allOutings) 2 = o_pushI (nI 0) 3 := rfl
theorem aX1_allOutings_3 (K : Kt) : tl K (lX1_allOutings) 3 = o_istore 2 4 := rfl
theorem aX1_allOutings_4 (K : Kt) : tl K (lX1_allOutings) 4 = o_iload 2 5 := rfl
theorem aX1_allOutings_5 (K : Kt) : tl K (lX1_allOutings) 5 = o_aload 0 6 := rfl
theorem aX1_allOutings_6 (K : Kt) : tl K (lX1_allOutings) 6 = o_get 1 0 9 := rfl
theorem aX1_allOutings_9 (K : Kt) : tl K (lX1_allOutings) 9 = o_get 9 4 12 := rfl
theorem aX1_allOutings_12 (K : Kt) : tl K (lX1_allOutings) 12 = o_icmp_ge 33 15 := rfl
theorem aX1_allOutings_15 (K : Kt) : tl K (lX1_allOutings) 15 = o_iload 1 16 := rfl
theorem aX1_allOutings_16 (K : Kt) : tl K (lX1_allOutings) 16 = o_aload 0 17 := rfl
theorem aX1_allOutings_17 (K : Kt) : tl K (lX1_allOutings) 17 = o_get 1 1 20 := rfl
theorem aX1_allOutings_20 (K : Kt) : tl K (lX1_allOutings) 20 = o_get 5 0 23 := rfl
theorem aX1_allOutings_23 (K : Kt) : tl K (lX1_allOutings) 23 = o_iload 2 24 := rfl
theorem aX1_allOutings_24 (K : Kt) : tl K (lX1_allOutings) 24 = o_iald 25 := rfl
theorem aX1_allOutings_25 (K : Kt) : tl K (lX1_allOutings) 25 = o_iadd 26 := rfl
theorem aX1_allOutings_26 (K : Kt) : tl K (lX1_allOutings) 26 = o_istore 1 27 := rfl
theorem aX1_allOutings_27 (K : Kt) : tl K (lX1_allOutings) 27 = o_iinc 2 (nI 1) 30 := rfl
theorem aX1_allOutings_30 (K : Kt) : tl K (lX1_allOutings) 30 = o_goto 4 := rfl
theorem aX1_allOutings_33 (K : Kt) : tl K (lX1_allOutings) 33 = o_iload 1 34 := rfl
theorem aX1_allOutings_34 (K : Kt) : tl K (lX1_allOutings) 34 = o_iret K := rfl
theorem eX5_loadOf {As L : List Value} {w : Wd} {K : Kt} (hw : wds As ≤ 3) (hL : ent 3 As = L) (h : RR (tl K lX5_loadOf) 0 L [] w) : fX5_loadOf As w K := ⟨hw, by rw [hL]; exact h⟩
theorem nX5_loadOf : MonoF fX5_loadOf := mono_f 3 lX5_loadOf
theorem aX5_loadOf_0 (K : Kt) : tl K (lX5_loadOf) 0 = o_aload 0 1 := rfl
theorem aX5_loadOf_1 (K : Kt) : tl K (lX5_loadOf) 1 = o_get 5 3 4 := rfl
theorem aX5_loadOf_4 (K : Kt) : tl K (lX5_loadOf) 4 = o_iload 1 5 := rfl
theorem aX5_loadOf_5 (K : Kt) : tl K (lX5_loadOf) 5 = o_pushI (nI 20) 7 := rfl
theorem aX5_loadOf_7 (K : Kt) : tl K (lX5_loadOf) 7 = o_imul 8 := rfl
theorem aX5_loadOf_8 (K : Kt) : tl K (lX5_loadOf) 8 = o_iload 2 9 := rfl
theorem aX5_loadOf_9 (K : Kt) : tl K (lX5_loadOf) 9 = o_iadd 10 := rfl
theorem aX5_loadOf_10 (K : Kt) : tl K (lX5_loadOf) 10 = o_iald 11 := rfl
theorem aX5_loadOf_11 (K : Kt) : tl K (lX5_loadOf) 11 = o_iret K := rfl
theorem eX1_throwsOfArm {As L : List Value} {w : Wd} {K : Kt} (hw : wds As ≤ 4) (hL : ent 4 As = L) (h : RR (tl K lX1_throwsOfArm) 0 L [] w) : fX1_throwsOfArm As w K := ⟨hw, by rw [hL]; exact h⟩
theorem nX1_throwsOfArm : MonoF fX1_throwsOfArm := mono_f 4 lX1_throwsOfArm
theorem aX1_throwsOfArm_0 (K : Kt) : tl K (lX1_throwsOfArm) 0 = o_pushI (nI 0) 1 := rfl
theorem aX1_throwsOfArm_1 (K : Kt) : tl K (lX1_throwsOfArm) 1 = o_istore 2 2 := rfl
theorem aX1_throwsOfArm_2 (K : Kt) : tl K (lX1_throwsOfArm) 2 = o_pushI (nI 0) 3 := rfl
theorem aX1_throwsOfArm_3 (K : Kt) : tl K (lX1_throwsOfArm) 3 = o_istore 3 4 := rfl
theorem aX1_throwsOfArm_4 (K : Kt) : tl K (lX1_throwsOfArm) 4 = o_iload 3 5 := rfl
theorem aX1_throwsOfArm_5 (K : Kt) : tl K (lX1_throwsOfArm) 5 = o_aload 0 6 := rfl
theorem aX1_throwsOfArm_6 (K : Kt) : tl K (lX1_throwsOfArm) 6 = o_get 1 0 9 := rfl
theorem aX1_throwsOfArm_9 (K : Kt) : tl K (lX1_throwsOfArm) 9 = o_get 9 4 12 := rfl
theorem aX1_throwsOfArm_12 (K : Kt) : tl K (lX1_throwsOfArm) 12 = o_icmp_ge 33 15 := rfl
theorem aX1_throwsOfArm_15 (K : Kt) : tl K (lX1_throwsOfArm) 15 = o_iload 2 16 := rfl
theorem aX1_throwsOfArm_16 (K : Kt) : tl K (lX1_throwsOfArm) 16 = o_aload 0 17 := rfl
theorem aX1_throwsOfArm_17 (K : Kt) : tl K (lX1_throwsOfArm) 17 = o_get 1 1 20 := rfl
theorem aX1_throwsOfArm_20 (K : Kt) : tl K (lX1_throwsOfArm) 20 = o_iload 1 21 := rfl
theorem aX1_throwsOfArm_21 (K : Kt) : tl K (lX1_throwsOfArm) 21 = o_iload 3 22 := rfl
theorem aX1_throwsOfArm_22 (K : Kt) : tl K (lX1_throwsOfArm) 22 = o_callV fX5_loadOf 2 5 25 := rfl
theorem aX1_throwsOfArm_25 (K : Kt) : tl K (lX1_throwsOfArm) 25 = o_iadd 26 := rfl
theorem aX1_throwsOfArm_26 (K : Kt) : tl K (lX1_throwsOfArm) 26 = o_istore 2 27 := rfl
theorem aX1_throwsOfArm_27 (K : Kt) : tl K (lX1_throwsOfArm) 27 = o_iinc 3 (nI 1) 30 := rfl
theorem aX1_throwsOfArm_30 (K : Kt) : tl K (lX1_throwsOfArm) 30 = o_goto 4 := rfl
theorem aX1_throwsOfArm_33 (K : Kt) : tl K (lX1_throwsOfArm) 33 = o_iload 2 34 := rfl
theorem aX1_throwsOfArm_34 (K : Kt) : tl K (lX1_throwsOfArm) 34 = o_iret K := rfl
theorem eX5_has {As L : List Value} {w : Wd} {K : Kt} (hw : wds As ≤ 3) (hL : ent 3 As = L) (h : RR (tl K lX5_has) 0 L [] w) : fX5_has As w K := ⟨hw, by rw [hL]; exact h⟩
theorem nX5_has : MonoF fX5_has := mono_f 3 lX5_has
theorem aX5_has_0 (K : Kt) : tl K (lX5_has) 0 = o_aload 0 1 := rfl
theorem aX5_has_1 (K : Kt) : tl K (lX5_has) 1 = o_iload 1 2 := rfl
theorem aX5_has_2 (K : Kt) : tl K (lX5_has) 2 = o_iload 2 3 := rfl
theorem aX5_has_3 (K : Kt) : tl K (lX5_has) 3 = o_callV fX5_loadOf 2 5 6 := rfl
theorem aX5_has_6 (K : Kt) : tl K (lX5_has) 6 = o_if_le 13 9 := rfl
theorem aX5_has_9 (K : Kt) : tl K (lX5_has) 9 = o_pushI (nI 1) 10 := rfl
theorem aX5_has_10 (K : Kt) : tl K (lX5_has) 10 = o_goto 14 := rfl
theorem aX5_has_13 (K : Kt) : tl K (lX5_has) 13 = o_pushI (nI 0) 14 := rfl
theorem aX5_has_14 (K : Kt) : tl K (lX5_has) 14 = o_zret K := rfl
theorem eX1_outingsOfArm {As L : List Value} {w : Wd} {K : Kt} (hw : wds As ≤ 4) (hL : ent 4 As = L) (h : RR (tl K lX1_outingsOfArm) 0 L [] w) : fX1_outingsOfArm As w K := ⟨hw, by rw [hL]; exact h⟩
theorem nX1_outingsOfArm : MonoF fX1_outingsOfArm := mono_f 4 lX1_outingsOfArm
theorem aX1_outingsOfArm_0 (K : Kt) : tl K (lX1_outingsOfArm) 0 = o_pushI (nI 0) 1 := rfl
theorem aX1_outingsOfArm_1 (K : Kt) : tl K (lX1_outingsOfArm) 1 = o_istore 2 2 := rfl
theorem aX1_outingsOfArm_2 (K : Kt) : tl K (lX1_outingsOfArm) 2 = o_pushI (nI 0) 3 := rfl
theorem aX1_outingsOfArm_3 (K : Kt) : tl K (lX1_outingsOfArm) 3 = o_istore 3 4 := rfl
theorem aX1_outingsOfArm_4 (K : Kt) : tl K (lX1_outingsOfArm) 4 = o_iload 3 5 := rfl
theorem aX1_outingsOfArm_5 (K : Kt) : tl K (lX1_outingsOfArm) 5 = o_aload 0 6 := rfl
theorem aX1_outingsOfArm_6 (K : Kt) : tl K (lX1_outingsOfArm) 6 = o_get 1 0 9 := rfl
theorem aX1_outingsOfArm_9 (K : Kt) : tl K (lX1_outingsOfArm) 9 = o_get 9 4 12 := rfl
theorem aX1_outingsOfArm_12 (K : Kt) : tl K (lX1_outingsOfArm) 12 = o_icmp_ge 41 15 := rfl
theorem aX1_outingsOfArm_15 (K : Kt) : tl K (lX1_outingsOfArm) 15 = o_iload 2 16 := rfl
theorem aX1_outingsOfArm_16 (K : Kt) : tl K (lX1_outingsOfArm) 16 = o_aload 0 17 := rfl
theorem aX1_outingsOfArm_17 (K : Kt) : tl K (lX1_outingsOfArm) 17 = o_get 1 1 20 := rfl
theorem aX1_outingsOfArm_20 (K : Kt) : tl K (lX1_outingsOfArm) 20 = o_iload 1 21 := rfl
theorem aX1_outingsOfArm_21 (K : Kt) : tl K (lX1_outingsOfArm) 21 = o_iload 3 22 := rfl
theorem aX1_outingsOfArm_22 (K : Kt) : tl K (lX1_outingsOfArm) 22 = o_callV fX5_has 2 5 25 := rfl
theorem aX1_outingsOfArm_25 (K : Kt) : tl K (lX1_outingsOfArm) 25 = o_if_eq 32 28 := rfl
theorem aX1_outingsOfArm_28 (K : Kt) : tl K (lX1_outingsOfArm) 28 = o_pushI (nI 1) 29 := rfl
theorem aX1_outingsOfArm_29 (K : Kt) : tl K (lX1_outingsOfArm) 29 = o_goto 33 := rfl
theorem aX1_outingsOfArm_32 (K : Kt) : tl K (lX1_outingsOfArm) 32 = o_pushI (nI 0) 33 := rfl
theorem aX1_outingsOfArm_33 (K : Kt) : tl K (lX1_outingsOfArm) 33 = o_iadd 34 := rfl
theorem aX1_outingsOfArm_34 (K : Kt) : tl K (lX1_outingsOfArm) 34 = o_istore 2 35 := rfl
theorem aX1_outingsOfArm_35 (K : Kt) : tl K (lX1_outingsOfArm) 35 = o_iinc 3 (nI 1) 38 := rfl
theorem aX1_outingsOfArm_38 (K : Kt) : tl K (lX1_outingsOfArm) 38 = o_goto 4 := rfl
theorem aX1_outingsOfArm_41 (K : Kt) : tl K (lX1_outingsOfArm) 41 = o_iload 2 42 := rfl
theorem aX1_outingsOfArm_42 (K : Kt) : tl K (lX1_outingsOfArm) 42 = o_iret K := rfl
theorem eX1_valueOfArm {As L : List Value} {w : Wd} {K : Kt} (hw : wds As ≤ 4) (hL : ent 4 As = L) (h : RR (tl K lX1_valueOfArm) 0 L [] w) : fX1_valueOfArm As w K := ⟨hw, by rw [hL]; exact h⟩
theorem nX1_valueOfArm : MonoF fX1_valueOfArm := mono_f 4 lX1_valueOfArm
theorem aX1_valueOfArm_0 (K : Kt) : tl K (lX1_valueOfArm) 0 = o_pushI (nI 0) 1 := rfl
theorem aX1_valueOfArm_1 (K : Kt) : tl K (lX1_valueOfArm) 1 = o_istore 2 2 := rfl
theorem aX1_valueOfArm_2 (K : Kt) : tl K (lX1_valueOfArm) 2 = o_pushI (nI 0) 3 := rfl
theorem aX1_valueOfArm_3 (K : Kt) : tl K (lX1_valueOfArm) 3 = o_istore 3 4 := rfl
theorem aX1_valueOfArm_4 (K : Kt) : tl K (lX1_valueOfArm) 4 = o_iload 3 5 := rfl
theorem aX1_valueOfArm_5 (K : Kt) : tl K (lX1_valueOfArm) 5 = o_aload 0 6 := rfl
theorem aX1_valueOfArm_6 (K : Kt) : tl K (lX1_valueOfArm) 6 = o_get 1 0 9 := rfl
theorem aX1_valueOfArm_9 (K : Kt) : tl K (lX1_valueOfArm) 9 = o_get 9 4 12 := rfl
theorem aX1_valueOfArm_12 (K : Kt) : tl K (lX1_valueOfArm) 12 = o_icmp_ge 39 15 := rfl
theorem aX1_valueOfArm_15 (K : Kt) : tl K (lX1_valueOfArm) 15 = o_iload 2 16 := rfl
theorem aX1_valueOfArm_16 (K : Kt) : tl K (lX1_valueOfArm) 16 = o_aload 0 17 := rfl
theorem aX1_valueOfArm_17 (K : Kt) : tl K (lX1_valueOfArm) 17 = o_iload 1 18 := rfl
theorem aX1_valueOfArm_18 (K : Kt) : tl K (lX1_valueOfArm) 18 = o_iload 3 19 := rfl
theorem aX1_valueOfArm_19 (K : Kt) : tl K (lX1_valueOfArm) 19 = o_aload 0 20 := rfl
theorem aX1_valueOfArm_20 (K : Kt) : tl K (lX1_valueOfArm) 20 = o_get 1 1 23 := rfl
theorem aX1_valueOfArm_23 (K : Kt) : tl K (lX1_valueOfArm) 23 = o_iload 1 24 := rfl
theorem aX1_valueOfArm_24 (K : Kt) : tl K (lX1_valueOfArm) 24 = o_iload 3 25 := rfl
theorem aX1_valueOfArm_25 (K : Kt) : tl K (lX1_valueOfArm) 25 = o_callV fX5_loadOf 2 5 28 := rfl
theorem aX1_valueOfArm_28 (K : Kt) : tl K (lX1_valueOfArm) 28 = o_callV fX1_valueOf 3 1 31 := rfl
theorem aX1_valueOfArm_31 (K : Kt) : tl K (lX1_valueOfArm) 31 = o_iadd 32 := rfl
theorem aX1_valueOfArm_32 (K : Kt) : tl K (lX1_valueOfArm) 32 = o_istore 2 33 := rfl
theorem aX1_valueOfArm_33 (K : Kt) : tl K (lX1_valueOfArm) 33 = o_iinc 3 (nI 1) 36 := rfl
theorem aX1_valueOfArm_36 (K : Kt) : tl K (lX1_valueOfArm) 36 = o_goto 4 := rfl
theorem aX1_valueOfArm_39 (K : Kt) : tl K (lX1_valueOfArm) 39 = o_iload 2 40 := rfl
theorem aX1_valueOfArm_40 (K : Kt) : tl K (lX1_valueOfArm) 40 = o_iret K := rfl
theorem eX10_within {As L : List Value} {w : Wd} {K : Kt} (hw : wds As ≤ 3) (hL : ent 3 As = L) (h : RR (tl K lX10_within) 0 L [] w) : fX10_within As w K := ⟨hw, by rw [hL]; exact h⟩
theorem nX10_within : MonoF fX10_within := mono_f 3 lX10_within
theorem aX10_within_0 (K : Kt) : tl K (lX10_within) 0 = o_iload 0 1 := rfl
theorem aX10_within_1 (K : Kt) : tl K (lX10_within) 1 = o_iload 1 2 := rfl
theorem aX10_within_2 (K : Kt) : tl K (lX10_within) 2 = o_icmp_lt 14 5 := rfl
theorem aX10_within_5 (K : Kt) : tl K (lX10_within) 5 = o_iload 0 6 := rfl
theorem aX10_within_6 (K : Kt) : tl K (lX10_within) 6 = o_iload 2 7 := rfl
theorem aX10_within_7 (K : Kt) : tl K (lX10_within) 7 = o_icmp_gt 14 10 := rfl
theorem aX10_within_10 (K : Kt) : tl K (lX10_within) 10 = o_pushI (nI 1) 11 := rfl
theorem aX10_within_11 (K : Kt) : tl K (lX10_within) 11 = o_goto 15 := rfl
theorem aX10_within_14 (K : Kt) : tl K (lX10_within) 14 = o_pushI (nI 0) 15 := rfl
theorem aX10_within_15 (K : Kt) : tl K (lX10_within) 15 = o_zret K := rfl
theorem eX1_weekOfArm {As L : List Value} {w : Wd} {K : Kt} (hw : wds As ≤ 5) (hL : ent 5 As = L) (h : RR (tl K lX1_weekOfArm) 0 L [] w) : fX1_weekOfArm As w K := ⟨hw, by rw [hL]; exact h⟩
theorem nX1_weekOfArm : MonoF fX1_weekOfArm := mono_f 5 lX1_weekOfArm
theorem aX1_weekOfArm_0 (K : Kt) : tl K (lX1_weekOfArm) 0 = o_pushI (nI 0) 1 := rfl
theorem aX1_weekOfArm_1 (K : Kt) : tl K (lX1_weekOfArm) 1 = o_istore 3 2 := rfl
theorem aX1_weekOfArm_2 (K : Kt) : tl K (lX1_weekOfArm) 2 = o_pushI (nI 0) 3 := rfl
theorem aX1_weekOfArm_3 (K : Kt) : tl K (lX1_weekOfArm) 3 = o_istore 4 5 := rfl
theorem aX1_weekOfArm_5 (K : Kt) : tl K (lX1_weekOfArm) 5 = o_iload 4 7 := rfl
theorem aX1_weekOfArm_7 (K : Kt) : tl K (lX1_weekOfArm) 7 = o_aload 0 8 := rfl
theorem aX1_weekOfArm_8 (K : Kt) : tl K (lX1_weekOfArm) 8 = o_get 1 0 11 := rfl
theorem aX1_weekOfArm_11 (K : Kt) : tl K (lX1_weekOfArm) 11 = o_get 9 4 14 := rfl
theorem aX1_weekOfArm_14 (K : Kt) : tl K (lX1_weekOfArm) 14 = o_icmp_ge 59 17 := rfl
theorem aX1_weekOfArm_17 (K : Kt) : tl K (lX1_weekOfArm) 17 = o_aload 0 18 := rfl
theorem aX1_weekOfArm_18 (K : Kt) : tl K (lX1_weekOfArm) 18 = o_get 1 0 21 := rfl
theorem aX1_weekOfArm_21 (K : Kt) : tl K (lX1_weekOfArm) 21 = o_iload 4 23 := rfl
theorem aX1_weekOfArm_23 (K : Kt) : tl K (lX1_weekOfArm) 23 = o_pushI (nI 0) 24 := rfl
theorem aX1_weekOfArm_24 (K : Kt) : tl K (lX1_weekOfArm) 24 = o_callV fX9_fact 2 9 27 := rfl
theorem aX1_weekOfArm_27 (K : Kt) : tl K (lX1_weekOfArm) 27 = o_iload 2 28 := rfl
theorem aX1_weekOfArm_28 (K : Kt) : tl K (lX1_weekOfArm) 28 = o_pushI (nI 7) 30 := rfl
theorem aX1_weekOfArm_30 (K : Kt) : tl K (lX1_weekOfArm) 30 = o_isub 31 := rfl
theorem aX1_weekOfArm_31 (K : Kt) : tl K (lX1_weekOfArm) 31 = o_pushI (nI 1) 32 := rfl
theorem aX1_weekOfArm_32 (K : Kt) : tl K (lX1_weekOfArm) 32 = o_iadd 33 := rfl
theorem aX1_weekOfArm_33 (K : Kt) : tl K (lX1_weekOfArm) 33 = o_iload 2 34 := rfl
theorem aX1_weekOfArm_34 (K : Kt) : tl K (lX1_weekOfArm) 34 = o_callS fX10_within 3 37 := rfl
theorem aX1_weekOfArm_37 (K : Kt) : tl K (lX1_weekOfArm) 37 = o_if_eq 53 40 := rfl
theorem aX1_weekOfArm_40 (K : Kt) : tl K (lX1_weekOfArm) 40 = o_iload 3 41 := rfl
theorem aX1_weekOfArm_41 (K : Kt) : tl K (lX1_weekOfArm) 41 = o_aload 0 42 := rfl
theorem aX1_weekOfArm_42 (K : Kt) : tl K (lX1_weekOfArm) 42 = o_get 1 1 45 := rfl
theorem aX1_weekOfArm_45 (K : Kt) : tl K (lX1_weekOfArm) 45 = o_iload 1 46 := rfl
theorem aX1_weekOfArm_46 (K : Kt) : tl K (lX1_weekOfArm) 46 = o_iload 4 48 := rfl
theorem aX1_weekOfArm_48 (K : Kt) : tl K (lX1_weekOfArm) 48 = o_callV fX5_loadOf 2 5 51 := rfl
theorem aX1_weekOfArm_51 (K : Kt) : tl K (lX1_weekOfArm) 51 = o_iadd 52 := rfl
theorem aX1_weekOfArm_52 (K : Kt) : tl K (lX1_weekOfArm) 52 = o_istore 3 53 := rfl
theorem aX1_weekOfArm_53 (K : Kt) : tl K (lX1_weekOfArm) 53 = o_iinc 4 (nI 1) 56 := rfl
theorem aX1_weekOfArm_56 (K : Kt) : tl K (lX1_weekOfArm) 56 = o_goto 5 := rfl
theorem aX1_weekOfArm_59 (K : Kt) : tl K (lX1_weekOfArm) 59 = o_iload 3 60 := rfl
theorem aX1_weekOfArm_60 (K : Kt) : tl K (lX1_weekOfArm) 60 = o_iret K := rfl
theorem eX3_allowsIn {As L : List Value} {w : Wd} {K : Kt} (hw : wds As ≤ 4) (hL : ent 4 As = L) (h : RR (tl K lX3_allowsIn) 0 L [] w) : fX3_allowsIn As w K := ⟨hw, by rw [hL]; exact h⟩
theorem nX3_allowsIn : MonoF fX3_allowsIn := mono_f 4 lX3_allowsIn
theorem aX3_allowsIn_0 (K : Kt) : tl K (lX3_allowsIn) 0 = o_aload 0 1 := rfl
theorem aX3_allowsIn_1 (K : Kt) : tl K (lX3_allowsIn) 1 = o_iload 1 2 := rfl
theorem aX3_allowsIn_2 (K : Kt) : tl K (lX3_allowsIn) 2 = o_callV fX3_open 1 3 5 := rfl
theorem aX3_allowsIn_5 (K : Kt) : tl K (lX3_allowsIn) 5 = o_aload 0 6 := rfl
theorem aX3_allowsIn_6 (K : Kt) : tl K (lX3_allowsIn) 6 = o_iload 2 7 := rfl
theorem aX3_allowsIn_7 (K : Kt) : tl K (lX3_allowsIn) 7 = o_iload 3 8 := rfl
theorem aX3_allowsIn_8 (K : Kt) : tl K (lX3_allowsIn) 8 = o_callV fX3_clashes 2 3 11 := rfl
theorem aX3_allowsIn_11 (K : Kt) : tl K (lX3_allowsIn) 11 = o_if_ne 18 14 := rfl
theorem aX3_allowsIn_14 (K : Kt) : tl K (lX3_allowsIn) 14 = o_pushI (nI 1) 15 := rfl
theorem aX3_allowsIn_15 (K : Kt) : tl K (lX3_allowsIn) 15 = o_goto 19 := rfl
theorem aX3_allowsIn_18 (K : Kt) : tl K (lX3_allowsIn) 18 = o_pushI (nI 0) 19 := rfl
theorem aX3_allowsIn_19 (K : Kt) : tl K (lX3_allowsIn) 19 = o_zret K := rfl
theorem eX2_chooseOther {As L : List Value} {w : Wd} {K : Kt} (hw : wds As ≤ 8) (hL : ent 8 As = L) (h : RR (tl K lX2_chooseOther) 0 L [] w) : fX2_chooseOther As w K := ⟨hw, by rw [hL]; exact h⟩
theorem nX2_chooseOther : MonoF fX2_chooseOther := mono_f 8 lX2_chooseOther
theorem aX2_chooseOther_0 (K : Kt) : tl K (lX2_chooseOther) 0 = o_aload 0 1 := rfl
theorem aX2_chooseOther_1 (K : Kt) : tl K (lX2_chooseOther) 1 = o_get 2 0 4 := rfl
theorem aX2_chooseOther_4 (K : Kt) : tl K (lX2_chooseOther) 4 = o_get 1 0 7 := rfl
theorem aX2_chooseOther_7 (K : Kt) : tl K (lX2_chooseOther) 7 = o_iload 1 8 := rfl
theorem aX2_chooseOther_8 (K : Kt) : tl K (lX2_chooseOther) 8 = o_pushI (nI 2) 9 := rfl
theorem aX2_chooseOther_9 (K : Kt) : tl K (lX2_chooseOther) 9 = o_callV fX9_fact 2 9 12 := rfl
theorem aX2_chooseOther_12 (K : Kt) : tl K (lX2_chooseOther) 12 = o_iload 3 13 := rfl
theorem aX2_chooseOther_13 (K : Kt) : tl K (lX2_chooseOther) 13 = o_isub 14 := rfl
theorem aX2_chooseOther_14 (K : Kt) : tl K (lX2_chooseOther) 14 = o_istore 4 16 := rfl
theorem aX2_chooseOther_16 (K : Kt) : tl K (lX2_chooseOther) 16 = o_pushI (nI 0) 17 := rfl
theorem aX2_chooseOther_17 (K : Kt) : tl K (lX2_chooseOther) 17 = o_istore 5 19 := rfl
theorem aX2_chooseOther_19 (K : Kt) : tl K (lX2_chooseOther) 19 = o_iload 5 21 := rfl
theorem aX2_chooseOther_21 (K : Kt) : tl K (lX2_chooseOther) 21 = o_aload 0 22 := rfl
theorem aX2_chooseOther_22 (K : Kt) : tl K (lX2_chooseOther) 22 = o_get 2 0 25 := rfl
theorem aX2_chooseOther_25 (K : Kt) : tl K (lX2_chooseOther) 25 = o_get 1 0 28 := rfl
theorem aX2_chooseOther_28 (K : Kt) : tl K (lX2_chooseOther) 28 = o_get 9 0 31 := rfl
theorem aX2_chooseOther_31 (K : Kt) : tl K (lX2_chooseOther) 31 = o_icmp_ge 132 34 := rfl
theorem aX2_chooseOther_34 (K : Kt) : tl K (lX2_chooseOther) 34 = o_aload 0 35 := rfl
theorem aX2_chooseOther_35 (K : Kt) : tl K (lX2_chooseOther) 35 = o_get 2 0 38 := rfl
theorem aX2_chooseOther_38 (K : Kt) : tl K (lX2_chooseOther) 38 = o_get 1 0 41 := rfl
theorem aX2_chooseOther_41 (K : Kt) : tl K (lX2_chooseOther) 41 = o_iload 5 43 := rfl
theorem aX2_chooseOther_43 (K : Kt) : tl K (lX2_chooseOther) 43 = o_pushI (nI 1) 44 := rfl
theorem aX2_chooseOther_44 (K : Kt) : tl K (lX2_chooseOther) 44 = o_callV fX9_trait 2 9 47 := rfl
theorem aX2_chooseOther_47 (K : Kt) : tl K (lX2_chooseOther) 47 = o_iload 4 49 := rfl
theorem aX2_chooseOther_49 (K : Kt) : tl K (lX2_chooseOther) 49 = o_min 52 := rfl
theorem aX2_chooseOther_52 (K : Kt) : tl K (lX2_chooseOther) 52 = o_istore 6 54 := rfl
theorem aX2_chooseOther_54 (K : Kt) : tl K (lX2_chooseOther) 54 = o_aload 0 55 := rfl
theorem aX2_chooseOther_55 (K : Kt) : tl K (lX2_chooseOther) 55 = o_get 2 0 58 := rfl
theorem aX2_chooseOther_58 (K : Kt) : tl K (lX2_chooseOther) 58 = o_iload 2 59 := rfl
theorem aX2_chooseOther_59 (K : Kt) : tl K (lX2_chooseOther) 59 = o_iload 1 60 := rfl
theorem aX2_chooseOther_60 (K : Kt) : tl K (lX2_chooseOther) 60 = o_iload 3 61 := rfl
theorem aX2_chooseOther_61 (K : Kt) : tl K (lX2_chooseOther) 61 = o_callV fX1_valueOf 3 1 64 := rfl
theorem aX2_chooseOther_64 (K : Kt) : tl K (lX2_chooseOther) 64 = o_aload 0 65 := rfl
theorem aX2_chooseOther_65 (K : Kt) : tl K (lX2_chooseOther) 65 = o_get 2 0 68 := rfl
theorem aX2_chooseOther_68 (K : Kt) : tl K (lX2_chooseOther) 68 = o_iload 5 70 := rfl
theorem aX2_chooseOther_70 (K : Kt) : tl K (lX2_chooseOther) 70 = o_iload 1 71 := rfl
theorem aX2_chooseOther_71 (K : Kt) : tl K (lX2_chooseOther) 71 = o_iload 6 73 := rfl
theorem aX2_chooseOther_73 (K : Kt) : tl K (lX2_chooseOther) 73 = o_callV fX1_valueOf 3 1 76 := rfl
theorem aX2_chooseOther_76 (K : Kt) : tl K (lX2_chooseOther) 76 = o_iadd 77 := rfl
theorem aX2_chooseOther_77 (K : Kt) : tl K (lX2_chooseOther) 77 = o_istore 7 79 := rfl
theorem aX2_chooseOther_79 (K : Kt) : tl K (lX2_chooseOther) 79 = o_iload 5 81 := rfl
theorem aX2_chooseOther_81 (K : Kt) : tl K (lX2_chooseOther) 81 = o_iload 2 82 := rfl
theorem aX2_chooseOther_82 (K : Kt) : tl K (lX2_chooseOther) 82 = o_icmp_eq 126 85 := rfl
theorem aX2_chooseOther_85 (K : Kt) : tl K (lX2_chooseOther) 85 = o_iload 7 87 := rfl
theorem aX2_chooseOther_87 (K : Kt) : tl K (lX2_chooseOther) 87 = o_aload 0 88 := rfl
theorem aX2_chooseOther_88 (K : Kt) : tl K (lX2_chooseOther) 88 = o_get 2 2 91 := rfl
theorem aX2_chooseOther_91 (K : Kt) : tl K (lX2_chooseOther) 91 = o_icmp_le 126 94 := rfl
theorem aX2_chooseOther_94 (K : Kt) : tl K (lX2_chooseOther) 94 = o_aload 0 95 := rfl
theorem aX2_chooseOther_95 (K : Kt) : tl K (lX2_chooseOther) 95 = o_get 2 1 98 := rfl
theorem aX2_chooseOther_98 (K : Kt) : tl K (lX2_chooseOther) 98 = o_iload 5 100 := rfl
theorem aX2_chooseOther_100 (K : Kt) : tl K (lX2_chooseOther) 100 = o_iload 1 101 := rfl
theorem aX2_chooseOther_101 (K : Kt) : tl K (lX2_chooseOther) 101 = o_iload 6 103 := rfl
theorem aX2_chooseOther_103 (K : Kt) : tl K (lX2_chooseOther) 103 = o_callV fX3_allowsIn 3 3 106 := rfl
theorem aX2_chooseOther_106 (K : Kt) : tl K (lX2_chooseOther) 106 = o_if_eq 126 109 := rfl
theorem aX2_chooseOther_109 (K : Kt) : tl K (lX2_chooseOther) 109 = o_aload 0 110 := rfl
theorem aX2_chooseOther_110 (K : Kt) : tl K (lX2_chooseOther) 110 = o_iload 7 112 := rfl
theorem aX2_chooseOther_112 (K : Kt) : tl K (lX2_chooseOther) 112 = o_putI 2 2 115 := rfl
theorem aX2_chooseOther_115 (K : Kt) : tl K (lX2_chooseOther) 115 = o_aload 0 116 := rfl
theorem aX2_chooseOther_116 (K : Kt) : tl K (lX2_chooseOther) 116 = o_iload 2 117 := rfl
theorem aX2_chooseOther_117 (K : Kt) : tl K (lX2_chooseOther) 117 = o_putI 2 3 120 := rfl
theorem aX2_chooseOther_120 (K : Kt) : tl K (lX2_chooseOther) 120 = o_aload 0 121 := rfl
set_option maxRecDepth 8000 in
theorem aX2_chooseOther_121 (K : Kt) : tl K (lX2_chooseOther) 121 = o_iload 5 123 := rfl
set_option maxRecDepth 8000 in
theorem aX2_chooseOther_123 (K : Kt) : tl K (lX2_chooseOther) 123 = o_putI 2 4 126 := rfl
set_option maxRecDepth 8000 in
theorem aX2_chooseOther_126 (K : Kt) : tl K (lX2_chooseOther) 126 = o_iinc 5 (nI 1) 129 := rfl
set_option maxRecDepth 8000 in
theorem aX2_chooseOther_129 (K : Kt) : tl K (lX2_chooseOther) 129 = o_goto 19 := rfl
set_option maxRecDepth 8000 in
theorem aX2_chooseOther_132 (K : Kt) : tl K (lX2_chooseOther) 132 = o_vret K := rfl
theorem eX2_choosePair {As L : List Value} {w : Wd} {K : Kt} (hw : wds As ≤ 5) (hL : ent 5 As = L) (h : RR (tl K lX2_choosePair) 0 L [] w) : fX2_choosePair As w K := ⟨hw, by rw [hL]; exact h⟩
theorem nX2_choosePair : MonoF fX2_choosePair := mono_f 5 lX2_choosePair
theorem aX2_choosePair_0 (K : Kt) : tl K (lX2_choosePair) 0 = o_aload 0 1 := rfl
theorem aX2_choosePair_1 (K : Kt) : tl K (lX2_choosePair) 1 = o_pushI ((-2)) 3 := rfl
theorem aX2_choosePair_3 (K : Kt) : tl K (lX2_choosePair) 3 = o_putI 2 2 6 := rfl
theorem aX2_choosePair_6 (K : Kt) : tl K (lX2_choosePair) 6 = o_aload 0 7 := rfl
theorem aX2_choosePair_7 (K : Kt) : tl K (lX2_choosePair) 7 = o_pushI ((-2)) 9 := rfl
theorem aX2_choosePair_9 (K : Kt) : tl K (lX2_choosePair) 9 = o_putI 2 3 12 := rfl
theorem aX2_choosePair_12 (K : Kt) : tl K (lX2_choosePair) 12 = o_aload 0 13 := rfl
theorem aX2_choosePair_13 (K : Kt) : tl K (lX2_choosePair) 13 = o_pushI ((-2)) 15 := rfl
theorem aX2_choosePair_15 (K : Kt) : tl K (lX2_choosePair) 15 = o_putI 2 4 18 := rfl
theorem aX2_choosePair_18 (K : Kt) : tl K (lX2_choosePair) 18 = o_pushI (nI 0) 19 := rfl
theorem aX2_choosePair_19 (K : Kt) : tl K (lX2_choosePair) 19 = o_istore 3 20 := rfl
theorem aX2_choosePair_20 (K : Kt) : tl K (lX2_choosePair) 20 = o_iload 3 21 := rfl
theorem aX2_choosePair_21 (K : Kt) : tl K (lX2_choosePair) 21 = o_aload 0 22 := rfl
theorem aX2_choosePair_22 (K : Kt) : tl K (lX2_choosePair) 22 = o_get 2 0 25 := rfl
theorem aX2_choosePair_25 (K : Kt) : tl K (lX2_choosePair) 25 = o_get 1 0 28 := rfl
theorem aX2_choosePair_28 (K : Kt) : tl K (lX2_choosePair) 28 = o_get 9 0 31 := rfl
theorem aX2_choosePair_31 (K : Kt) : tl K (lX2_choosePair) 31 = o_icmp_ge 94 34 := rfl
theorem aX2_choosePair_34 (K : Kt) : tl K (lX2_choosePair) 34 = o_iload 2 35 := rfl
theorem aX2_choosePair_35 (K : Kt) : tl K (lX2_choosePair) 35 = o_aload 0 36 := rfl
theorem aX2_choosePair_36 (K : Kt) : tl K (lX2_choosePair) 36 = o_get 2 0 39 := rfl
theorem aX2_choosePair_39 (K : Kt) : tl K (lX2_choosePair) 39 = o_iload 3 40 := rfl
theorem aX2_choosePair_40 (K : Kt) : tl K (lX2_choosePair) 40 = o_iload 1 41 := rfl
theorem aX2_choosePair_41 (K : Kt) : tl K (lX2_choosePair) 41 = o_callV fX1_fullThrows 2 1 44 := rfl
theorem aX2_choosePair_44 (K : Kt) : tl K (lX2_choosePair) 44 = o_min 47 := rfl
theorem aX2_choosePair_47 (K : Kt) : tl K (lX2_choosePair) 47 = o_istore 4 49 := rfl
theorem aX2_choosePair_49 (K : Kt) : tl K (lX2_choosePair) 49 = o_iload 4 51 := rfl
theorem aX2_choosePair_51 (K : Kt) : tl K (lX2_choosePair) 51 = o_aload 0 52 := rfl
theorem aX2_choosePair_52 (K : Kt) : tl K (lX2_choosePair) 52 = o_get 2 0 55 := rfl
theorem aX2_choosePair_55 (K : Kt) : tl K (lX2_choosePair) 55 = o_get 1 0 58 := rfl
theorem aX2_choosePair_58 (K : Kt) : tl K (lX2_choosePair) 58 = o_iload 1 59 := rfl
theorem aX2_choosePair_59 (K : Kt) : tl K (lX2_choosePair) 59 = o_pushI (nI 2) 60 := rfl
theorem aX2_choosePair_60 (K : Kt) : tl K (lX2_choosePair) 60 = o_callV fX9_fact 2 9 63 := rfl
theorem aX2_choosePair_63 (K : Kt) : tl K (lX2_choosePair) 63 = o_icmp_ge 88 66 := rfl
theorem aX2_choosePair_66 (K : Kt) : tl K (lX2_choosePair) 66 = o_aload 0 67 := rfl
theorem aX2_choosePair_67 (K : Kt) : tl K (lX2_choosePair) 67 = o_get 2 1 70 := rfl
theorem aX2_choosePair_70 (K : Kt) : tl K (lX2_choosePair) 70 = o_iload 3 71 := rfl
theorem aX2_choosePair_71 (K : Kt) : tl K (lX2_choosePair) 71 = o_iload 1 72 := rfl
theorem aX2_choosePair_72 (K : Kt) : tl K (lX2_choosePair) 72 = o_iload 4 74 := rfl
theorem aX2_choosePair_74 (K : Kt) : tl K (lX2_choosePair) 74 = o_callV fX3_allowsIn 3 3 77 := rfl
theorem aX2_choosePair_77 (K : Kt) : tl K (lX2_choosePair) 77 = o_if_eq 88 80 := rfl
theorem aX2_choosePair_80 (K : Kt) : tl K (lX2_choosePair) 80 = o_aload 0 81 := rfl
theorem aX2_choosePair_81 (K : Kt) : tl K (lX2_choosePair) 81 = o_iload 1 82 := rfl
theorem aX2_choosePair_82 (K : Kt) : tl K (lX2_choosePair) 82 = o_iload 3 83 := rfl
theorem aX2_choosePair_83 (K : Kt) : tl K (lX2_choosePair) 83 = o_iload 4 85 := rfl
theorem aX2_choosePair_85 (K : Kt) : tl K (lX2_choosePair) 85 = o_callV fX2_chooseOther 3 2 88 := rfl
theorem aX2_choosePair_88 (K : Kt) : tl K (lX2_choosePair) 88 = o_iinc 3 (nI 1) 91 := rfl
theorem aX2_choosePair_91 (K : Kt) : tl K (lX2_choosePair) 91 = o_goto 20 := rfl
theorem aX2_choosePair_94 (K : Kt) : tl K (lX2_choosePair) 94 = o_vret K := rfl
theorem eX3_mostOf {As L : List Value} {w : Wd} {K : Kt} (hw : wds As ≤ 7) (hL : ent 7 As = L) (h : RR (tl K lX3_mostOf) 0 L [] w) : fX3_mostOf As w K := ⟨hw, by rw [hL]; exact h⟩
theorem nX3_mostOf : MonoF fX3_mostOf := mono_f 7 lX3_mostOf
theorem aX3_mostOf_0 (K : Kt) : tl K (lX3_mostOf) 0 = o_aload 0 1 := rfl
theorem aX3_mostOf_1 (K : Kt) : tl K (lX3_mostOf) 1 = o_get 3 0 4 := rfl
theorem aX3_mostOf_4 (K : Kt) : tl K (lX3_mostOf) 4 = o_get 1 1 7 := rfl
theorem aX3_mostOf_7 (K : Kt) : tl K (lX3_mostOf) 7 = o_iload 1 8 := rfl
theorem aX3_mostOf_8 (K : Kt) : tl K (lX3_mostOf) 8 = o_iload 2 9 := rfl
theorem aX3_mostOf_9 (K : Kt) : tl K (lX3_mostOf) 9 = o_callV fX5_has 2 5 12 := rfl
theorem aX3_mostOf_12 (K : Kt) : tl K (lX3_mostOf) 12 = o_if_ne 31 15 := rfl
theorem aX3_mostOf_15 (K : Kt) : tl K (lX3_mostOf) 15 = o_aload 0 16 := rfl
theorem aX3_mostOf_16 (K : Kt) : tl K (lX3_mostOf) 16 = o_get 3 0 19 := rfl
theorem aX3_mostOf_19 (K : Kt) : tl K (lX3_mostOf) 19 = o_get 1 1 22 := rfl
theorem aX3_mostOf_22 (K : Kt) : tl K (lX3_mostOf) 22 = o_get 5 0 25 := rfl
theorem aX3_mostOf_25 (K : Kt) : tl K (lX3_mostOf) 25 = o_iload 2 26 := rfl
theorem aX3_mostOf_26 (K : Kt) : tl K (lX3_mostOf) 26 = o_iald 27 := rfl
theorem aX3_mostOf_27 (K : Kt) : tl K (lX3_mostOf) 27 = o_pushI (nI 3) 28 := rfl
theorem aX3_mostOf_28 (K : Kt) : tl K (lX3_mostOf) 28 = o_icmp_lt 33 31 := rfl
theorem aX3_mostOf_31 (K : Kt) : tl K (lX3_mostOf) 31 = o_pushI (nI 0) 32 := rfl
theorem aX3_mostOf_32 (K : Kt) : tl K (lX3_mostOf) 32 = o_iret K := rfl
theorem aX3_mostOf_33 (K : Kt) : tl K (lX3_mostOf) 33 = o_aload 0 34 := rfl
theorem aX3_mostOf_34 (K : Kt) : tl K (lX3_mostOf) 34 = o_iload 1 35 := rfl
theorem aX3_mostOf_35 (K : Kt) : tl K (lX3_mostOf) 35 = o_callV fX3_open 1 3 38 := rfl
theorem aX3_mostOf_38 (K : Kt) : tl K (lX3_mostOf) 38 = o_aload 0 39 := rfl
theorem aX3_mostOf_39 (K : Kt) : tl K (lX3_mostOf) 39 = o_iload 2 40 := rfl
theorem aX3_mostOf_40 (K : Kt) : tl K (lX3_mostOf) 40 = o_callV fX3_isRested 1 3 43 := rfl
theorem aX3_mostOf_43 (K : Kt) : tl K (lX3_mostOf) 43 = o_if_ne 48 46 := rfl
theorem aX3_mostOf_46 (K : Kt) : tl K (lX3_mostOf) 46 = o_pushI (nI 0) 47 := rfl
theorem aX3_mostOf_47 (K : Kt) : tl K (lX3_mostOf) 47 = o_iret K := rfl
theorem aX3_mostOf_48 (K : Kt) : tl K (lX3_mostOf) 48 = o_aload 0 49 := rfl
theorem aX3_mostOf_49 (K : Kt) : tl K (lX3_mostOf) 49 = o_get 3 0 52 := rfl
theorem aX3_mostOf_52 (K : Kt) : tl K (lX3_mostOf) 52 = o_get 1 0 55 := rfl
theorem aX3_mostOf_55 (K : Kt) : tl K (lX3_mostOf) 55 = o_iload 1 56 := rfl
theorem aX3_mostOf_56 (K : Kt) : tl K (lX3_mostOf) 56 = o_pushI (nI 1) 57 := rfl
theorem aX3_mostOf_57 (K : Kt) : tl K (lX3_mostOf) 57 = o_callV fX9_trait 2 9 60 := rfl
theorem aX3_mostOf_60 (K : Kt) : tl K (lX3_mostOf) 60 = o_aload 0 61 := rfl
theorem aX3_mostOf_61 (K : Kt) : tl K (lX3_mostOf) 61 = o_get 3 0 64 := rfl
theorem aX3_mostOf_64 (K : Kt) : tl K (lX3_mostOf) 64 = o_iload 2 65 := rfl
theorem aX3_mostOf_65 (K : Kt) : tl K (lX3_mostOf) 65 = o_callV fX1_leftIn 1 1 68 := rfl
theorem aX3_mostOf_68 (K : Kt) : tl K (lX3_mostOf) 68 = o_iload 3 69 := rfl
theorem aX3_mostOf_69 (K : Kt) : tl K (lX3_mostOf) 69 = o_iadd 70 := rfl
theorem aX3_mostOf_70 (K : Kt) : tl K (lX3_mostOf) 70 = o_min 73 := rfl
theorem aX3_mostOf_73 (K : Kt) : tl K (lX3_mostOf) 73 = o_istore 4 75 := rfl
theorem aX3_mostOf_75 (K : Kt) : tl K (lX3_mostOf) 75 = o_aload 0 76 := rfl
theorem aX3_mostOf_76 (K : Kt) : tl K (lX3_mostOf) 76 = o_iload 2 77 := rfl
theorem aX3_mostOf_77 (K : Kt) : tl K (lX3_mostOf) 77 = o_callV fX3_daysToNext 1 3 80 := rfl
theorem aX3_mostOf_80 (K : Kt) : tl K (lX3_mostOf) 80 = o_istore 5 82 := rfl
theorem aX3_mostOf_82 (K : Kt) : tl K (lX3_mostOf) 82 = o_iload 4 84 := rfl
theorem aX3_mostOf_84 (K : Kt) : tl K (lX3_mostOf) 84 = o_aload 0 85 := rfl
theorem aX3_mostOf_85 (K : Kt) : tl K (lX3_mostOf) 85 = o_iload 2 86 := rfl
theorem aX3_mostOf_86 (K : Kt) : tl K (lX3_mostOf) 86 = o_callV fX3_roomInWeek 1 3 89 := rfl
theorem aX3_mostOf_89 (K : Kt) : tl K (lX3_mostOf) 89 = o_min 92 := rfl
theorem aX3_mostOf_92 (K : Kt) : tl K (lX3_mostOf) 92 = o_istore 6 94 := rfl
theorem aX3_mostOf_94 (K : Kt) : tl K (lX3_mostOf) 94 = o_iload 6 96 := rfl
theorem aX3_mostOf_96 (K : Kt) : tl K (lX3_mostOf) 96 = o_if_le 125 99 := rfl
theorem aX3_mostOf_99 (K : Kt) : tl K (lX3_mostOf) 99 = o_aload 0 100 := rfl
theorem aX3_mostOf_100 (K : Kt) : tl K (lX3_mostOf) 100 = o_get 3 0 103 := rfl
theorem aX3_mostOf_103 (K : Kt) : tl K (lX3_mostOf) 103 = o_get 1 0 106 := rfl
theorem aX3_mostOf_106 (K : Kt) : tl K (lX3_mostOf) 106 = o_iload 6 108 := rfl
theorem aX3_mostOf_108 (K : Kt) : tl K (lX3_mostOf) 108 = o_callV fX9_restAfter 1 9 111 := rfl
theorem aX3_mostOf_111 (K : Kt) : tl K (lX3_mostOf) 111 = o_iload 5 113 := rfl
theorem aX3_mostOf_113 (K : Kt) : tl K (lX3_mostOf) 113 = o_icmp_ge 119 116 := rfl
theorem aX3_mostOf_116 (K : Kt) : tl K (lX3_mostOf) 116 = o_iload 6 118 := rfl
theorem aX3_mostOf_118 (K : Kt) : tl K (lX3_mostOf) 118 = o_iret K := rfl
set_option maxRecDepth 8000 in
theorem aX3_mostOf_119 (K : Kt) : tl K (lX3_mostOf) 119 = o_iinc 6 ((-1)) 122 := rfl
set_option maxRecDepth 8000 in
theorem aX3_mostOf_122 (K : Kt) : tl K (lX3_mostOf) 122 = o_goto 94 := rfl
set_option maxRecDepth 8000 in
theorem aX3_mostOf_125 (K : Kt) : tl K (lX3_mostOf) 125 = o_pushI (nI 0) 126 := rfl
set_option maxRecDepth 8000 in
theorem aX3_mostOf_126 (K : Kt) : tl K (lX3_mostOf) 126 = o_iret K := rfl
theorem eX5_setAt {As L : List Value} {w : Wd} {K : Kt} (hw : wds As ≤ 5) (hL : ent 5 As = L) (h : RR (tl K lX5_setAt) 0 L [] w) : fX5_setAt As w K := ⟨hw, by rw [hL]; exact h⟩
theorem nX5_setAt : MonoF fX5_setAt := mono_f 5 lX5_setAt
theorem aX5_setAt_0 (K : Kt) : tl K (lX5_setAt) 0 = o_aload 0 1 := rfl
theorem aX5_setAt_1 (K : Kt) : tl K (lX5_setAt) 1 = o_get 5 1 4 := rfl
theorem aX5_setAt_4 (K : Kt) : tl K (lX5_setAt) 4 = o_iload 1 5 := rfl
theorem aX5_setAt_5 (K : Kt) : tl K (lX5_setAt) 5 = o_pushI (nI 3) 6 := rfl
theorem aX5_setAt_6 (K : Kt) : tl K (lX5_setAt) 6 = o_imul 7 := rfl
theorem aX5_setAt_7 (K : Kt) : tl K (lX5_setAt) 7 = o_iload 2 8 := rfl
theorem aX5_setAt_8 (K : Kt) : tl K (lX5_setAt) 8 = o_iadd 9 := rfl
theorem aX5_setAt_9 (K : Kt) : tl K (lX5_setAt) 9 = o_iload 3 10 := rfl
theorem aX5_setAt_10 (K : Kt) : tl K (lX5_setAt) 10 = o_iast 11 := rfl
theorem aX5_setAt_11 (K : Kt) : tl K (lX5_setAt) 11 = o_aload 0 12 := rfl
theorem aX5_setAt_12 (K : Kt) : tl K (lX5_setAt) 12 = o_get 5 2 15 := rfl
theorem aX5_setAt_15 (K : Kt) : tl K (lX5_setAt) 15 = o_iload 1 16 := rfl
theorem aX5_setAt_16 (K : Kt) : tl K (lX5_setAt) 16 = o_pushI (nI 3) 17 := rfl
theorem aX5_setAt_17 (K : Kt) : tl K (lX5_setAt) 17 = o_imul 18 := rfl
theorem aX5_setAt_18 (K : Kt) : tl K (lX5_setAt) 18 = o_iload 2 19 := rfl
theorem aX5_setAt_19 (K : Kt) : tl K (lX5_setAt) 19 = o_iadd 20 := rfl
theorem aX5_setAt_20 (K : Kt) : tl K (lX5_setAt) 20 = o_iload 4 22 := rfl
theorem aX5_setAt_22 (K : Kt) : tl K (lX5_setAt) 22 = o_iast 23 := rfl
theorem aX5_setAt_23 (K : Kt) : tl K (lX5_setAt) 23 = o_aload 0 24 := rfl
theorem aX5_setAt_24 (K : Kt) : tl K (lX5_setAt) 24 = o_get 5 3 27 := rfl
theorem aX5_setAt_27 (K : Kt) : tl K (lX5_setAt) 27 = o_iload 3 28 := rfl
theorem aX5_setAt_28 (K : Kt) : tl K (lX5_setAt) 28 = o_pushI (nI 20) 30 := rfl
theorem aX5_setAt_30 (K : Kt) : tl K (lX5_setAt) 30 = o_imul 31 := rfl
theorem aX5_setAt_31 (K : Kt) : tl K (lX5_setAt) 31 = o_iload 1 32 := rfl
theorem aX5_setAt_32 (K : Kt) : tl K (lX5_setAt) 32 = o_iadd 33 := rfl
theorem aX5_setAt_33 (K : Kt) : tl K (lX5_setAt) 33 = o_iload 4 35 := rfl
theorem aX5_setAt_35 (K : Kt) : tl K (lX5_setAt) 35 = o_iast 36 := rfl
theorem aX5_setAt_36 (K : Kt) : tl K (lX5_setAt) 36 = o_vret K := rfl
theorem eX5_add {As L : List Value} {w : Wd} {K : Kt} (hw : wds As ≤ 4) (hL : ent 4 As = L) (h : RR (tl K lX5_add) 0 L [] w) : fX5_add As w K := ⟨hw, by rw [hL]; exact h⟩
theorem nX5_add : MonoF fX5_add := mono_f 4 lX5_add
theorem aX5_add_0 (K : Kt) : tl K (lX5_add) 0 = o_aload 0 1 := rfl
theorem aX5_add_1 (K : Kt) : tl K (lX5_add) 1 = o_get 5 0 4 := rfl
theorem aX5_add_4 (K : Kt) : tl K (lX5_add) 4 = o_iload 1 5 := rfl
theorem aX5_add_5 (K : Kt) : tl K (lX5_add) 5 = o_iald 6 := rfl
theorem aX5_add_6 (K : Kt) : tl K (lX5_add) 6 = o_pushI (nI 3) 7 := rfl
theorem aX5_add_7 (K : Kt) : tl K (lX5_add) 7 = o_icmp_ge 33 10 := rfl
theorem aX5_add_10 (K : Kt) : tl K (lX5_add) 10 = o_aload 0 11 := rfl
theorem aX5_add_11 (K : Kt) : tl K (lX5_add) 11 = o_iload 1 12 := rfl
theorem aX5_add_12 (K : Kt) : tl K (lX5_add) 12 = o_aload 0 13 := rfl
theorem aX5_add_13 (K : Kt) : tl K (lX5_add) 13 = o_get 5 0 16 := rfl
theorem aX5_add_16 (K : Kt) : tl K (lX5_add) 16 = o_iload 1 17 := rfl
theorem aX5_add_17 (K : Kt) : tl K (lX5_add) 17 = o_iald 18 := rfl
theorem aX5_add_18 (K : Kt) : tl K (lX5_add) 18 = o_iload 2 19 := rfl
theorem aX5_add_19 (K : Kt) : tl K (lX5_add) 19 = o_iload 3 20 := rfl
theorem aX5_add_20 (K : Kt) : tl K (lX5_add) 20 = o_callV fX5_setAt 4 5 23 := rfl
theorem aX5_add_23 (K : Kt) : tl K (lX5_add) 23 = o_aload 0 24 := rfl
theorem aX5_add_24 (K : Kt) : tl K (lX5_add) 24 = o_get 5 0 27 := rfl
theorem aX5_add_27 (K : Kt) : tl K (lX5_add) 27 = o_iload 1 28 := rfl
theorem aX5_add_28 (K : Kt) : tl K (lX5_add) 28 = o_dup2 29 := rfl
theorem aX5_add_29 (K : Kt) : tl K (lX5_add) 29 = o_iald 30 := rfl
theorem aX5_add_30 (K : Kt) : tl K (lX5_add) 30 = o_pushI (nI 1) 31 := rfl
theorem aX5_add_31 (K : Kt) : tl K (lX5_add) 31 = o_iadd 32 := rfl
theorem aX5_add_32 (K : Kt) : tl K (lX5_add) 32 = o_iast 33 := rfl
theorem aX5_add_33 (K : Kt) : tl K (lX5_add) 33 = o_vret K := rfl
theorem eX2_addOuting {As L : List Value} {w : Wd} {K : Kt} (hw : wds As ≤ 7) (hL : ent 7 As = L) (h : RR (tl K lX2_addOuting) 0 L [] w) : fX2_addOuting As w K := ⟨hw, by rw [hL]; exact h⟩
theorem nX2_addOuting : MonoF fX2_addOuting := mono_f 7 lX2_addOuting
theorem aX2_addOuting_0 (K : Kt) : tl K (lX2_addOuting) 0 = o_pushI ((-1)) 1 := rfl
theorem aX2_addOuting_1 (K : Kt) : tl K (lX2_addOuting) 1 = o_istore 2 2 := rfl
theorem aX2_addOuting_2 (K : Kt) : tl K (lX2_addOuting) 2 = o_pushI (nI 0) 3 := rfl
theorem aX2_addOuting_3 (K : Kt) : tl K (lX2_addOuting) 3 = o_istore 3 4 := rfl
theorem aX2_addOuting_4 (K : Kt) : tl K (lX2_addOuting) 4 = o_pushI ((-1)) 5 := rfl
theorem aX2_addOuting_5 (K : Kt) : tl K (lX2_addOuting) 5 = o_istore 4 7 := rfl
theorem aX2_addOuting_7 (K : Kt) : tl K (lX2_addOuting) 7 = o_pushI (nI 0) 8 := rfl
theorem aX2_addOuting_8 (K : Kt) : tl K (lX2_addOuting) 8 = o_istore 5 10 := rfl
theorem aX2_addOuting_10 (K : Kt) : tl K (lX2_addOuting) 10 = o_iload 5 12 := rfl
theorem aX2_addOuting_12 (K : Kt) : tl K (lX2_addOuting) 12 = o_aload 0 13 := rfl
theorem aX2_addOuting_13 (K : Kt) : tl K (lX2_addOuting) 13 = o_get 2 0 16 := rfl
theorem aX2_addOuting_16 (K : Kt) : tl K (lX2_addOuting) 16 = o_get 1 0 19 := rfl
theorem aX2_addOuting_19 (K : Kt) : tl K (lX2_addOuting) 19 = o_get 9 0 22 := rfl
theorem aX2_addOuting_22 (K : Kt) : tl K (lX2_addOuting) 22 = o_icmp_ge 86 25 := rfl
theorem aX2_addOuting_25 (K : Kt) : tl K (lX2_addOuting) 25 = o_aload 0 26 := rfl
theorem aX2_addOuting_26 (K : Kt) : tl K (lX2_addOuting) 26 = o_get 2 1 29 := rfl
theorem aX2_addOuting_29 (K : Kt) : tl K (lX2_addOuting) 29 = o_iload 5 31 := rfl
theorem aX2_addOuting_31 (K : Kt) : tl K (lX2_addOuting) 31 = o_iload 1 32 := rfl
theorem aX2_addOuting_32 (K : Kt) : tl K (lX2_addOuting) 32 = o_pushI (nI 0) 33 := rfl
theorem aX2_addOuting_33 (K : Kt) : tl K (lX2_addOuting) 33 = o_callV fX3_mostOf 3 3 36 := rfl
theorem aX2_addOuting_36 (K : Kt) : tl K (lX2_addOuting) 36 = o_istore 6 38 := rfl
theorem aX2_addOuting_38 (K : Kt) : tl K (lX2_addOuting) 38 = o_iload 6 40 := rfl
theorem aX2_addOuting_40 (K : Kt) : tl K (lX2_addOuting) 40 = o_if_le 80 43 := rfl
theorem aX2_addOuting_43 (K : Kt) : tl K (lX2_addOuting) 43 = o_aload 0 44 := rfl
theorem aX2_addOuting_44 (K : Kt) : tl K (lX2_addOuting) 44 = o_get 2 0 47 := rfl
theorem aX2_addOuting_47 (K : Kt) : tl K (lX2_addOuting) 47 = o_iload 5 49 := rfl
theorem aX2_addOuting_49 (K : Kt) : tl K (lX2_addOuting) 49 = o_iload 1 50 := rfl
theorem aX2_addOuting_50 (K : Kt) : tl K (lX2_addOuting) 50 = o_iload 6 52 := rfl
theorem aX2_addOuting_52 (K : Kt) : tl K (lX2_addOuting) 52 = o_callV fX1_valueOf 3 1 55 := rfl
theorem aX2_addOuting_55 (K : Kt) : tl K (lX2_addOuting) 55 = o_iload 4 57 := rfl
theorem aX2_addOuting_57 (K : Kt) : tl K (lX2_addOuting) 57 = o_icmp_le 80 60 := rfl
theorem aX2_addOuting_60 (K : Kt) : tl K (lX2_addOuting) 60 = o_aload 0 61 := rfl
theorem aX2_addOuting_61 (K : Kt) : tl K (lX2_addOuting) 61 = o_get 2 0 64 := rfl
theorem aX2_addOuting_64 (K : Kt) : tl K (lX2_addOuting) 64 = o_iload 5 66 := rfl
theorem aX2_addOuting_66 (K : Kt) : tl K (lX2_addOuting) 66 = o_iload 1 67 := rfl
theorem aX2_addOuting_67 (K : Kt) : tl K (lX2_addOuting) 67 = o_iload 6 69 := rfl
theorem aX2_addOuting_69 (K : Kt) : tl K (lX2_addOuting) 69 = o_callV fX1_valueOf 3 1 72 := rfl
theorem aX2_addOuting_72 (K : Kt) : tl K (lX2_addOuting) 72 = o_istore 4 74 := rfl
theorem aX2_addOuting_74 (K : Kt) : tl K (lX2_addOuting) 74 = o_iload 5 76 := rfl
theorem aX2_addOuting_76 (K : Kt) : tl K (lX2_addOuting) 76 = o_istore 2 77 := rfl
theorem aX2_addOuting_77 (K : Kt) : tl K (lX2_addOuting) 77 = o_iload 6 79 := rfl
theorem aX2_addOuting_79 (K : Kt) : tl K (lX2_addOuting) 79 = o_istore 3 80 := rfl
theorem aX2_addOuting_80 (K : Kt) : tl K (lX2_addOuting) 80 = o_iinc 5 (nI 1) 83 := rfl
theorem aX2_addOuting_83 (K : Kt) : tl K (lX2_addOuting) 83 = o_goto 10 := rfl
theorem aX2_addOuting_86 (K : Kt) : tl K (lX2_addOuting) 86 = o_iload 2 87 := rfl
theorem aX2_addOuting_87 (K : Kt) : tl K (lX2_addOuting) 87 = o_pushI ((-1)) 88 := rfl
theorem aX2_addOuting_88 (K : Kt) : tl K (lX2_addOuting) 88 = o_icmp_ne 93 91 := rfl
theorem aX2_addOuting_91 (K : Kt) : tl K (lX2_addOuting) 91 = o_pushI (nI 0) 92 := rfl
theorem aX2_addOuting_92 (K : Kt) : tl K (lX2_addOuting) 92 = o_zret K := rfl
theorem aX2_addOuting_93 (K : Kt) : tl K (lX2_addOuting) 93 = o_aload 0 94 := rfl
theorem aX2_addOuting_94 (K : Kt) : tl K (lX2_addOuting) 94 = o_get 2 0 97 := rfl
theorem aX2_addOuting_97 (K : Kt) : tl K (lX2_addOuting) 97 = o_get 1 1 100 := rfl
theorem aX2_addOuting_100 (K : Kt) : tl K (lX2_addOuting) 100 = o_iload 1 101 := rfl
theorem aX2_addOuting_101 (K : Kt) : tl K (lX2_addOuting) 101 = o_iload 2 102 := rfl
theorem aX2_addOuting_102 (K : Kt) : tl K (lX2_addOuting) 102 = o_iload 3 103 := rfl
theorem aX2_addOuting_103 (K : Kt) : tl K (lX2_addOuting) 103 = o_callV fX5_add 3 5 106 := rfl
theorem aX2_addOuting_106 (K : Kt) : tl K (lX2_addOuting) 106 = o_pushI (nI 1) 107 := rfl
theorem aX2_addOuting_107 (K : Kt) : tl K (lX2_addOuting) 107 = o_zret K := rfl
theorem eX2_fillGame {As L : List Value} {w : Wd} {K : Kt} (hw : wds As ≤ 3) (hL : ent 3 As = L) (h : RR (tl K lX2_fillGame) 0 L [] w) : fX2_fillGame As w K := ⟨hw, by rw [hL]; exact h⟩
theorem nX2_fillGame : MonoF fX2_fillGame := mono_f 3 lX2_fillGame
theorem aX2_fillGame_0 (K : Kt) : tl K (lX2_fillGame) 0 = o_pushI (nI 0) 1 := rfl
theorem aX2_fillGame_1 (K : Kt) : tl K (lX2_fillGame) 1 = o_istore 2 2 := rfl
theorem aX2_fillGame_2 (K : Kt) : tl K (lX2_fillGame) 2 = o_iload 2 3 := rfl
theorem aX2_fillGame_3 (K : Kt) : tl K (lX2_fillGame) 3 = o_pushI (nI 3) 4 := rfl
theorem aX2_fillGame_4 (K : Kt) : tl K (lX2_fillGame) 4 = o_icmp_ge 21 7 := rfl
theorem aX2_fillGame_7 (K : Kt) : tl K (lX2_fillGame) 7 = o_aload 0 8 := rfl
theorem aX2_fillGame_8 (K : Kt) : tl K (lX2_fillGame) 8 = o_iload 1 9 := rfl
theorem aX2_fillGame_9 (K : Kt) : tl K (lX2_fillGame) 9 = o_callV fX2_addOuting 1 2 12 := rfl
theorem aX2_fillGame_12 (K : Kt) : tl K (lX2_fillGame) 12 = o_if_eq 21 15 := rfl
theorem aX2_fillGame_15 (K : Kt) : tl K (lX2_fillGame) 15 = o_iinc 2 (nI 1) 18 := rfl
theorem aX2_fillGame_18 (K : Kt) : tl K (lX2_fillGame) 18 = o_goto 2 := rfl
theorem aX2_fillGame_21 (K : Kt) : tl K (lX2_fillGame) 21 = o_iload 2 22 := rfl
theorem aX2_fillGame_22 (K : Kt) : tl K (lX2_fillGame) 22 = o_iret K := rfl
theorem eX2_weighChanges {As L : List Value} {w : Wd} {K : Kt} (hw : wds As ≤ 7) (hL : ent 7 As = L) (h : RR (tl K lX2_weighChanges) 0 L [] w) : fX2_weighChanges As w K := ⟨hw, by rw [hL]; exact h⟩
theorem nX2_weighChanges : MonoF fX2_weighChanges := mono_f 7 lX2_weighChanges
theorem aX2_weighChanges_0 (K : Kt) : tl K (lX2_weighChanges) 0 = o_aload 0 1 := rfl
theorem aX2_weighChanges_1 (K : Kt) : tl K (lX2_weighChanges) 1 = o_get 2 0 4 := rfl
theorem aX2_weighChanges_4 (K : Kt) : tl K (lX2_weighChanges) 4 = o_get 1 1 7 := rfl
theorem aX2_weighChanges_7 (K : Kt) : tl K (lX2_weighChanges) 7 = o_iload 1 8 := rfl
theorem aX2_weighChanges_8 (K : Kt) : tl K (lX2_weighChanges) 8 = o_iload 2 9 := rfl
theorem aX2_weighChanges_9 (K : Kt) : tl K (lX2_weighChanges) 9 = o_callV fX5_throwsAt 2 5 12 := rfl
theorem aX2_weighChanges_12 (K : Kt) : tl K (lX2_weighChanges) 12 = o_istore 3 13 := rfl
theorem aX2_weighChanges_13 (K : Kt) : tl K (lX2_weighChanges) 13 = o_aload 0 14 := rfl
theorem aX2_weighChanges_14 (K : Kt) : tl K (lX2_weighChanges) 14 = o_get 2 0 17 := rfl
theorem aX2_weighChanges_17 (K : Kt) : tl K (lX2_weighChanges) 17 = o_iload 1 18 := rfl
theorem aX2_weighChanges_18 (K : Kt) : tl K (lX2_weighChanges) 18 = o_iload 2 19 := rfl
theorem aX2_weighChanges_19 (K : Kt) : tl K (lX2_weighChanges) 19 = o_callV fX1_valueAt 2 1 22 := rfl
theorem aX2_weighChanges_22 (K : Kt) : tl K (lX2_weighChanges) 22 = o_istore 4 24 := rfl
theorem aX2_weighChanges_24 (K : Kt) : tl K (lX2_weighChanges) 24 = o_pushI (nI 0) 25 := rfl
theorem aX2_weighChanges_25 (K : Kt) : tl K (lX2_weighChanges) 25 = o_istore 5 27 := rfl
theorem aX2_weighChanges_27 (K : Kt) : tl K (lX2_weighChanges) 27 = o_iload 5 29 := rfl
theorem aX2_weighChanges_29 (K : Kt) : tl K (lX2_weighChanges) 29 = o_aload 0 30 := rfl
theorem aX2_weighChanges_30 (K : Kt) : tl K (lX2_weighChanges) 30 = o_get 2 0 33 := rfl
theorem aX2_weighChanges_33 (K : Kt) : tl K (lX2_weighChanges) 33 = o_get 1 0 36 := rfl
theorem aX2_weighChanges_36 (K : Kt) : tl K (lX2_weighChanges) 36 = o_get 9 0 39 := rfl
theorem aX2_weighChanges_39 (K : Kt) : tl K (lX2_weighChanges) 39 = o_icmp_ge 125 42 := rfl
theorem aX2_weighChanges_42 (K : Kt) : tl K (lX2_weighChanges) 42 = o_aload 0 43 := rfl
theorem aX2_weighChanges_43 (K : Kt) : tl K (lX2_weighChanges) 43 = o_get 2 0 46 := rfl
theorem aX2_weighChanges_46 (K : Kt) : tl K (lX2_weighChanges) 46 = o_iload 5 48 := rfl
theorem aX2_weighChanges_48 (K : Kt) : tl K (lX2_weighChanges) 48 = o_iload 1 49 := rfl
theorem aX2_weighChanges_49 (K : Kt) : tl K (lX2_weighChanges) 49 = o_iload 3 50 := rfl
theorem aX2_weighChanges_50 (K : Kt) : tl K (lX2_weighChanges) 50 = o_callV fX1_valueOf 3 1 53 := rfl
theorem aX2_weighChanges_53 (K : Kt) : tl K (lX2_weighChanges) 53 = o_iload 4 55 := rfl
theorem aX2_weighChanges_55 (K : Kt) : tl K (lX2_weighChanges) 55 = o_isub 56 := rfl
theorem aX2_weighChanges_56 (K : Kt) : tl K (lX2_weighChanges) 56 = o_istore 6 58 := rfl
theorem aX2_weighChanges_58 (K : Kt) : tl K (lX2_weighChanges) 58 = o_iload 6 60 := rfl
theorem aX2_weighChanges_60 (K : Kt) : tl K (lX2_weighChanges) 60 = o_aload 0 61 := rfl
theorem aX2_weighChanges_61 (K : Kt) : tl K (lX2_weighChanges) 61 = o_get 2 5 64 := rfl
theorem aX2_weighChanges_64 (K : Kt) : tl K (lX2_weighChanges) 64 = o_icmp_le 119 67 := rfl
theorem aX2_weighChanges_67 (K : Kt) : tl K (lX2_weighChanges) 67 = o_aload 0 68 := rfl
theorem aX2_weighChanges_68 (K : Kt) : tl K (lX2_weighChanges) 68 = o_get 2 0 71 := rfl
theorem aX2_weighChanges_71 (K : Kt) : tl K (lX2_weighChanges) 71 = o_get 1 1 74 := rfl
theorem aX2_weighChanges_74 (K : Kt) : tl K (lX2_weighChanges) 74 = o_iload 5 76 := rfl
theorem aX2_weighChanges_76 (K : Kt) : tl K (lX2_weighChanges) 76 = o_iload 1 77 := rfl
theorem aX2_weighChanges_77 (K : Kt) : tl K (lX2_weighChanges) 77 = o_callV fX5_has 2 5 80 := rfl
theorem aX2_weighChanges_80 (K : Kt) : tl K (lX2_weighChanges) 80 = o_if_ne 119 83 := rfl
theorem aX2_weighChanges_83 (K : Kt) : tl K (lX2_weighChanges) 83 = o_aload 0 84 := rfl
theorem aX2_weighChanges_84 (K : Kt) : tl K (lX2_weighChanges) 84 = o_get 2 1 87 := rfl
theorem aX2_weighChanges_87 (K : Kt) : tl K (lX2_weighChanges) 87 = o_iload 5 89 := rfl
theorem aX2_weighChanges_89 (K : Kt) : tl K (lX2_weighChanges) 89 = o_iload 1 90 := rfl
theorem aX2_weighChanges_90 (K : Kt) : tl K (lX2_weighChanges) 90 = o_iload 3 91 := rfl
theorem aX2_weighChanges_91 (K : Kt) : tl K (lX2_weighChanges) 91 = o_callV fX3_allowsIn 3 3 94 := rfl
theorem aX2_weighChanges_94 (K : Kt) : tl K (lX2_weighChanges) 94 = o_if_eq 119 97 := rfl
theorem aX2_weighChanges_97 (K : Kt) : tl K (lX2_weighChanges) 97 = o_aload 0 98 := rfl
theorem aX2_weighChanges_98 (K : Kt) : tl K (lX2_weighChanges) 98 = o_iload 6 100 := rfl
theorem aX2_weighChanges_100 (K : Kt) : tl K (lX2_weighChanges) 100 = o_putI 2 5 103 := rfl
theorem aX2_weighChanges_103 (K : Kt) : tl K (lX2_weighChanges) 103 = o_aload 0 104 := rfl
theorem aX2_weighChanges_104 (K : Kt) : tl K (lX2_weighChanges) 104 = o_iload 1 105 := rfl
theorem aX2_weighChanges_105 (K : Kt) : tl K (lX2_weighChanges) 105 = o_putI 2 6 108 := rfl
theorem aX2_weighChanges_108 (K : Kt) : tl K (lX2_weighChanges) 108 = o_aload 0 109 := rfl
theorem aX2_weighChanges_109 (K : Kt) : tl K (lX2_weighChanges) 109 = o_iload 2 110 := rfl
theorem aX2_weighChanges_110 (K : Kt) : tl K (lX2_weighChanges) 110 = o_putI 2 7 113 := rfl
theorem aX2_weighChanges_113 (K : Kt) : tl K (lX2_weighChanges) 113 = o_aload 0 114 := rfl
theorem aX2_weighChanges_114 (K : Kt) : tl K (lX2_weighChanges) 114 = o_iload 5 116 := rfl
theorem aX2_weighChanges_116 (K : Kt) : tl K (lX2_weighChanges) 116 = o_putI 2 8 119 := rfl
theorem aX2_weighChanges_119 (K : Kt) : tl K (lX2_weighChanges) 119 = o_iinc 5 (nI 1) 122 := rfl
set_option maxRecDepth 8000 in
theorem aX2_weighChanges_122 (K : Kt) : tl K (lX2_weighChanges) 122 = o_goto 27 := rfl
set_option maxRecDepth 8000 in
theorem aX2_weighChanges_125 (K : Kt) : tl K (lX2_weighChanges) 125 = o_vret K := rfl
theorem eX5_change {As L : List Value} {w : Wd} {K : Kt} (hw : wds As ≤ 5) (hL : ent 5 As = L) (h : RR (tl K lX5_change) 0 L [] w) : fX5_change As w K := ⟨hw, by rw [hL]; exact h⟩
theorem nX5_change : MonoF fX5_change := mono_f 5 lX5_change
theorem aX5_change_0 (K : Kt) : tl K (lX5_change) 0 = o_aload 0 1 := rfl
theorem aX5_change_1 (K : Kt) : tl K (lX5_change) 1 = o_get 5 3 4 := rfl
theorem aX5_change_4 (K : Kt) : tl K (lX5_change) 4 = o_aload 0 5 := rfl
theorem aX5_change_5 (K : Kt) : tl K (lX5_change) 5 = o_iload 1 6 := rfl
theorem aX5_change_6 (K : Kt) : tl K (lX5_change) 6 = o_iload 2 7 := rfl
theorem aX5_change_7 (K : Kt) : tl K (lX5_change) 7 = o_callV fX5_armAt 2 5 10 := rfl
theorem aX5_change_10 (K : Kt) : tl K (lX5_change) 10 = o_pushI (nI 20) 12 := rfl
theorem aX5_change_12 (K : Kt) : tl K (lX5_change) 12 = o_imul 13 := rfl
theorem aX5_change_13 (K : Kt) : tl K (lX5_change) 13 = o_iload 1 14 := rfl
theorem aX5_change_14 (K : Kt) : tl K (lX5_change) 14 = o_iadd 15 := rfl
theorem aX5_change_15 (K : Kt) : tl K (lX5_change) 15 = o_pushI (nI 0) 16 := rfl
theorem aX5_change_16 (K : Kt) : tl K (lX5_change) 16 = o_iast 17 := rfl
theorem aX5_change_17 (K : Kt) : tl K (lX5_change) 17 = o_aload 0 18 := rfl
theorem aX5_change_18 (K : Kt) : tl K (lX5_change) 18 = o_iload 1 19 := rfl
theorem aX5_change_19 (K : Kt) : tl K (lX5_change) 19 = o_iload 2 20 := rfl
theorem aX5_change_20 (K : Kt) : tl K (lX5_change) 20 = o_iload 3 21 := rfl
theorem aX5_change_21 (K : Kt) : tl K (lX5_change) 21 = o_iload 4 23 := rfl
theorem aX5_change_23 (K : Kt) : tl K (lX5_change) 23 = o_callV fX5_setAt 4 5 26 := rfl
theorem aX5_change_26 (K : Kt) : tl K (lX5_change) 26 = o_vret K := rfl
theorem eX2_changeBest {As L : List Value} {w : Wd} {K : Kt} (hw : wds As ≤ 3) (hL : ent 3 As = L) (h : RR (tl K lX2_changeBest) 0 L [] w) : fX2_changeBest As w K := ⟨hw, by rw [hL]; exact h⟩
theorem nX2_changeBest : MonoF fX2_changeBest := mono_f 3 lX2_changeBest
theorem aX2_changeBest_0 (K : Kt) : tl K (lX2_changeBest) 0 = o_aload 0 1 := rfl
theorem aX2_changeBest_1 (K : Kt) : tl K (lX2_changeBest) 1 = o_pushI (nI 0) 2 := rfl
theorem aX2_changeBest_2 (K : Kt) : tl K (lX2_changeBest) 2 = o_putI 2 5 5 := rfl
theorem aX2_changeBest_5 (K : Kt) : tl K (lX2_changeBest) 5 = o_pushI (nI 0) 6 := rfl
theorem aX2_changeBest_6 (K : Kt) : tl K (lX2_changeBest) 6 = o_istore 1 7 := rfl
theorem aX2_changeBest_7 (K : Kt) : tl K (lX2_changeBest) 7 = o_iload 1 8 := rfl
theorem aX2_changeBest_8 (K : Kt) : tl K (lX2_changeBest) 8 = o_aload 0 9 := rfl
theorem aX2_changeBest_9 (K : Kt) : tl K (lX2_changeBest) 9 = o_get 2 0 12 := rfl
theorem aX2_changeBest_12 (K : Kt) : tl K (lX2_changeBest) 12 = o_get 1 0 15 := rfl
theorem aX2_changeBest_15 (K : Kt) : tl K (lX2_changeBest) 15 = o_get 9 4 18 := rfl
theorem aX2_changeBest_18 (K : Kt) : tl K (lX2_changeBest) 18 = o_icmp_ge 57 21 := rfl
theorem aX2_changeBest_21 (K : Kt) : tl K (lX2_changeBest) 21 = o_pushI (nI 0) 22 := rfl
theorem aX2_changeBest_22 (K : Kt) : tl K (lX2_changeBest) 22 = o_istore 2 23 := rfl
theorem aX2_changeBest_23 (K : Kt) : tl K (lX2_changeBest) 23 = o_iload 2 24 := rfl
theorem aX2_changeBest_24 (K : Kt) : tl K (lX2_changeBest) 24 = o_aload 0 25 := rfl
theorem aX2_changeBest_25 (K : Kt) : tl K (lX2_changeBest) 25 = o_get 2 0 28 := rfl
theorem aX2_changeBest_28 (K : Kt) : tl K (lX2_changeBest) 28 = o_get 1 1 31 := rfl
theorem aX2_changeBest_31 (K : Kt) : tl K (lX2_changeBest) 31 = o_get 5 0 34 := rfl
theorem aX2_changeBest_34 (K : Kt) : tl K (lX2_changeBest) 34 = o_iload 1 35 := rfl
theorem aX2_changeBest_35 (K : Kt) : tl K (lX2_changeBest) 35 = o_iald 36 := rfl
theorem aX2_changeBest_36 (K : Kt) : tl K (lX2_changeBest) 36 = o_icmp_ge 51 39 := rfl
theorem aX2_changeBest_39 (K : Kt) : tl K (lX2_changeBest) 39 = o_aload 0 40 := rfl
theorem aX2_changeBest_40 (K : Kt) : tl K (lX2_changeBest) 40 = o_iload 1 41 := rfl
theorem aX2_changeBest_41 (K : Kt) : tl K (lX2_changeBest) 41 = o_iload 2 42 := rfl
theorem aX2_changeBest_42 (K : Kt) : tl K (lX2_changeBest) 42 = o_callV fX2_weighChanges 2 2 45 := rfl
theorem aX2_changeBest_45 (K : Kt) : tl K (lX2_changeBest) 45 = o_iinc 2 (nI 1) 48 := rfl
theorem aX2_changeBest_48 (K : Kt) : tl K (lX2_changeBest) 48 = o_goto 23 := rfl
theorem aX2_changeBest_51 (K : Kt) : tl K (lX2_changeBest) 51 = o_iinc 1 (nI 1) 54 := rfl
theorem aX2_changeBest_54 (K : Kt) : tl K (lX2_changeBest) 54 = o_goto 7 := rfl
theorem aX2_changeBest_57 (K : Kt) : tl K (lX2_changeBest) 57 = o_aload 0 58 := rfl
theorem aX2_changeBest_58 (K : Kt) : tl K (lX2_changeBest) 58 = o_get 2 5 61 := rfl
theorem aX2_changeBest_61 (K : Kt) : tl K (lX2_changeBest) 61 = o_if_ne 66 64 := rfl
theorem aX2_changeBest_64 (K : Kt) : tl K (lX2_changeBest) 64 = o_pushI (nI 0) 65 := rfl
theorem aX2_changeBest_65 (K : Kt) : tl K (lX2_changeBest) 65 = o_zret K := rfl
theorem aX2_changeBest_66 (K : Kt) : tl K (lX2_changeBest) 66 = o_aload 0 67 := rfl
theorem aX2_changeBest_67 (K : Kt) : tl K (lX2_changeBest) 67 = o_get 2 0 70 := rfl
theorem aX2_changeBest_70 (K : Kt) : tl K (lX2_changeBest) 70 = o_get 1 1 73 := rfl
theorem aX2_changeBest_73 (K : Kt) : tl K (lX2_changeBest) 73 = o_aload 0 74 := rfl
theorem aX2_changeBest_74 (K : Kt) : tl K (lX2_changeBest) 74 = o_get 2 6 77 := rfl
theorem aX2_changeBest_77 (K : Kt) : tl K (lX2_changeBest) 77 = o_aload 0 78 := rfl
theorem aX2_changeBest_78 (K : Kt) : tl K (lX2_changeBest) 78 = o_get 2 7 81 := rfl
theorem aX2_changeBest_81 (K : Kt) : tl K (lX2_changeBest) 81 = o_callV fX5_throwsAt 2 5 84 := rfl
theorem aX2_changeBest_84 (K : Kt) : tl K (lX2_changeBest) 84 = o_istore 1 85 := rfl
theorem aX2_changeBest_85 (K : Kt) : tl K (lX2_changeBest) 85 = o_aload 0 86 := rfl
theorem aX2_changeBest_86 (K : Kt) : tl K (lX2_changeBest) 86 = o_get 2 0 89 := rfl
theorem aX2_changeBest_89 (K : Kt) : tl K (lX2_changeBest) 89 = o_get 1 1 92 := rfl
theorem aX2_changeBest_92 (K : Kt) : tl K (lX2_changeBest) 92 = o_aload 0 93 := rfl
theorem aX2_changeBest_93 (K : Kt) : tl K (lX2_changeBest) 93 = o_get 2 6 96 := rfl
theorem aX2_changeBest_96 (K : Kt) : tl K (lX2_changeBest) 96 = o_aload 0 97 := rfl
theorem aX2_changeBest_97 (K : Kt) : tl K (lX2_changeBest) 97 = o_get 2 7 100 := rfl
theorem aX2_changeBest_100 (K : Kt) : tl K (lX2_changeBest) 100 = o_aload 0 101 := rfl
theorem aX2_changeBest_101 (K : Kt) : tl K (lX2_changeBest) 101 = o_get 2 8 104 := rfl
theorem aX2_changeBest_104 (K : Kt) : tl K (lX2_changeBest) 104 = o_iload 1 105 := rfl
theorem aX2_changeBest_105 (K : Kt) : tl K (lX2_changeBest) 105 = o_callV fX5_change 4 5 108 := rfl
theorem aX2_changeBest_108 (K : Kt) : tl K (lX2_changeBest) 108 = o_pushI (nI 1) 109 := rfl
theorem aX2_changeBest_109 (K : Kt) : tl K (lX2_changeBest) 109 = o_zret K := rfl
theorem eX3_allowsAt {As L : List Value} {w : Wd} {K : Kt} (hw : wds As ≤ 3) (hL : ent 3 As = L) (h : RR (tl K lX3_allowsAt) 0 L [] w) : fX3_allowsAt As w K := ⟨hw, by rw [hL]; exact h⟩
theorem nX3_allowsAt : MonoF fX3_allowsAt := mono_f 3 lX3_allowsAt
theorem aX3_allowsAt_0 (K : Kt) : tl K (lX3_allowsAt) 0 = o_aload 0 1 := rfl
theorem aX3_allowsAt_1 (K : Kt) : tl K (lX3_allowsAt) 1 = o_aload 0 2 := rfl
theorem aX3_allowsAt_2 (K : Kt) : tl K (lX3_allowsAt) 2 = o_get 3 0 5 := rfl
theorem aX3_allowsAt_5 (K : Kt) : tl K (lX3_allowsAt) 5 = o_get 1 1 8 := rfl
theorem aX3_allowsAt_8 (K : Kt) : tl K (lX3_allowsAt) 8 = o_iload 1 9 := rfl
theorem aX3_allowsAt_9 (K : Kt) : tl K (lX3_allowsAt) 9 = o_iload 2 10 := rfl
theorem aX3_allowsAt_10 (K : Kt) : tl K (lX3_allowsAt) 10 = o_callV fX5_armAt 2 5 13 := rfl
theorem aX3_allowsAt_13 (K : Kt) : tl K (lX3_allowsAt) 13 = o_iload 1 14 := rfl
theorem aX3_allowsAt_14 (K : Kt) : tl K (lX3_allowsAt) 14 = o_aload 0 15 := rfl
theorem aX3_allowsAt_15 (K : Kt) : tl K (lX3_allowsAt) 15 = o_get 3 0 18 := rfl
theorem aX3_allowsAt_18 (K : Kt) : tl K (lX3_allowsAt) 18 = o_get 1 1 21 := rfl
theorem aX3_allowsAt_21 (K : Kt) : tl K (lX3_allowsAt) 21 = o_iload 1 22 := rfl
theorem aX3_allowsAt_22 (K : Kt) : tl K (lX3_allowsAt) 22 = o_iload 2 23 := rfl
theorem aX3_allowsAt_23 (K : Kt) : tl K (lX3_allowsAt) 23 = o_callV fX5_throwsAt 2 5 26 := rfl
theorem aX3_allowsAt_26 (K : Kt) : tl K (lX3_allowsAt) 26 = o_callV fX3_allowsIn 3 3 29 := rfl
theorem aX3_allowsAt_29 (K : Kt) : tl K (lX3_allowsAt) 29 = o_zret K := rfl
theorem eX3_allowsMoved {As L : List Value} {w : Wd} {K : Kt} (hw : wds As ≤ 5) (hL : ent 5 As = L) (h : RR (tl K lX3_allowsMoved) 0 L [] w) : fX3_allowsMoved As w K := ⟨hw, by rw [hL]; exact h⟩
theorem nX3_allowsMoved : MonoF fX3_allowsMoved := mono_f 5 lX3_allowsMoved
theorem aX3_allowsMoved_0 (K : Kt) : tl K (lX3_allowsMoved) 0 = o_aload 0 1 := rfl
theorem aX3_allowsMoved_1 (K : Kt) : tl K (lX3_allowsMoved) 1 = o_iload 1 2 := rfl
theorem aX3_allowsMoved_2 (K : Kt) : tl K (lX3_allowsMoved) 2 = o_callV fX3_open 1 3 5 := rfl
theorem aX3_allowsMoved_5 (K : Kt) : tl K (lX3_allowsMoved) 5 = o_aload 0 6 := rfl
theorem aX3_allowsMoved_6 (K : Kt) : tl K (lX3_allowsMoved) 6 = o_iload 2 7 := rfl
theorem aX3_allowsMoved_7 (K : Kt) : tl K (lX3_allowsMoved) 7 = o_pushI (nI 0) 8 := rfl
theorem aX3_allowsMoved_8 (K : Kt) : tl K (lX3_allowsMoved) 8 = o_callV fX3_write 2 3 11 := rfl
theorem aX3_allowsMoved_11 (K : Kt) : tl K (lX3_allowsMoved) 11 = o_aload 0 12 := rfl
theorem aX3_allowsMoved_12 (K : Kt) : tl K (lX3_allowsMoved) 12 = o_iload 3 13 := rfl
theorem aX3_allowsMoved_13 (K : Kt) : tl K (lX3_allowsMoved) 13 = o_iload 4 15 := rfl
theorem aX3_allowsMoved_15 (K : Kt) : tl K (lX3_allowsMoved) 15 = o_callV fX3_clashes 2 3 18 := rfl
theorem aX3_allowsMoved_18 (K : Kt) : tl K (lX3_allowsMoved) 18 = o_if_ne 25 21 := rfl
theorem aX3_allowsMoved_21 (K : Kt) : tl K (lX3_allowsMoved) 21 = o_pushI (nI 1) 22 := rfl
theorem aX3_allowsMoved_22 (K : Kt) : tl K (lX3_allowsMoved) 22 = o_goto 26 := rfl
theorem aX3_allowsMoved_25 (K : Kt) : tl K (lX3_allowsMoved) 25 = o_pushI (nI 0) 26 := rfl
theorem aX3_allowsMoved_26 (K : Kt) : tl K (lX3_allowsMoved) 26 = o_zret K := rfl
theorem eX9_saveTo {As L : List Value} {w : Wd} {K : Kt} (hw : wds As ≤ 3) (hL : ent 3 As = L) (h : RR (tl K lX9_saveTo) 0 L [] w) : fX9_saveTo As w K := ⟨hw, by rw [hL]; exact h⟩
theorem nX9_saveTo : MonoF fX9_saveTo := mono_f 3 lX9_saveTo
theorem aX9_saveTo_0 (K : Kt) : tl K (lX9_saveTo) 0 = o_aload 0 1 := rfl
theorem aX9_saveTo_1 (K : Kt) : tl K (lX9_saveTo) 1 = o_get 9 3 4 := rfl
theorem aX9_saveTo_4 (K : Kt) : tl K (lX9_saveTo) 4 = o_pushI (nI 0) 5 := rfl
theorem aX9_saveTo_5 (K : Kt) : tl K (lX9_saveTo) 5 = o_aload 1 6 := rfl
theorem aX9_saveTo_6 (K : Kt) : tl K (lX9_saveTo) 6 = o_iload 2 7 := rfl
theorem aX9_saveTo_7 (K : Kt) : tl K (lX9_saveTo) 7 = o_pushI (nI 32) 9 := rfl
theorem aX9_saveTo_9 (K : Kt) : tl K (lX9_saveTo) 9 = o_copyI 12 := rfl
theorem aX9_saveTo_12 (K : Kt) : tl K (lX9_saveTo) 12 = o_aload 0 13 := rfl
theorem aX9_saveTo_13 (K : Kt) : tl K (lX9_saveTo) 13 = o_get 9 6 16 := rfl
theorem aX9_saveTo_16 (K : Kt) : tl K (lX9_saveTo) 16 = o_pushI (nI 0) 17 := rfl
theorem aX9_saveTo_17 (K : Kt) : tl K (lX9_saveTo) 17 = o_aload 1 18 := rfl
theorem aX9_saveTo_18 (K : Kt) : tl K (lX9_saveTo) 18 = o_iload 2 19 := rfl
theorem aX9_saveTo_19 (K : Kt) : tl K (lX9_saveTo) 19 = o_pushI (nI 32) 21 := rfl
theorem aX9_saveTo_21 (K : Kt) : tl K (lX9_saveTo) 21 = o_iadd 22 := rfl
theorem aX9_saveTo_22 (K : Kt) : tl K (lX9_saveTo) 22 = o_pushI (nI 3) 23 := rfl
theorem aX9_saveTo_23 (K : Kt) : tl K (lX9_saveTo) 23 = o_copyI 26 := rfl
theorem aX9_saveTo_26 (K : Kt) : tl K (lX9_saveTo) 26 = o_aload 0 27 := rfl
theorem aX9_saveTo_27 (K : Kt) : tl K (lX9_saveTo) 27 = o_get 9 9 30 := rfl
theorem aX9_saveTo_30 (K : Kt) : tl K (lX9_saveTo) 30 = o_pushI (nI 0) 31 := rfl
theorem aX9_saveTo_31 (K : Kt) : tl K (lX9_saveTo) 31 = o_aload 1 32 := rfl
theorem aX9_saveTo_32 (K : Kt) : tl K (lX9_saveTo) 32 = o_iload 2 33 := rfl
theorem aX9_saveTo_33 (K : Kt) : tl K (lX9_saveTo) 33 = o_pushI (nI 32) 35 := rfl
theorem aX9_saveTo_35 (K : Kt) : tl K (lX9_saveTo) 35 = o_iadd 36 := rfl
theorem aX9_saveTo_36 (K : Kt) : tl K (lX9_saveTo) 36 = o_pushI (nI 3) 37 := rfl
theorem aX9_saveTo_37 (K : Kt) : tl K (lX9_saveTo) 37 = o_iadd 38 := rfl
theorem aX9_saveTo_38 (K : Kt) : tl K (lX9_saveTo) 38 = o_pushI (nI 5) 39 := rfl
theorem aX9_saveTo_39 (K : Kt) : tl K (lX9_saveTo) 39 = o_copyI 42 := rfl
theorem aX9_saveTo_42 (K : Kt) : tl K (lX9_saveTo) 42 = o_vret K := rfl
theorem eX5_saveTo {As L : List Value} {w : Wd} {K : Kt} (hw : wds As ≤ 3) (hL : ent 3 As = L) (h : RR (tl K lX5_saveTo) 0 L [] w) : fX5_saveTo As w K := ⟨hw, by rw [hL]; exact h⟩
theorem nX5_saveTo : MonoF fX5_saveTo := mono_f 3 lX5_saveTo
theorem aX5_saveTo_0 (K : Kt) : tl K (lX5_saveTo) 0 = o_aload 0 1 := rfl
theorem aX5_saveTo_1 (K : Kt) : tl K (lX5_saveTo) 1 = o_get 5 0 4 := rfl
theorem aX5_saveTo_4 (K : Kt) : tl K (lX5_saveTo) 4 = o_pushI (nI 0) 5 := rfl
theorem aX5_saveTo_5 (K : Kt) : tl K (lX5_saveTo) 5 = o_aload 1 6 := rfl
theorem aX5_saveTo_6 (K : Kt) : tl K (lX5_saveTo) 6 = o_iload 2 7 := rfl
theorem aX5_saveTo_7 (K : Kt) : tl K (lX5_saveTo) 7 = o_pushI (nI 20) 9 := rfl
theorem aX5_saveTo_9 (K : Kt) : tl K (lX5_saveTo) 9 = o_copyI 12 := rfl
theorem aX5_saveTo_12 (K : Kt) : tl K (lX5_saveTo) 12 = o_aload 0 13 := rfl
theorem aX5_saveTo_13 (K : Kt) : tl K (lX5_saveTo) 13 = o_get 5 1 16 := rfl
theorem aX5_saveTo_16 (K : Kt) : tl K (lX5_saveTo) 16 = o_pushI (nI 0) 17 := rfl
theorem aX5_saveTo_17 (K : Kt) : tl K (lX5_saveTo) 17 = o_aload 1 18 := rfl
theorem aX5_saveTo_18 (K : Kt) : tl K (lX5_saveTo) 18 = o_iload 2 19 := rfl
theorem aX5_saveTo_19 (K : Kt) : tl K (lX5_saveTo) 19 = o_pushI (nI 20) 21 := rfl
theorem aX5_saveTo_21 (K : Kt) : tl K (lX5_saveTo) 21 = o_iadd 22 := rfl
theorem aX5_saveTo_22 (K : Kt) : tl K (lX5_saveTo) 22 = o_pushI (nI 60) 24 := rfl
theorem aX5_saveTo_24 (K : Kt) : tl K (lX5_saveTo) 24 = o_copyI 27 := rfl
theorem aX5_saveTo_27 (K : Kt) : tl K (lX5_saveTo) 27 = o_aload 0 28 := rfl
theorem aX5_saveTo_28 (K : Kt) : tl K (lX5_saveTo) 28 = o_get 5 2 31 := rfl
theorem aX5_saveTo_31 (K : Kt) : tl K (lX5_saveTo) 31 = o_pushI (nI 0) 32 := rfl
theorem aX5_saveTo_32 (K : Kt) : tl K (lX5_saveTo) 32 = o_aload 1 33 := rfl
theorem aX5_saveTo_33 (K : Kt) : tl K (lX5_saveTo) 33 = o_iload 2 34 := rfl
theorem aX5_saveTo_34 (K : Kt) : tl K (lX5_saveTo) 34 = o_pushI (nI 20) 36 := rfl
theorem aX5_saveTo_36 (K : Kt) : tl K (lX5_saveTo) 36 = o_iadd 37 := rfl
theorem aX5_saveTo_37 (K : Kt) : tl K (lX5_saveTo) 37 = o_pushI (nI 60) 39 := rfl
theorem aX5_saveTo_39 (K : Kt) : tl K (lX5_saveTo) 39 = o_iadd 40 := rfl
theorem aX5_saveTo_40 (K : Kt) : tl K (lX5_saveTo) 40 = o_pushI (nI 60) 42 := rfl
theorem aX5_saveTo_42 (K : Kt) : tl K (lX5_saveTo) 42 = o_copyI 45 := rfl
theorem aX5_saveTo_45 (K : Kt) : tl K (lX5_saveTo) 45 = o_vret K := rfl
theorem eX4_keep {As L : List Value} {w : Wd} {K : Kt} (hw : wds As ≤ 1) (hL : ent 1 As = L) (h : RR (tl K lX4_keep) 0 L [] w) : fX4_keep As w K := ⟨hw, by rw [hL]; exact h⟩
theorem nX4_keep : MonoF fX4_keep := mono_f 1 lX4_keep
theorem aX4_keep_0 (K : Kt) : tl K (lX4_keep) 0 = o_aload 0 1 := rfl
theorem aX4_keep_1 (K : Kt) : tl K (lX4_keep) 1 = o_get 4 0 4 := rfl
theorem aX4_keep_4 (K : Kt) : tl K (lX4_keep) 4 = o_aload 0 5 := rfl
theorem aX4_keep_5 (K : Kt) : tl K (lX4_keep) 5 = o_get 4 2 8 := rfl
theorem aX4_keep_8 (K : Kt) : tl K (lX4_keep) 8 = o_aload 0 9 := rfl
theorem aX4_keep_9 (K : Kt) : tl K (lX4_keep) 9 = o_get 4 3 12 := rfl
theorem aX4_keep_12 (K : Kt) : tl K (lX4_keep) 12 = o_pushI (nI 180) 15 := rfl
theorem aX4_keep_15 (K : Kt) : tl K (lX4_keep) 15 = o_imul 16 := rfl
theorem aX4_keep_16 (K : Kt) : tl K (lX4_keep) 16 = o_callV fX9_saveTo 2 9 19 := rfl
theorem aX4_keep_19 (K : Kt) : tl K (lX4_keep) 19 = o_aload 0 20 := rfl
theorem aX4_keep_20 (K : Kt) : tl K (lX4_keep) 20 = o_get 4 1 23 := rfl
theorem aX4_keep_23 (K : Kt) : tl K (lX4_keep) 23 = o_aload 0 24 := rfl
theorem aX4_keep_24 (K : Kt) : tl K (lX4_keep) 24 = o_get 4 2 27 := rfl
theorem aX4_keep_27 (K : Kt) : tl K (lX4_keep) 27 = o_aload 0 28 := rfl
theorem aX4_keep_28 (K : Kt) : tl K (lX4_keep) 28 = o_get 4 3 31 := rfl
theorem aX4_keep_31 (K : Kt) : tl K (lX4_keep) 31 = o_pushI (nI 180) 34 := rfl
theorem aX4_keep_34 (K : Kt) : tl K (lX4_keep) 34 = o_imul 35 := rfl
theorem aX4_keep_35 (K : Kt) : tl K (lX4_keep) 35 = o_pushI (nI 40) 37 := rfl
theorem aX4_keep_37 (K : Kt) : tl K (lX4_keep) 37 = o_iadd 38 := rfl
theorem aX4_keep_38 (K : Kt) : tl K (lX4_keep) 38 = o_callV fX5_saveTo 2 5 41 := rfl
theorem aX4_keep_41 (K : Kt) : tl K (lX4_keep) 41 = o_aload 0 42 := rfl
theorem aX4_keep_42 (K : Kt) : tl K (lX4_keep) 42 = o_aload 0 43 := rfl
theorem aX4_keep_43 (K : Kt) : tl K (lX4_keep) 43 = o_get 4 3 46 := rfl
theorem aX4_keep_46 (K : Kt) : tl K (lX4_keep) 46 = o_pushI (nI 1) 47 := rfl
theorem aX4_keep_47 (K : Kt) : tl K (lX4_keep) 47 = o_iadd 48 := rfl
theorem aX4_keep_48 (K : Kt) : tl K (lX4_keep) 48 = o_pushI (nI 10) 50 := rfl
theorem aX4_keep_50 (K : Kt) : tl K (lX4_keep) 50 = o_irem 51 := rfl
theorem aX4_keep_51 (K : Kt) : tl K (lX4_keep) 51 = o_putI 4 3 54 := rfl
theorem aX4_keep_54 (K : Kt) : tl K (lX4_keep) 54 = o_aload 0 55 := rfl
theorem aX4_keep_55 (K : Kt) : tl K (lX4_keep) 55 = o_aload 0 56 := rfl
theorem aX4_keep_56 (K : Kt) : tl K (lX4_keep) 56 = o_get 4 4 59 := rfl
theorem aX4_keep_59 (K : Kt) : tl K (lX4_keep) 59 = o_pushI (nI 1) 60 := rfl
theorem aX4_keep_60 (K : Kt) : tl K (lX4_keep) 60 = o_iadd 61 := rfl
theorem aX4_keep_61 (K : Kt) : tl K (lX4_keep) 61 = o_pushI (nI 10) 63 := rfl
theorem aX4_keep_63 (K : Kt) : tl K (lX4_keep) 63 = o_min 66 := rfl
theorem aX4_keep_66 (K : Kt) : tl K (lX4_keep) 66 = o_putI 4 4 69 := rfl
theorem aX4_keep_69 (K : Kt) : tl K (lX4_keep) 69 = o_vret K := rfl
theorem eX9_loadFrom {As L : List Value} {w : Wd} {K : Kt} (hw : wds As ≤ 3) (hL : ent 3 As = L) (h : RR (tl K lX9_loadFrom) 0 L [] w) : fX9_loadFrom As w K := ⟨hw, by rw [hL]; exact h⟩
theorem nX9_loadFrom : MonoF fX9_loadFrom := mono_f 3 lX9_loadFrom
theorem aX9_loadFrom_0 (K : Kt) : tl K (lX9_loadFrom) 0 = o_aload 1 1 := rfl
theorem aX9_loadFrom_1 (K : Kt) : tl K (lX9_loadFrom) 1 = o_iload 2 2 := rfl
theorem aX9_loadFrom_2 (K : Kt) : tl K (lX9_loadFrom) 2 = o_aload 0 3 := rfl
theorem aX9_loadFrom_3 (K : Kt) : tl K (lX9_loadFrom) 3 = o_get 9 3 6 := rfl
theorem aX9_loadFrom_6 (K : Kt) : tl K (lX9_loadFrom) 6 = o_pushI (nI 0) 7 := rfl
theorem aX9_loadFrom_7 (K : Kt) : tl K (lX9_loadFrom) 7 = o_pushI (nI 32) 9 := rfl
theorem aX9_loadFrom_9 (K : Kt) : tl K (lX9_loadFrom) 9 = o_copyI 12 := rfl
theorem aX9_loadFrom_12 (K : Kt) : tl K (lX9_loadFrom) 12 = o_aload 1 13 := rfl
theorem aX9_loadFrom_13 (K : Kt) : tl K (lX9_loadFrom) 13 = o_iload 2 14 := rfl
theorem aX9_loadFrom_14 (K : Kt) : tl K (lX9_loadFrom) 14 = o_pushI (nI 32) 16 := rfl
theorem aX9_loadFrom_16 (K : Kt) : tl K (lX9_loadFrom) 16 = o_iadd 17 := rfl
theorem aX9_loadFrom_17 (K : Kt) : tl K (lX9_loadFrom) 17 = o_aload 0 18 := rfl
theorem aX9_loadFrom_18 (K : Kt) : tl K (lX9_loadFrom) 18 = o_get 9 6 21 := rfl
theorem aX9_loadFrom_21 (K : Kt) : tl K (lX9_loadFrom) 21 = o_pushI (nI 0) 22 := rfl
theorem aX9_loadFrom_22 (K : Kt) : tl K (lX9_loadFrom) 22 = o_pushI (nI 3) 23 := rfl
theorem aX9_loadFrom_23 (K : Kt) : tl K (lX9_loadFrom) 23 = o_copyI 26 := rfl
theorem aX9_loadFrom_26 (K : Kt) : tl K (lX9_loadFrom) 26 = o_aload 1 27 := rfl
theorem aX9_loadFrom_27 (K : Kt) : tl K (lX9_loadFrom) 27 = o_iload 2 28 := rfl
theorem aX9_loadFrom_28 (K : Kt) : tl K (lX9_loadFrom) 28 = o_pushI (nI 32) 30 := rfl
theorem aX9_loadFrom_30 (K : Kt) : tl K (lX9_loadFrom) 30 = o_iadd 31 := rfl
theorem aX9_loadFrom_31 (K : Kt) : tl K (lX9_loadFrom) 31 = o_pushI (nI 3) 32 := rfl
theorem aX9_loadFrom_32 (K : Kt) : tl K (lX9_loadFrom) 32 = o_iadd 33 := rfl
theorem aX9_loadFrom_33 (K : Kt) : tl K (lX9_loadFrom) 33 = o_aload 0 34 := rfl
theorem aX9_loadFrom_34 (K : Kt) : tl K (lX9_loadFrom) 34 = o_get 9 9 37 := rfl
theorem aX9_loadFrom_37 (K : Kt) : tl K (lX9_loadFrom) 37 = o_pushI (nI 0) 38 := rfl
theorem aX9_loadFrom_38 (K : Kt) : tl K (lX9_loadFrom) 38 = o_pushI (nI 5) 39 := rfl
theorem aX9_loadFrom_39 (K : Kt) : tl K (lX9_loadFrom) 39 = o_copyI 42 := rfl
theorem aX9_loadFrom_42 (K : Kt) : tl K (lX9_loadFrom) 42 = o_vret K := rfl
theorem eX5_remove {As L : List Value} {w : Wd} {K : Kt} (hw : wds As ≤ 4) (hL : ent 4 As = L) (h : RR (tl K lX5_remove) 0 L [] w) : fX5_remove As w K := ⟨hw, by rw [hL]; exact h⟩
theorem nX5_remove : MonoF fX5_remove := mono_f 4 lX5_remove
theorem aX5_remove_0 (K : Kt) : tl K (lX5_remove) 0 = o_aload 0 1 := rfl
theorem aX5_remove_1 (K : Kt) : tl K (lX5_remove) 1 = o_get 5 3 4 := rfl
theorem aX5_remove_4 (K : Kt) : tl K (lX5_remove) 4 = o_aload 0 5 := rfl
theorem aX5_remove_5 (K : Kt) : tl K (lX5_remove) 5 = o_iload 1 6 := rfl
theorem aX5_remove_6 (K : Kt) : tl K (lX5_remove) 6 = o_iload 2 7 := rfl
theorem aX5_remove_7 (K : Kt) : tl K (lX5_remove) 7 = o_callV fX5_armAt 2 5 10 := rfl
theorem aX5_remove_10 (K : Kt) : tl K (lX5_remove) 10 = o_pushI (nI 20) 12 := rfl
theorem aX5_remove_12 (K : Kt) : tl K (lX5_remove) 12 = o_imul 13 := rfl
theorem aX5_remove_13 (K : Kt) : tl K (lX5_remove) 13 = o_iload 1 14 := rfl
theorem aX5_remove_14 (K : Kt) : tl K (lX5_remove) 14 = o_iadd 15 := rfl
theorem aX5_remove_15 (K : Kt) : tl K (lX5_remove) 15 = o_pushI (nI 0) 16 := rfl
theorem aX5_remove_16 (K : Kt) : tl K (lX5_remove) 16 = o_iast 17 := rfl
theorem aX5_remove_17 (K : Kt) : tl K (lX5_remove) 17 = o_iload 2 18 := rfl
theorem aX5_remove_18 (K : Kt) : tl K (lX5_remove) 18 = o_istore 3 19 := rfl
theorem aX5_remove_19 (K : Kt) : tl K (lX5_remove) 19 = o_iload 3 20 := rfl
theorem aX5_remove_20 (K : Kt) : tl K (lX5_remove) 20 = o_pushI (nI 1) 21 := rfl
theorem aX5_remove_21 (K : Kt) : tl K (lX5_remove) 21 = o_iadd 22 := rfl
theorem aX5_remove_22 (K : Kt) : tl K (lX5_remove) 22 = o_aload 0 23 := rfl
theorem aX5_remove_23 (K : Kt) : tl K (lX5_remove) 23 = o_get 5 0 26 := rfl
theorem aX5_remove_26 (K : Kt) : tl K (lX5_remove) 26 = o_iload 1 27 := rfl
theorem aX5_remove_27 (K : Kt) : tl K (lX5_remove) 27 = o_iald 28 := rfl
theorem aX5_remove_28 (K : Kt) : tl K (lX5_remove) 28 = o_icmp_ge 59 31 := rfl
theorem aX5_remove_31 (K : Kt) : tl K (lX5_remove) 31 = o_aload 0 32 := rfl
theorem aX5_remove_32 (K : Kt) : tl K (lX5_remove) 32 = o_iload 1 33 := rfl
theorem aX5_remove_33 (K : Kt) : tl K (lX5_remove) 33 = o_iload 3 34 := rfl
theorem aX5_remove_34 (K : Kt) : tl K (lX5_remove) 34 = o_aload 0 35 := rfl
theorem aX5_remove_35 (K : Kt) : tl K (lX5_remove) 35 = o_iload 1 36 := rfl
theorem aX5_remove_36 (K : Kt) : tl K (lX5_remove) 36 = o_iload 3 37 := rfl
theorem aX5_remove_37 (K : Kt) : tl K (lX5_remove) 37 = o_pushI (nI 1) 38 := rfl
theorem aX5_remove_38 (K : Kt) : tl K (lX5_remove) 38 = o_iadd 39 := rfl
theorem aX5_remove_39 (K : Kt) : tl K (lX5_remove) 39 = o_callV fX5_armAt 2 5 42 := rfl
theorem aX5_remove_42 (K : Kt) : tl K (lX5_remove) 42 = o_aload 0 43 := rfl
theorem aX5_remove_43 (K : Kt) : tl K (lX5_remove) 43 = o_iload 1 44 := rfl
theorem aX5_remove_44 (K : Kt) : tl K (lX5_remove) 44 = o_iload 3 45 := rfl
theorem aX5_remove_45 (K : Kt) : tl K (lX5_remove) 45 = o_pushI (nI 1) 46 := rfl
theorem aX5_remove_46 (K : Kt) : tl K (lX5_remove) 46 = o_iadd 47 := rfl
theorem aX5_remove_47 (K : Kt) : tl K (lX5_remove) 47 = o_callV fX5_throwsAt 2 5 50 := rfl
theorem aX5_remove_50 (K : Kt) : tl K (lX5_remove) 50 = o_callV fX5_setAt 4 5 53 := rfl
theorem aX5_remove_53 (K : Kt) : tl K (lX5_remove) 53 = o_iinc 3 (nI 1) 56 := rfl
theorem aX5_remove_56 (K : Kt) : tl K (lX5_remove) 56 = o_goto 19 := rfl
theorem aX5_remove_59 (K : Kt) : tl K (lX5_remove) 59 = o_aload 0 60 := rfl
theorem aX5_remove_60 (K : Kt) : tl K (lX5_remove) 60 = o_get 5 0 63 := rfl
theorem aX5_remove_63 (K : Kt) : tl K (lX5_remove) 63 = o_iload 1 64 := rfl
theorem aX5_remove_64 (K : Kt) : tl K (lX5_remove) 64 = o_dup2 65 := rfl
theorem aX5_remove_65 (K : Kt) : tl K (lX5_remove) 65 = o_iald 66 := rfl
theorem aX5_remove_66 (K : Kt) : tl K (lX5_remove) 66 = o_pushI (nI 1) 67 := rfl
theorem aX5_remove_67 (K : Kt) : tl K (lX5_remove) 67 = o_isub 68 := rfl
theorem aX5_remove_68 (K : Kt) : tl K (lX5_remove) 68 = o_iast 69 := rfl
theorem aX5_remove_69 (K : Kt) : tl K (lX5_remove) 69 = o_vret K := rfl
theorem eX5_emptyGame {As L : List Value} {w : Wd} {K : Kt} (hw : wds As ≤ 3) (hL : ent 3 As = L) (h : RR (tl K lX5_emptyGame) 0 L [] w) : fX5_emptyGame As w K := ⟨hw, by rw [hL]; exact h⟩
theorem nX5_emptyGame : MonoF fX5_emptyGame := mono_f 3 lX5_emptyGame
theorem aX5_emptyGame_0 (K : Kt) : tl K (lX5_emptyGame) 0 = o_aload 0 1 := rfl
theorem aX5_emptyGame_1 (K : Kt) : tl K (lX5_emptyGame) 1 = o_get 5 0 4 := rfl
theorem aX5_emptyGame_4 (K : Kt) : tl K (lX5_emptyGame) 4 = o_iload 1 5 := rfl
theorem aX5_emptyGame_5 (K : Kt) : tl K (lX5_emptyGame) 5 = o_iald 6 := rfl
theorem aX5_emptyGame_6 (K : Kt) : tl K (lX5_emptyGame) 6 = o_pushI (nI 1) 7 := rfl
theorem aX5_emptyGame_7 (K : Kt) : tl K (lX5_emptyGame) 7 = o_isub 8 := rfl
theorem aX5_emptyGame_8 (K : Kt) : tl K (lX5_emptyGame) 8 = o_istore 2 9 := rfl
theorem aX5_emptyGame_9 (K : Kt) : tl K (lX5_emptyGame) 9 = o_iload 2 10 := rfl
theorem aX5_emptyGame_10 (K : Kt) : tl K (lX5_emptyGame) 10 = o_if_lt 25 13 := rfl
theorem aX5_emptyGame_13 (K : Kt) : tl K (lX5_emptyGame) 13 = o_aload 0 14 := rfl
theorem aX5_emptyGame_14 (K : Kt) : tl K (lX5_emptyGame) 14 = o_iload 1 15 := rfl
theorem aX5_emptyGame_15 (K : Kt) : tl K (lX5_emptyGame) 15 = o_iload 2 16 := rfl
theorem aX5_emptyGame_16 (K : Kt) : tl K (lX5_emptyGame) 16 = o_callV fX5_remove 2 5 19 := rfl
theorem aX5_emptyGame_19 (K : Kt) : tl K (lX5_emptyGame) 19 = o_iinc 2 ((-1)) 22 := rfl
theorem aX5_emptyGame_22 (K : Kt) : tl K (lX5_emptyGame) 22 = o_goto 9 := rfl
theorem aX5_emptyGame_25 (K : Kt) : tl K (lX5_emptyGame) 25 = o_vret K := rfl
theorem eX5_empty {As L : List Value} {w : Wd} {K : Kt} (hw : wds As ≤ 2) (hL : ent 2 As = L) (h : RR (tl K lX5_empty) 0 L [] w) : fX5_empty As w K := ⟨hw, by rw [hL]; exact h⟩
theorem nX5_empty : MonoF fX5_empty := mono_f 2 lX5_empty
theorem aX5_empty_0 (K : Kt) : tl K (lX5_empty) 0 = o_pushI (nI 0) 1 := rfl
theorem aX5_empty_1 (K : Kt) : tl K (lX5_empty) 1 = o_istore 1 2 := rfl
theorem aX5_empty_2 (K : Kt) : tl K (lX5_empty) 2 = o_iload 1 3 := rfl
theorem aX5_empty_3 (K : Kt) : tl K (lX5_empty) 3 = o_pushI (nI 20) 5 := rfl
theorem aX5_empty_5 (K : Kt) : tl K (lX5_empty) 5 = o_icmp_ge 19 8 := rfl
theorem aX5_empty_8 (K : Kt) : tl K (lX5_empty) 8 = o_aload 0 9 := rfl
theorem aX5_empty_9 (K : Kt) : tl K (lX5_empty) 9 = o_iload 1 10 := rfl
theorem aX5_empty_10 (K : Kt) : tl K (lX5_empty) 10 = o_callV fX5_emptyGame 1 5 13 := rfl
theorem aX5_empty_13 (K : Kt) : tl K (lX5_empty) 13 = o_iinc 1 (nI 1) 16 := rfl
theorem aX5_empty_16 (K : Kt) : tl K (lX5_empty) 16 = o_goto 2 := rfl
theorem aX5_empty_19 (K : Kt) : tl K (lX5_empty) 19 = o_vret K := rfl
theorem eX5_loadFrom {As L : List Value} {w : Wd} {K : Kt} (hw : wds As ≤ 7) (hL : ent 7 As = L) (h : RR (tl K lX5_loadFrom) 0 L [] w) : fX5_loadFrom As w K := ⟨hw, by rw [hL]; exact h⟩
theorem nX5_loadFrom : MonoF fX5_loadFrom := mono_f 7 lX5_loadFrom
theorem aX5_loadFrom_0 (K : Kt) : tl K (lX5_loadFrom) 0 = o_aload 0 1 := rfl
theorem aX5_loadFrom_1 (K : Kt) : tl K (lX5_loadFrom) 1 = o_callV fX5_empty 0 5 4 := rfl
theorem aX5_loadFrom_4 (K : Kt) : tl K (lX5_loadFrom) 4 = o_pushI (nI 0) 5 := rfl
theorem aX5_loadFrom_5 (K : Kt) : tl K (lX5_loadFrom) 5 = o_istore 3 6 := rfl
theorem aX5_loadFrom_6 (K : Kt) : tl K (lX5_loadFrom) 6 = o_iload 3 7 := rfl
theorem aX5_loadFrom_7 (K : Kt) : tl K (lX5_loadFrom) 7 = o_pushI (nI 20) 9 := rfl
theorem aX5_loadFrom_9 (K : Kt) : tl K (lX5_loadFrom) 9 = o_icmp_ge 76 12 := rfl
theorem aX5_loadFrom_12 (K : Kt) : tl K (lX5_loadFrom) 12 = o_aload 1 13 := rfl
theorem aX5_loadFrom_13 (K : Kt) : tl K (lX5_loadFrom) 13 = o_iload 2 14 := rfl
theorem aX5_loadFrom_14 (K : Kt) : tl K (lX5_loadFrom) 14 = o_iload 3 15 := rfl
theorem aX5_loadFrom_15 (K : Kt) : tl K (lX5_loadFrom) 15 = o_iadd 16 := rfl
theorem aX5_loadFrom_16 (K : Kt) : tl K (lX5_loadFrom) 16 = o_iald 17 := rfl
theorem aX5_loadFrom_17 (K : Kt) : tl K (lX5_loadFrom) 17 = o_istore 4 19 := rfl
theorem aX5_loadFrom_19 (K : Kt) : tl K (lX5_loadFrom) 19 = o_pushI (nI 0) 20 := rfl
theorem aX5_loadFrom_20 (K : Kt) : tl K (lX5_loadFrom) 20 = o_istore 5 22 := rfl
theorem aX5_loadFrom_22 (K : Kt) : tl K (lX5_loadFrom) 22 = o_iload 5 24 := rfl
theorem aX5_loadFrom_24 (K : Kt) : tl K (lX5_loadFrom) 24 = o_iload 4 26 := rfl
theorem aX5_loadFrom_26 (K : Kt) : tl K (lX5_loadFrom) 26 = o_icmp_ge 70 29 := rfl
theorem aX5_loadFrom_29 (K : Kt) : tl K (lX5_loadFrom) 29 = o_iload 5 31 := rfl
theorem aX5_loadFrom_31 (K : Kt) : tl K (lX5_loadFrom) 31 = o_pushI (nI 3) 32 := rfl
theorem aX5_loadFrom_32 (K : Kt) : tl K (lX5_loadFrom) 32 = o_icmp_ge 70 35 := rfl
theorem aX5_loadFrom_35 (K : Kt) : tl K (lX5_loadFrom) 35 = o_iload 2 36 := rfl
theorem aX5_loadFrom_36 (K : Kt) : tl K (lX5_loadFrom) 36 = o_pushI (nI 20) 38 := rfl
theorem aX5_loadFrom_38 (K : Kt) : tl K (lX5_loadFrom) 38 = o_iadd 39 := rfl
theorem aX5_loadFrom_39 (K : Kt) : tl K (lX5_loadFrom) 39 = o_iload 3 40 := rfl
theorem aX5_loadFrom_40 (K : Kt) : tl K (lX5_loadFrom) 40 = o_pushI (nI 3) 41 := rfl
theorem aX5_loadFrom_41 (K : Kt) : tl K (lX5_loadFrom) 41 = o_imul 42 := rfl
theorem aX5_loadFrom_42 (K : Kt) : tl K (lX5_loadFrom) 42 = o_iadd 43 := rfl
theorem aX5_loadFrom_43 (K : Kt) : tl K (lX5_loadFrom) 43 = o_iload 5 45 := rfl
theorem aX5_loadFrom_45 (K : Kt) : tl K (lX5_loadFrom) 45 = o_iadd 46 := rfl
theorem aX5_loadFrom_46 (K : Kt) : tl K (lX5_loadFrom) 46 = o_istore 6 48 := rfl
theorem aX5_loadFrom_48 (K : Kt) : tl K (lX5_loadFrom) 48 = o_aload 0 49 := rfl
theorem aX5_loadFrom_49 (K : Kt) : tl K (lX5_loadFrom) 49 = o_iload 3 50 := rfl
theorem aX5_loadFrom_50 (K : Kt) : tl K (lX5_loadFrom) 50 = o_aload 1 51 := rfl
theorem aX5_loadFrom_51 (K : Kt) : tl K (lX5_loadFrom) 51 = o_iload 6 53 := rfl
theorem aX5_loadFrom_53 (K : Kt) : tl K (lX5_loadFrom) 53 = o_iald 54 := rfl
theorem aX5_loadFrom_54 (K : Kt) : tl K (lX5_loadFrom) 54 = o_aload 1 55 := rfl
theorem aX5_loadFrom_55 (K : Kt) : tl K (lX5_loadFrom) 55 = o_iload 6 57 := rfl
theorem aX5_loadFrom_57 (K : Kt) : tl K (lX5_loadFrom) 57 = o_pushI (nI 60) 59 := rfl
theorem aX5_loadFrom_59 (K : Kt) : tl K (lX5_loadFrom) 59 = o_iadd 60 := rfl
theorem aX5_loadFrom_60 (K : Kt) : tl K (lX5_loadFrom) 60 = o_iald 61 := rfl
theorem aX5_loadFrom_61 (K : Kt) : tl K (lX5_loadFrom) 61 = o_callV fX5_add 3 5 64 := rfl
theorem aX5_loadFrom_64 (K : Kt) : tl K (lX5_loadFrom) 64 = o_iinc 5 (nI 1) 67 := rfl
theorem aX5_loadFrom_67 (K : Kt) : tl K (lX5_loadFrom) 67 = o_goto 22 := rfl
theorem aX5_loadFrom_70 (K : Kt) : tl K (lX5_loadFrom) 70 = o_iinc 3 (nI 1) 73 := rfl
theorem aX5_loadFrom_73 (K : Kt) : tl K (lX5_loadFrom) 73 = o_goto 6 := rfl
theorem aX5_loadFrom_76 (K : Kt) : tl K (lX5_loadFrom) 76 = o_vret K := rfl
theorem eX4_goBack {As L : List Value} {w : Wd} {K : Kt} (hw : wds As ≤ 1) (hL : ent 1 As = L) (h : RR (tl K lX4_goBack) 0 L [] w) : fX4_goBack As w K := ⟨hw, by rw [hL]; exact h⟩
theorem nX4_goBack : MonoF fX4_goBack := mono_f 1 lX4_goBack
theorem aX4_goBack_0 (K : Kt) : tl K (lX4_goBack) 0 = o_aload 0 1 := rfl
theorem aX4_goBack_1 (K : Kt) : tl K (lX4_goBack) 1 = o_aload 0 2 := rfl
theorem aX4_goBack_2 (K : Kt) : tl K (lX4_goBack) 2 = o_get 4 3 5 := rfl
theorem aX4_goBack_5 (K : Kt) : tl K (lX4_goBack) 5 = o_pushI (nI 10) 7 := rfl
theorem aX4_goBack_7 (K : Kt) : tl K (lX4_goBack) 7 = o_iadd 8 := rfl
theorem aX4_goBack_8 (K : Kt) : tl K (lX4_goBack) 8 = o_pushI (nI 1) 9 := rfl
theorem aX4_goBack_9 (K : Kt) : tl K (lX4_goBack) 9 = o_isub 10 := rfl
theorem aX4_goBack_10 (K : Kt) : tl K (lX4_goBack) 10 = o_pushI (nI 10) 12 := rfl
theorem aX4_goBack_12 (K : Kt) : tl K (lX4_goBack) 12 = o_irem 13 := rfl
theorem aX4_goBack_13 (K : Kt) : tl K (lX4_goBack) 13 = o_putI 4 3 16 := rfl
theorem aX4_goBack_16 (K : Kt) : tl K (lX4_goBack) 16 = o_aload 0 17 := rfl
theorem aX4_goBack_17 (K : Kt) : tl K (lX4_goBack) 17 = o_dup 18 := rfl
theorem aX4_goBack_18 (K : Kt) : tl K (lX4_goBack) 18 = o_get 4 4 21 := rfl
theorem aX4_goBack_21 (K : Kt) : tl K (lX4_goBack) 21 = o_pushI (nI 1) 22 := rfl
theorem aX4_goBack_22 (K : Kt) : tl K (lX4_goBack) 22 = o_isub 23 := rfl
theorem aX4_goBack_23 (K : Kt) : tl K (lX4_goBack) 23 = o_putI 4 4 26 := rfl
theorem aX4_goBack_26 (K : Kt) : tl K (lX4_goBack) 26 = o_aload 0 27 := rfl
theorem aX4_goBack_27 (K : Kt) : tl K (lX4_goBack) 27 = o_get 4 0 30 := rfl
theorem aX4_goBack_30 (K : Kt) : tl K (lX4_goBack) 30 = o_aload 0 31 := rfl
theorem aX4_goBack_31 (K : Kt) : tl K (lX4_goBack) 31 = o_get 4 2 34 := rfl
theorem aX4_goBack_34 (K : Kt) : tl K (lX4_goBack) 34 = o_aload 0 35 := rfl
theorem aX4_goBack_35 (K : Kt) : tl K (lX4_goBack) 35 = o_get 4 3 38 := rfl
theorem aX4_goBack_38 (K : Kt) : tl K (lX4_goBack) 38 = o_pushI (nI 180) 41 := rfl
theorem aX4_goBack_41 (K : Kt) : tl K (lX4_goBack) 41 = o_imul 42 := rfl
theorem aX4_goBack_42 (K : Kt) : tl K (lX4_goBack) 42 = o_callV fX9_loadFrom 2 9 45 := rfl
theorem aX4_goBack_45 (K : Kt) : tl K (lX4_goBack) 45 = o_aload 0 46 := rfl
theorem aX4_goBack_46 (K : Kt) : tl K (lX4_goBack) 46 = o_get 4 1 49 := rfl
theorem aX4_goBack_49 (K : Kt) : tl K (lX4_goBack) 49 = o_aload 0 50 := rfl
theorem aX4_goBack_50 (K : Kt) : tl K (lX4_goBack) 50 = o_get 4 2 53 := rfl
theorem aX4_goBack_53 (K : Kt) : tl K (lX4_goBack) 53 = o_aload 0 54 := rfl
theorem aX4_goBack_54 (K : Kt) : tl K (lX4_goBack) 54 = o_get 4 3 57 := rfl
theorem aX4_goBack_57 (K : Kt) : tl K (lX4_goBack) 57 = o_pushI (nI 180) 60 := rfl
theorem aX4_goBack_60 (K : Kt) : tl K (lX4_goBack) 60 = o_imul 61 := rfl
theorem aX4_goBack_61 (K : Kt) : tl K (lX4_goBack) 61 = o_pushI (nI 40) 63 := rfl
theorem aX4_goBack_63 (K : Kt) : tl K (lX4_goBack) 63 = o_iadd 64 := rfl
theorem aX4_goBack_64 (K : Kt) : tl K (lX4_goBack) 64 = o_callV fX5_loadFrom 2 5 67 := rfl
theorem aX4_goBack_67 (K : Kt) : tl K (lX4_goBack) 67 = o_vret K := rfl
theorem eX9_empty {As L : List Value} {w : Wd} {K : Kt} (hw : wds As ≤ 1) (hL : ent 1 As = L) (h : RR (tl K lX9_empty) 0 L [] w) : fX9_empty As w K := ⟨hw, by rw [hL]; exact h⟩
theorem nX9_empty : MonoF fX9_empty := mono_f 1 lX9_empty
theorem aX9_empty_0 (K : Kt) : tl K (lX9_empty) 0 = o_aload 0 1 := rfl
theorem aX9_empty_1 (K : Kt) : tl K (lX9_empty) 1 = o_pushI (nI 0) 2 := rfl
theorem aX9_empty_2 (K : Kt) : tl K (lX9_empty) 2 = o_putI 9 0 5 := rfl
theorem aX9_empty_5 (K : Kt) : tl K (lX9_empty) 5 = o_aload 0 6 := rfl
theorem aX9_empty_6 (K : Kt) : tl K (lX9_empty) 6 = o_pushI (nI 0) 7 := rfl
theorem aX9_empty_7 (K : Kt) : tl K (lX9_empty) 7 = o_putI 9 4 10 := rfl
theorem aX9_empty_10 (K : Kt) : tl K (lX9_empty) 10 = o_aload 0 11 := rfl
theorem aX9_empty_11 (K : Kt) : tl K (lX9_empty) 11 = o_pushI (nI 0) 12 := rfl
theorem aX9_empty_12 (K : Kt) : tl K (lX9_empty) 12 = o_putI 9 7 15 := rfl
theorem aX9_empty_15 (K : Kt) : tl K (lX9_empty) 15 = o_pushR 106 18 := rfl
theorem aX9_empty_18 (K : Kt) : tl K (lX9_empty) 18 = o_pushI (nI 0) 19 := rfl
theorem aX9_empty_19 (K : Kt) : tl K (lX9_empty) 19 = o_aload 0 20 := rfl
theorem aX9_empty_20 (K : Kt) : tl K (lX9_empty) 20 = o_get 9 6 23 := rfl
theorem aX9_empty_23 (K : Kt) : tl K (lX9_empty) 23 = o_pushI (nI 0) 24 := rfl
theorem aX9_empty_24 (K : Kt) : tl K (lX9_empty) 24 = o_pushI (nI 3) 25 := rfl
theorem aX9_empty_25 (K : Kt) : tl K (lX9_empty) 25 = o_copyR 28 := rfl
theorem aX9_empty_28 (K : Kt) : tl K (lX9_empty) 28 = o_vret K := rfl
theorem eX8_beginTokens {As L : List Value} {w : Wd} {K : Kt} (hw : wds As ≤ 2) (hL : ent 2 As = L) (h : RR (tl K lX8_beginTokens) 0 L [] w) : fX8_beginTokens As w K := ⟨hw, by rw [hL]; exact h⟩
theorem nX8_beginTokens : MonoF fX8_beginTokens := mono_f 2 lX8_beginTokens
theorem aX8_beginTokens_0 (K : Kt) : tl K (lX8_beginTokens) 0 = o_aload 0 1 := rfl
theorem aX8_beginTokens_1 (K : Kt) : tl K (lX8_beginTokens) 1 = o_pushI (nI 0) 2 := rfl
theorem aX8_beginTokens_2 (K : Kt) : tl K (lX8_beginTokens) 2 = o_iload 1 3 := rfl
theorem aX8_beginTokens_3 (K : Kt) : tl K (lX8_beginTokens) 3 = o_aload 0 4 := rfl
theorem aX8_beginTokens_4 (K : Kt) : tl K (lX8_beginTokens) 4 = o_get 8 1 7 := rfl
theorem aX8_beginTokens_7 (K : Kt) : tl K (lX8_beginTokens) 7 = o_min 10 := rfl
theorem aX8_beginTokens_10 (K : Kt) : tl K (lX8_beginTokens) 10 = o_max 13 := rfl
theorem aX8_beginTokens_13 (K : Kt) : tl K (lX8_beginTokens) 13 = o_putI 8 2 16 := rfl
theorem aX8_beginTokens_16 (K : Kt) : tl K (lX8_beginTokens) 16 = o_aload 0 17 := rfl
theorem aX8_beginTokens_17 (K : Kt) : tl K (lX8_beginTokens) 17 = o_pushI (nI 0) 18 := rfl
theorem aX8_beginTokens_18 (K : Kt) : tl K (lX8_beginTokens) 18 = o_putI 8 3 21 := rfl
theorem aX8_beginTokens_21 (K : Kt) : tl K (lX8_beginTokens) 21 = o_vret K := rfl
theorem eX8_isLetter {As L : List Value} {w : Wd} {K : Kt} (hw : wds As ≤ 1) (hL : ent 1 As = L) (h : RR (tl K lX8_isLetter) 0 L [] w) : fX8_isLetter As w K := ⟨hw, by rw [hL]; exact h⟩
theorem nX8_isLetter : MonoF fX8_isLetter := mono_f 1 lX8_isLetter
theorem aX8_isLetter_0 (K : Kt) : tl K (lX8_isLetter) 0 = o_iload 0 1 := rfl
theorem aX8_isLetter_1 (K : Kt) : tl K (lX8_isLetter) 1 = o_pushI (nI 97) 3 := rfl
theorem aX8_isLetter_3 (K : Kt) : tl K (lX8_isLetter) 3 = o_icmp_lt 16 6 := rfl
theorem aX8_isLetter_6 (K : Kt) : tl K (lX8_isLetter) 6 = o_iload 0 7 := rfl
theorem aX8_isLetter_7 (K : Kt) : tl K (lX8_isLetter) 7 = o_pushI (nI 122) 9 := rfl
theorem aX8_isLetter_9 (K : Kt) : tl K (lX8_isLetter) 9 = o_icmp_gt 16 12 := rfl
theorem aX8_isLetter_12 (K : Kt) : tl K (lX8_isLetter) 12 = o_pushI (nI 1) 13 := rfl
theorem aX8_isLetter_13 (K : Kt) : tl K (lX8_isLetter) 13 = o_goto 17 := rfl
theorem aX8_isLetter_16 (K : Kt) : tl K (lX8_isLetter) 16 = o_pushI (nI 0) 17 := rfl
theorem aX8_isLetter_17 (K : Kt) : tl K (lX8_isLetter) 17 = o_zret K := rfl
theorem eX8_scanWord {As L : List Value} {w : Wd} {K : Kt} (hw : wds As ≤ 1) (hL : ent 1 As = L) (h : RR (tl K lX8_scanWord) 0 L [] w) : fX8_scanWord As w K := ⟨hw, by rw [hL]; exact h⟩
theorem nX8_scanWord : MonoF fX8_scanWord := mono_f 1 lX8_scanWord
theorem aX8_scanWord_0 (K : Kt) : tl K (lX8_scanWord) 0 = o_aload 0 1 := rfl
theorem aX8_scanWord_1 (K : Kt) : tl K (lX8_scanWord) 1 = o_pushL (lN 0) 2 := rfl
theorem aX8_scanWord_2 (K : Kt) : tl K (lX8_scanWord) 2 = o_putL 8 7 5 := rfl
theorem aX8_scanWord_5 (K : Kt) : tl K (lX8_scanWord) 5 = o_aload 0 6 := rfl
theorem aX8_scanWord_6 (K : Kt) : tl K (lX8_scanWord) 6 = o_get 8 3 9 := rfl
theorem aX8_scanWord_9 (K : Kt) : tl K (lX8_scanWord) 9 = o_aload 0 10 := rfl
theorem aX8_scanWord_10 (K : Kt) : tl K (lX8_scanWord) 10 = o_get 8 2 13 := rfl
theorem aX8_scanWord_13 (K : Kt) : tl K (lX8_scanWord) 13 = o_icmp_ge 70 16 := rfl
theorem aX8_scanWord_16 (K : Kt) : tl K (lX8_scanWord) 16 = o_aload 0 17 := rfl
theorem aX8_scanWord_17 (K : Kt) : tl K (lX8_scanWord) 17 = o_get 8 0 20 := rfl
theorem aX8_scanWord_20 (K : Kt) : tl K (lX8_scanWord) 20 = o_aload 0 21 := rfl
theorem aX8_scanWord_21 (K : Kt) : tl K (lX8_scanWord) 21 = o_get 8 3 24 := rfl
theorem aX8_scanWord_24 (K : Kt) : tl K (lX8_scanWord) 24 = o_bald 25 := rfl
theorem aX8_scanWord_25 (K : Kt) : tl K (lX8_scanWord) 25 = o_callS fX8_isLetter 1 28 := rfl
theorem aX8_scanWord_28 (K : Kt) : tl K (lX8_scanWord) 28 = o_if_eq 70 31 := rfl
theorem aX8_scanWord_31 (K : Kt) : tl K (lX8_scanWord) 31 = o_aload 0 32 := rfl
theorem aX8_scanWord_32 (K : Kt) : tl K (lX8_scanWord) 32 = o_aload 0 33 := rfl
theorem aX8_scanWord_33 (K : Kt) : tl K (lX8_scanWord) 33 = o_get 8 7 36 := rfl
theorem aX8_scanWord_36 (K : Kt) : tl K (lX8_scanWord) 36 = o_pushI (nI 5) 37 := rfl
theorem aX8_scanWord_37 (K : Kt) : tl K (lX8_scanWord) 37 = o_lshl 38 := rfl
theorem aX8_scanWord_38 (K : Kt) : tl K (lX8_scanWord) 38 = o_aload 0 39 := rfl
theorem aX8_scanWord_39 (K : Kt) : tl K (lX8_scanWord) 39 = o_get 8 0 42 := rfl
theorem aX8_scanWord_42 (K : Kt) : tl K (lX8_scanWord) 42 = o_aload 0 43 := rfl
theorem aX8_scanWord_43 (K : Kt) : tl K (lX8_scanWord) 43 = o_get 8 3 46 := rfl
theorem aX8_scanWord_46 (K : Kt) : tl K (lX8_scanWord) 46 = o_bald 47 := rfl
theorem aX8_scanWord_47 (K : Kt) : tl K (lX8_scanWord) 47 = o_pushI (nI 97) 49 := rfl
theorem aX8_scanWord_49 (K : Kt) : tl K (lX8_scanWord) 49 = o_isub 50 := rfl
theorem aX8_scanWord_50 (K : Kt) : tl K (lX8_scanWord) 50 = o_pushI (nI 1) 51 := rfl
theorem aX8_scanWord_51 (K : Kt) : tl K (lX8_scanWord) 51 = o_iadd 52 := rfl
theorem aX8_scanWord_52 (K : Kt) : tl K (lX8_scanWord) 52 = o_i2l 53 := rfl
theorem aX8_scanWord_53 (K : Kt) : tl K (lX8_scanWord) 53 = o_lor 54 := rfl
theorem aX8_scanWord_54 (K : Kt) : tl K (lX8_scanWord) 54 = o_putL 8 7 57 := rfl
theorem aX8_scanWord_57 (K : Kt) : tl K (lX8_scanWord) 57 = o_aload 0 58 := rfl
theorem aX8_scanWord_58 (K : Kt) : tl K (lX8_scanWord) 58 = o_dup 59 := rfl
theorem aX8_scanWord_59 (K : Kt) : tl K (lX8_scanWord) 59 = o_get 8 3 62 := rfl
theorem aX8_scanWord_62 (K : Kt) : tl K (lX8_scanWord) 62 = o_pushI (nI 1) 63 := rfl
theorem aX8_scanWord_63 (K : Kt) : tl K (lX8_scanWord) 63 = o_iadd 64 := rfl
theorem aX8_scanWord_64 (K : Kt) : tl K (lX8_scanWord) 64 = o_putI 8 3 67 := rfl
theorem aX8_scanWord_67 (K : Kt) : tl K (lX8_scanWord) 67 = o_goto 5 := rfl
theorem aX8_scanWord_70 (K : Kt) : tl K (lX8_scanWord) 70 = o_aload 0 71 := rfl
theorem aX8_scanWord_71 (K : Kt) : tl K (lX8_scanWord) 71 = o_aload 0 72 := rfl
theorem aX8_scanWord_72 (K : Kt) : tl K (lX8_scanWord) 72 = o_get 8 3 75 := rfl
theorem aX8_scanWord_75 (K : Kt) : tl K (lX8_scanWord) 75 = o_aload 0 76 := rfl
theorem aX8_scanWord_76 (K : Kt) : tl K (lX8_scanWord) 76 = o_get 8 5 79 := rfl
theorem aX8_scanWord_79 (K : Kt) : tl K (lX8_scanWord) 79 = o_isub 80 := rfl
theorem aX8_scanWord_80 (K : Kt) : tl K (lX8_scanWord) 80 = o_pushI (nI 7) 82 := rfl
theorem aX8_scanWord_82 (K : Kt) : tl K (lX8_scanWord) 82 = o_icmp_gt 89 85 := rfl
theorem aX8_scanWord_85 (K : Kt) : tl K (lX8_scanWord) 85 = o_pushI (nI 1) 86 := rfl
theorem aX8_scanWord_86 (K : Kt) : tl K (lX8_scanWord) 86 = o_goto 90 := rfl
theorem aX8_scanWord_89 (K : Kt) : tl K (lX8_scanWord) 89 = o_pushI (nI 4) 90 := rfl
theorem aX8_scanWord_90 (K : Kt) : tl K (lX8_scanWord) 90 = o_putI 8 4 93 := rfl
theorem aX8_scanWord_93 (K : Kt) : tl K (lX8_scanWord) 93 = o_vret K := rfl
theorem eX8_isDigit {As L : List Value} {w : Wd} {K : Kt} (hw : wds As ≤ 1) (hL : ent 1 As = L) (h : RR (tl K lX8_isDigit) 0 L [] w) : fX8_isDigit As w K := ⟨hw, by rw [hL]; exact h⟩
theorem nX8_isDigit : MonoF fX8_isDigit := mono_f 1 lX8_isDigit
theorem aX8_isDigit_0 (K : Kt) : tl K (lX8_isDigit) 0 = o_iload 0 1 := rfl
theorem aX8_isDigit_1 (K : Kt) : tl K (lX8_isDigit) 1 = o_pushI (nI 48) 3 := rfl
theorem aX8_isDigit_3 (K : Kt) : tl K (lX8_isDigit) 3 = o_icmp_lt 16 6 := rfl
theorem aX8_isDigit_6 (K : Kt) : tl K (lX8_isDigit) 6 = o_iload 0 7 := rfl
theorem aX8_isDigit_7 (K : Kt) : tl K (lX8_isDigit) 7 = o_pushI (nI 57) 9 := rfl
theorem aX8_isDigit_9 (K : Kt) : tl K (lX8_isDigit) 9 = o_icmp_gt 16 12 := rfl
theorem aX8_isDigit_12 (K : Kt) : tl K (lX8_isDigit) 12 = o_pushI (nI 1) 13 := rfl
theorem aX8_isDigit_13 (K : Kt) : tl K (lX8_isDigit) 13 = o_goto 17 := rfl
theorem aX8_isDigit_16 (K : Kt) : tl K (lX8_isDigit) 16 = o_pushI (nI 0) 17 := rfl
theorem aX8_isDigit_17 (K : Kt) : tl K (lX8_isDigit) 17 = o_zret K := rfl
theorem eX8_scanWhole {As L : List Value} {w : Wd} {K : Kt} (hw : wds As ≤ 1) (hL : ent 1 As = L) (h : RR (tl K lX8_scanWhole) 0 L [] w) : fX8_scanWhole As w K := ⟨hw, by rw [hL]; exact h⟩
theorem nX8_scanWhole : MonoF fX8_scanWhole := mono_f 1 lX8_scanWhole
theorem aX8_scanWhole_0 (K : Kt) : tl K (lX8_scanWhole) 0 = o_aload 0 1 := rfl
theorem aX8_scanWhole_1 (K : Kt) : tl K (lX8_scanWhole) 1 = o_pushI (nI 0) 2 := rfl
theorem aX8_scanWhole_2 (K : Kt) : tl K (lX8_scanWhole) 2 = o_putI 8 6 5 := rfl
theorem aX8_scanWhole_5 (K : Kt) : tl K (lX8_scanWhole) 5 = o_aload 0 6 := rfl
theorem aX8_scanWhole_6 (K : Kt) : tl K (lX8_scanWhole) 6 = o_get 8 3 9 := rfl
theorem aX8_scanWhole_9 (K : Kt) : tl K (lX8_scanWhole) 9 = o_aload 0 10 := rfl
theorem aX8_scanWhole_10 (K : Kt) : tl K (lX8_scanWhole) 10 = o_get 8 2 13 := rfl
theorem aX8_scanWhole_13 (K : Kt) : tl K (lX8_scanWhole) 13 = o_icmp_ge 68 16 := rfl
theorem aX8_scanWhole_16 (K : Kt) : tl K (lX8_scanWhole) 16 = o_aload 0 17 := rfl
theorem aX8_scanWhole_17 (K : Kt) : tl K (lX8_scanWhole) 17 = o_get 8 0 20 := rfl
theorem aX8_scanWhole_20 (K : Kt) : tl K (lX8_scanWhole) 20 = o_aload 0 21 := rfl
theorem aX8_scanWhole_21 (K : Kt) : tl K (lX8_scanWhole) 21 = o_get 8 3 24 := rfl
theorem aX8_scanWhole_24 (K : Kt) : tl K (lX8_scanWhole) 24 = o_bald 25 := rfl
theorem aX8_scanWhole_25 (K : Kt) : tl K (lX8_scanWhole) 25 = o_callS fX8_isDigit 1 28 := rfl
theorem aX8_scanWhole_28 (K : Kt) : tl K (lX8_scanWhole) 28 = o_if_eq 68 31 := rfl
theorem aX8_scanWhole_31 (K : Kt) : tl K (lX8_scanWhole) 31 = o_aload 0 32 := rfl
theorem aX8_scanWhole_32 (K : Kt) : tl K (lX8_scanWhole) 32 = o_pushI (nI 10) 34 := rfl
theorem aX8_scanWhole_34 (K : Kt) : tl K (lX8_scanWhole) 34 = o_aload 0 35 := rfl
theorem aX8_scanWhole_35 (K : Kt) : tl K (lX8_scanWhole) 35 = o_get 8 6 38 := rfl
theorem aX8_scanWhole_38 (K : Kt) : tl K (lX8_scanWhole) 38 = o_imul 39 := rfl
theorem aX8_scanWhole_39 (K : Kt) : tl K (lX8_scanWhole) 39 = o_aload 0 40 := rfl
theorem aX8_scanWhole_40 (K : Kt) : tl K (lX8_scanWhole) 40 = o_get 8 0 43 := rfl
theorem aX8_scanWhole_43 (K : Kt) : tl K (lX8_scanWhole) 43 = o_aload 0 44 := rfl
theorem aX8_scanWhole_44 (K : Kt) : tl K (lX8_scanWhole) 44 = o_get 8 3 47 := rfl
theorem aX8_scanWhole_47 (K : Kt) : tl K (lX8_scanWhole) 47 = o_bald 48 := rfl
theorem aX8_scanWhole_48 (K : Kt) : tl K (lX8_scanWhole) 48 = o_pushI (nI 48) 50 := rfl
theorem aX8_scanWhole_50 (K : Kt) : tl K (lX8_scanWhole) 50 = o_isub 51 := rfl
theorem aX8_scanWhole_51 (K : Kt) : tl K (lX8_scanWhole) 51 = o_iadd 52 := rfl
theorem aX8_scanWhole_52 (K : Kt) : tl K (lX8_scanWhole) 52 = o_putI 8 6 55 := rfl
theorem aX8_scanWhole_55 (K : Kt) : tl K (lX8_scanWhole) 55 = o_aload 0 56 := rfl
theorem aX8_scanWhole_56 (K : Kt) : tl K (lX8_scanWhole) 56 = o_dup 57 := rfl
theorem aX8_scanWhole_57 (K : Kt) : tl K (lX8_scanWhole) 57 = o_get 8 3 60 := rfl
theorem aX8_scanWhole_60 (K : Kt) : tl K (lX8_scanWhole) 60 = o_pushI (nI 1) 61 := rfl
theorem aX8_scanWhole_61 (K : Kt) : tl K (lX8_scanWhole) 61 = o_iadd 62 := rfl
theorem aX8_scanWhole_62 (K : Kt) : tl K (lX8_scanWhole) 62 = o_putI 8 3 65 := rfl
theorem aX8_scanWhole_65 (K : Kt) : tl K (lX8_scanWhole) 65 = o_goto 5 := rfl
theorem aX8_scanWhole_68 (K : Kt) : tl K (lX8_scanWhole) 68 = o_aload 0 69 := rfl
theorem aX8_scanWhole_69 (K : Kt) : tl K (lX8_scanWhole) 69 = o_aload 0 70 := rfl
theorem aX8_scanWhole_70 (K : Kt) : tl K (lX8_scanWhole) 70 = o_get 8 3 73 := rfl
theorem aX8_scanWhole_73 (K : Kt) : tl K (lX8_scanWhole) 73 = o_aload 0 74 := rfl
theorem aX8_scanWhole_74 (K : Kt) : tl K (lX8_scanWhole) 74 = o_get 8 5 77 := rfl
theorem aX8_scanWhole_77 (K : Kt) : tl K (lX8_scanWhole) 77 = o_isub 78 := rfl
theorem aX8_scanWhole_78 (K : Kt) : tl K (lX8_scanWhole) 78 = o_pushI (nI 3) 79 := rfl
theorem aX8_scanWhole_79 (K : Kt) : tl K (lX8_scanWhole) 79 = o_icmp_gt 86 82 := rfl
theorem aX8_scanWhole_82 (K : Kt) : tl K (lX8_scanWhole) 82 = o_pushI (nI 2) 83 := rfl
theorem aX8_scanWhole_83 (K : Kt) : tl K (lX8_scanWhole) 83 = o_goto 87 := rfl
theorem aX8_scanWhole_86 (K : Kt) : tl K (lX8_scanWhole) 86 = o_pushI (nI 4) 87 := rfl
theorem aX8_scanWhole_87 (K : Kt) : tl K (lX8_scanWhole) 87 = o_putI 8 4 90 := rfl
theorem aX8_scanWhole_90 (K : Kt) : tl K (lX8_scanWhole) 90 = o_vret K := rfl
theorem eX8_nextToken {As L : List Value} {w : Wd} {K : Kt} (hw : wds As ≤ 1) (hL : ent 1 As = L) (h : RR (tl K lX8_nextToken) 0 L [] w) : fX8_nextToken As w K := ⟨hw, by rw [hL]; exact h⟩
theorem nX8_nextToken : MonoF fX8_nextToken := mono_f 1 lX8_nextToken
theorem aX8_nextToken_0 (K : Kt) : tl K (lX8_nextToken) 0 = o_aload 0 1 := rfl
theorem aX8_nextToken_1 (K : Kt) : tl K (lX8_nextToken) 1 = o_get 8 3 4 := rfl
theorem aX8_nextToken_4 (K : Kt) : tl K (lX8_nextToken) 4 = o_aload 0 5 := rfl
theorem aX8_nextToken_5 (K : Kt) : tl K (lX8_nextToken) 5 = o_get 8 2 8 := rfl
theorem aX8_nextToken_8 (K : Kt) : tl K (lX8_nextToken) 8 = o_icmp_ge 38 11 := rfl
theorem aX8_nextToken_11 (K : Kt) : tl K (lX8_nextToken) 11 = o_aload 0 12 := rfl
theorem aX8_nextToken_12 (K : Kt) : tl K (lX8_nextToken) 12 = o_get 8 0 15 := rfl
theorem aX8_nextToken_15 (K : Kt) : tl K (lX8_nextToken) 15 = o_aload 0 16 := rfl
theorem aX8_nextToken_16 (K : Kt) : tl K (lX8_nextToken) 16 = o_get 8 3 19 := rfl
theorem aX8_nextToken_19 (K : Kt) : tl K (lX8_nextToken) 19 = o_bald 20 := rfl
theorem aX8_nextToken_20 (K : Kt) : tl K (lX8_nextToken) 20 = o_pushI (nI 32) 22 := rfl
theorem aX8_nextToken_22 (K : Kt) : tl K (lX8_nextToken) 22 = o_icmp_ne 38 25 := rfl
theorem aX8_nextToken_25 (K : Kt) : tl K (lX8_nextToken) 25 = o_aload 0 26 := rfl
theorem aX8_nextToken_26 (K : Kt) : tl K (lX8_nextToken) 26 = o_dup 27 := rfl
theorem aX8_nextToken_27 (K : Kt) : tl K (lX8_nextToken) 27 = o_get 8 3 30 := rfl
theorem aX8_nextToken_30 (K : Kt) : tl K (lX8_nextToken) 30 = o_pushI (nI 1) 31 := rfl
theorem aX8_nextToken_31 (K : Kt) : tl K (lX8_nextToken) 31 = o_iadd 32 := rfl
theorem aX8_nextToken_32 (K : Kt) : tl K (lX8_nextToken) 32 = o_putI 8 3 35 := rfl
theorem aX8_nextToken_35 (K : Kt) : tl K (lX8_nextToken) 35 = o_goto 0 := rfl
theorem aX8_nextToken_38 (K : Kt) : tl K (lX8_nextToken) 38 = o_aload 0 39 := rfl
theorem aX8_nextToken_39 (K : Kt) : tl K (lX8_nextToken) 39 = o_aload 0 40 := rfl
theorem aX8_nextToken_40 (K : Kt) : tl K (lX8_nextToken) 40 = o_get 8 3 43 := rfl
theorem aX8_nextToken_43 (K : Kt) : tl K (lX8_nextToken) 43 = o_putI 8 5 46 := rfl
theorem aX8_nextToken_46 (K : Kt) : tl K (lX8_nextToken) 46 = o_aload 0 47 := rfl
theorem aX8_nextToken_47 (K : Kt) : tl K (lX8_nextToken) 47 = o_get 8 3 50 := rfl
theorem aX8_nextToken_50 (K : Kt) : tl K (lX8_nextToken) 50 = o_aload 0 51 := rfl
theorem aX8_nextToken_51 (K : Kt) : tl K (lX8_nextToken) 51 = o_get 8 2 54 := rfl
theorem aX8_nextToken_54 (K : Kt) : tl K (lX8_nextToken) 54 = o_icmp_lt 65 57 := rfl
theorem aX8_nextToken_57 (K : Kt) : tl K (lX8_nextToken) 57 = o_aload 0 58 := rfl
theorem aX8_nextToken_58 (K : Kt) : tl K (lX8_nextToken) 58 = o_pushI (nI 0) 59 := rfl
theorem aX8_nextToken_59 (K : Kt) : tl K (lX8_nextToken) 59 = o_putI 8 4 62 := rfl
theorem aX8_nextToken_62 (K : Kt) : tl K (lX8_nextToken) 62 = o_goto 142 := rfl
theorem aX8_nextToken_65 (K : Kt) : tl K (lX8_nextToken) 65 = o_aload 0 66 := rfl
theorem aX8_nextToken_66 (K : Kt) : tl K (lX8_nextToken) 66 = o_get 8 0 69 := rfl
theorem aX8_nextToken_69 (K : Kt) : tl K (lX8_nextToken) 69 = o_aload 0 70 := rfl
theorem aX8_nextToken_70 (K : Kt) : tl K (lX8_nextToken) 70 = o_get 8 3 73 := rfl
theorem aX8_nextToken_73 (K : Kt) : tl K (lX8_nextToken) 73 = o_bald 74 := rfl
theorem aX8_nextToken_74 (K : Kt) : tl K (lX8_nextToken) 74 = o_callS fX8_isLetter 1 77 := rfl
theorem aX8_nextToken_77 (K : Kt) : tl K (lX8_nextToken) 77 = o_if_eq 87 80 := rfl
theorem aX8_nextToken_80 (K : Kt) : tl K (lX8_nextToken) 80 = o_aload 0 81 := rfl
theorem aX8_nextToken_81 (K : Kt) : tl K (lX8_nextToken) 81 = o_callV fX8_scanWord 0 8 84 := rfl
theorem aX8_nextToken_84 (K : Kt) : tl K (lX8_nextToken) 84 = o_goto 142 := rfl
theorem aX8_nextToken_87 (K : Kt) : tl K (lX8_nextToken) 87 = o_aload 0 88 := rfl
theorem aX8_nextToken_88 (K : Kt) : tl K (lX8_nextToken) 88 = o_get 8 0 91 := rfl
theorem aX8_nextToken_91 (K : Kt) : tl K (lX8_nextToken) 91 = o_aload 0 92 := rfl
theorem aX8_nextToken_92 (K : Kt) : tl K (lX8_nextToken) 92 = o_get 8 3 95 := rfl
theorem aX8_nextToken_95 (K : Kt) : tl K (lX8_nextToken) 95 = o_bald 96 := rfl
theorem aX8_nextToken_96 (K : Kt) : tl K (lX8_nextToken) 96 = o_callS fX8_isDigit 1 99 := rfl
theorem aX8_nextToken_99 (K : Kt) : tl K (lX8_nextToken) 99 = o_if_eq 109 102 := rfl
theorem aX8_nextToken_102 (K : Kt) : tl K (lX8_nextToken) 102 = o_aload 0 103 := rfl
theorem aX8_nextToken_103 (K : Kt) : tl K (lX8_nextToken) 103 = o_callV fX8_scanWhole 0 8 106 := rfl
theorem aX8_nextToken_106 (K : Kt) : tl K (lX8_nextToken) 106 = o_goto 142 := rfl
theorem aX8_nextToken_109 (K : Kt) : tl K (lX8_nextToken) 109 = o_aload 0 110 := rfl
theorem aX8_nextToken_110 (K : Kt) : tl K (lX8_nextToken) 110 = o_aload 0 111 := rfl
theorem aX8_nextToken_111 (K : Kt) : tl K (lX8_nextToken) 111 = o_get 8 0 114 := rfl
theorem aX8_nextToken_114 (K : Kt) : tl K (lX8_nextToken) 114 = o_aload 0 115 := rfl
theorem aX8_nextToken_115 (K : Kt) : tl K (lX8_nextToken) 115 = o_get 8 3 118 := rfl
theorem aX8_nextToken_118 (K : Kt) : tl K (lX8_nextToken) 118 = o_bald 119 := rfl
theorem aX8_nextToken_119 (K : Kt) : tl K (lX8_nextToken) 119 = o_pushI (nI 59) 121 := rfl
theorem aX8_nextToken_121 (K : Kt) : tl K (lX8_nextToken) 121 = o_icmp_ne 128 124 := rfl
theorem aX8_nextToken_124 (K : Kt) : tl K (lX8_nextToken) 124 = o_pushI (nI 3) 125 := rfl
set_option maxRecDepth 8000 in
theorem aX8_nextToken_125 (K : Kt) : tl K (lX8_nextToken) 125 = o_goto 129 := rfl
set_option maxRecDepth 8000 in
theorem aX8_nextToken_128 (K : Kt) : tl K (lX8_nextToken) 128 = o_pushI (nI 4) 129 := rfl
set_option maxRecDepth 8000 in
theorem aX8_nextToken_129 (K : Kt) : tl K (lX8_nextToken) 129 = o_putI 8 4 132 := rfl
set_option maxRecDepth 8000 in
theorem aX8_nextToken_132 (K : Kt) : tl K (lX8_nextToken) 132 = o_aload 0 133 := rfl
set_option maxRecDepth 8000 in
theorem aX8_nextToken_133 (K : Kt) : tl K (lX8_nextToken) 133 = o_dup 134 := rfl
set_option maxRecDepth 8000 in
theorem aX8_nextToken_134 (K : Kt) : tl K (lX8_nextToken) 134 = o_get 8 3 137 := rfl
set_option maxRecDepth 8000 in
theorem aX8_nextToken_137 (K : Kt) : tl K (lX8_nextToken) 137 = o_pushI (nI 1) 138 := rfl
set_option maxRecDepth 8000 in
theorem aX8_nextToken_138 (K : Kt) : tl K (lX8_nextToken) 138 = o_iadd 139 := rfl
set_option maxRecDepth 8000 in
theorem aX8_nextToken_139 (K : Kt) : tl K (lX8_nextToken) 139 = o_putI 8 3 142 := rfl
set_option maxRecDepth 8000 in
theorem aX8_nextToken_142 (K : Kt) : tl K (lX8_nextToken) 142 = o_vret K := rfl
theorem eX8_isWord {As L : List Value} {w : Wd} {K : Kt} (hw : wds As ≤ 3) (hL : ent 3 As = L) (h : RR (tl K lX8_isWord) 0 L [] w) : fX8_isWord As w K := ⟨hw, by rw [hL]; exact h⟩
theorem nX8_isWord : MonoF fX8_isWord := mono_f 3 lX8_isWord
theorem aX8_isWord_0 (K : Kt) : tl K (lX8_isWord) 0 = o_aload 0 1 := rfl
theorem aX8_isWord_1 (K : Kt) : tl K (lX8_isWord) 1 = o_get 8 4 4 := rfl
theorem aX8_isWord_4 (K : Kt) : tl K (lX8_isWord) 4 = o_pushI (nI 1) 5 := rfl
theorem aX8_isWord_5 (K : Kt) : tl K (lX8_isWord) 5 = o_icmp_ne 24 8 := rfl
theorem aX8_isWord_8 (K : Kt) : tl K (lX8_isWord) 8 = o_aload 0 9 := rfl
theorem aX8_isWord_9 (K : Kt) : tl K (lX8_isWord) 9 = o_get 8 3 12 := rfl
theorem aX8_isWord_12 (K : Kt) : tl K (lX8_isWord) 12 = o_aload 0 13 := rfl
theorem aX8_isWord_13 (K : Kt) : tl K (lX8_isWord) 13 = o_get 8 5 16 := rfl
theorem aX8_isWord_16 (K : Kt) : tl K (lX8_isWord) 16 = o_isub 17 := rfl
theorem aX8_isWord_17 (K : Kt) : tl K (lX8_isWord) 17 = o_aload 1 18 := rfl
theorem aX8_isWord_18 (K : Kt) : tl K (lX8_isWord) 18 = o_callT fJ0_length_8abf5 0 21 := rfl
theorem aX8_isWord_21 (K : Kt) : tl K (lX8_isWord) 21 = o_icmp_eq 26 24 := rfl
theorem aX8_isWord_24 (K : Kt) : tl K (lX8_isWord) 24 = o_pushI (nI 0) 25 := rfl
theorem aX8_isWord_25 (K : Kt) : tl K (lX8_isWord) 25 = o_zret K := rfl
theorem aX8_isWord_26 (K : Kt) : tl K (lX8_isWord) 26 = o_pushI (nI 0) 27 := rfl
theorem aX8_isWord_27 (K : Kt) : tl K (lX8_isWord) 27 = o_istore 2 28 := rfl
theorem aX8_isWord_28 (K : Kt) : tl K (lX8_isWord) 28 = o_aload 0 29 := rfl
theorem aX8_isWord_29 (K : Kt) : tl K (lX8_isWord) 29 = o_get 8 5 32 := rfl
theorem aX8_isWord_32 (K : Kt) : tl K (lX8_isWord) 32 = o_iload 2 33 := rfl
theorem aX8_isWord_33 (K : Kt) : tl K (lX8_isWord) 33 = o_iadd 34 := rfl
theorem aX8_isWord_34 (K : Kt) : tl K (lX8_isWord) 34 = o_aload 0 35 := rfl
theorem aX8_isWord_35 (K : Kt) : tl K (lX8_isWord) 35 = o_get 8 3 38 := rfl
theorem aX8_isWord_38 (K : Kt) : tl K (lX8_isWord) 38 = o_icmp_ge 68 41 := rfl
theorem aX8_isWord_41 (K : Kt) : tl K (lX8_isWord) 41 = o_aload 0 42 := rfl
theorem aX8_isWord_42 (K : Kt) : tl K (lX8_isWord) 42 = o_get 8 0 45 := rfl
theorem aX8_isWord_45 (K : Kt) : tl K (lX8_isWord) 45 = o_aload 0 46 := rfl
theorem aX8_isWord_46 (K : Kt) : tl K (lX8_isWord) 46 = o_get 8 5 49 := rfl
theorem aX8_isWord_49 (K : Kt) : tl K (lX8_isWord) 49 = o_iload 2 50 := rfl
theorem aX8_isWord_50 (K : Kt) : tl K (lX8_isWord) 50 = o_iadd 51 := rfl
theorem aX8_isWord_51 (K : Kt) : tl K (lX8_isWord) 51 = o_bald 52 := rfl
theorem aX8_isWord_52 (K : Kt) : tl K (lX8_isWord) 52 = o_aload 1 53 := rfl
theorem aX8_isWord_53 (K : Kt) : tl K (lX8_isWord) 53 = o_iload 2 54 := rfl
theorem aX8_isWord_54 (K : Kt) : tl K (lX8_isWord) 54 = o_callT fJ0_charAt_5068e 1 57 := rfl
theorem aX8_isWord_57 (K : Kt) : tl K (lX8_isWord) 57 = o_icmp_eq 62 60 := rfl
theorem aX8_isWord_60 (K : Kt) : tl K (lX8_isWord) 60 = o_pushI (nI 0) 61 := rfl
theorem aX8_isWord_61 (K : Kt) : tl K (lX8_isWord) 61 = o_zret K := rfl
theorem aX8_isWord_62 (K : Kt) : tl K (lX8_isWord) 62 = o_iinc 2 (nI 1) 65 := rfl
theorem aX8_isWord_65 (K : Kt) : tl K (lX8_isWord) 65 = o_goto 28 := rfl
theorem aX8_isWord_68 (K : Kt) : tl K (lX8_isWord) 68 = o_pushI (nI 1) 69 := rfl
theorem aX8_isWord_69 (K : Kt) : tl K (lX8_isWord) 69 = o_zret K := rfl
theorem eX6_fail {As L : List Value} {w : Wd} {K : Kt} (hw : wds As ≤ 2) (hL : ent 2 As = L) (h : RR (tl K lX6_fail) 0 L [] w) : fX6_fail As w K := ⟨hw, by rw [hL]; exact h⟩
theorem nX6_fail : MonoF fX6_fail := mono_f 2 lX6_fail
theorem aX6_fail_0 (K : Kt) : tl K (lX6_fail) 0 = o_aload 0 1 := rfl
theorem aX6_fail_1 (K : Kt) : tl K (lX6_fail) 1 = o_iload 1 2 := rfl
theorem aX6_fail_2 (K : Kt) : tl K (lX6_fail) 2 = o_putI 6 3 5 := rfl
theorem aX6_fail_5 (K : Kt) : tl K (lX6_fail) 5 = o_aload 0 6 := rfl
theorem aX6_fail_6 (K : Kt) : tl K (lX6_fail) 6 = o_aload 0 7 := rfl
theorem aX6_fail_7 (K : Kt) : tl K (lX6_fail) 7 = o_get 6 0 10 := rfl
theorem aX6_fail_10 (K : Kt) : tl K (lX6_fail) 10 = o_get 8 5 13 := rfl
theorem aX6_fail_13 (K : Kt) : tl K (lX6_fail) 13 = o_putI 6 4 16 := rfl
theorem aX6_fail_16 (K : Kt) : tl K (lX6_fail) 16 = o_pushI (nI 0) 17 := rfl
theorem aX6_fail_17 (K : Kt) : tl K (lX6_fail) 17 = o_zret K := rfl
theorem eX6_isReserved {As L : List Value} {w : Wd} {K : Kt} (hw : wds As ≤ 1) (hL : ent 1 As = L) (h : RR (tl K lX6_isReserved) 0 L [] w) : fX6_isReserved As w K := ⟨hw, by rw [hL]; exact h⟩
theorem nX6_isReserved : MonoF fX6_isReserved := mono_f 1 lX6_isReserved
theorem aX6_isReserved_0 (K : Kt) : tl K (lX6_isReserved) 0 = o_aload 0 1 := rfl
theorem aX6_isReserved_1 (K : Kt) : tl K (lX6_isReserved) 1 = o_get 6 0 4 := rfl
theorem aX6_isReserved_4 (K : Kt) : tl K (lX6_isReserved) 4 = o_pushR 200 6 := rfl
theorem aX6_isReserved_6 (K : Kt) : tl K (lX6_isReserved) 6 = o_callV fX8_isWord 1 8 9 := rfl
theorem aX6_isReserved_9 (K : Kt) : tl K (lX6_isReserved) 9 = o_if_ne 96 12 := rfl
theorem aX6_isReserved_12 (K : Kt) : tl K (lX6_isReserved) 12 = o_aload 0 13 := rfl
theorem aX6_isReserved_13 (K : Kt) : tl K (lX6_isReserved) 13 = o_get 6 0 16 := rfl
theorem aX6_isReserved_16 (K : Kt) : tl K (lX6_isReserved) 16 = o_pushR 201 18 := rfl
theorem aX6_isReserved_18 (K : Kt) : tl K (lX6_isReserved) 18 = o_callV fX8_isWord 1 8 21 := rfl
theorem aX6_isReserved_21 (K : Kt) : tl K (lX6_isReserved) 21 = o_if_ne 96 24 := rfl
theorem aX6_isReserved_24 (K : Kt) : tl K (lX6_isReserved) 24 = o_aload 0 25 := rfl
theorem aX6_isReserved_25 (K : Kt) : tl K (lX6_isReserved) 25 = o_get 6 0 28 := rfl
theorem aX6_isReserved_28 (K : Kt) : tl K (lX6_isReserved) 28 = o_pushR 202 30 := rfl
theorem aX6_isReserved_30 (K : Kt) : tl K (lX6_isReserved) 30 = o_callV fX8_isWord 1 8 33 := rfl
theorem aX6_isReserved_33 (K : Kt) : tl K (lX6_isReserved) 33 = o_if_ne 96 36 := rfl
theorem aX6_isReserved_36 (K : Kt) : tl K (lX6_isReserved) 36 = o_aload 0 37 := rfl
theorem aX6_isReserved_37 (K : Kt) : tl K (lX6_isReserved) 37 = o_get 6 0 40 := rfl
theorem aX6_isReserved_40 (K : Kt) : tl K (lX6_isReserved) 40 = o_pushR 203 42 := rfl
theorem aX6_isReserved_42 (K : Kt) : tl K (lX6_isReserved) 42 = o_callV fX8_isWord 1 8 45 := rfl
theorem aX6_isReserved_45 (K : Kt) : tl K (lX6_isReserved) 45 = o_if_ne 96 48 := rfl
theorem aX6_isReserved_48 (K : Kt) : tl K (lX6_isReserved) 48 = o_aload 0 49 := rfl
theorem aX6_isReserved_49 (K : Kt) : tl K (lX6_isReserved) 49 = o_get 6 0 52 := rfl
theorem aX6_isReserved_52 (K : Kt) : tl K (lX6_isReserved) 52 = o_pushR 204 54 := rfl
theorem aX6_isReserved_54 (K : Kt) : tl K (lX6_isReserved) 54 = o_callV fX8_isWord 1 8 57 := rfl
theorem aX6_isReserved_57 (K : Kt) : tl K (lX6_isReserved) 57 = o_if_ne 96 60 := rfl
theorem aX6_isReserved_60 (K : Kt) : tl K (lX6_isReserved) 60 = o_aload 0 61 := rfl
theorem aX6_isReserved_61 (K : Kt) : tl K (lX6_isReserved) 61 = o_get 6 0 64 := rfl
theorem aX6_isReserved_64 (K : Kt) : tl K (lX6_isReserved) 64 = o_pushR 205 66 := rfl
theorem aX6_isReserved_66 (K : Kt) : tl K (lX6_isReserved) 66 = o_callV fX8_isWord 1 8 69 := rfl
theorem aX6_isReserved_69 (K : Kt) : tl K (lX6_isReserved) 69 = o_if_ne 96 72 := rfl
theorem aX6_isReserved_72 (K : Kt) : tl K (lX6_isReserved) 72 = o_aload 0 73 := rfl
theorem aX6_isReserved_73 (K : Kt) : tl K (lX6_isReserved) 73 = o_get 6 0 76 := rfl
theorem aX6_isReserved_76 (K : Kt) : tl K (lX6_isReserved) 76 = o_pushR 206 78 := rfl
theorem aX6_isReserved_78 (K : Kt) : tl K (lX6_isReserved) 78 = o_callV fX8_isWord 1 8 81 := rfl
theorem aX6_isReserved_81 (K : Kt) : tl K (lX6_isReserved) 81 = o_if_ne 96 84 := rfl
theorem aX6_isReserved_84 (K : Kt) : tl K (lX6_isReserved) 84 = o_aload 0 85 := rfl
theorem aX6_isReserved_85 (K : Kt) : tl K (lX6_isReserved) 85 = o_get 6 0 88 := rfl
theorem aX6_isReserved_88 (K : Kt) : tl K (lX6_isReserved) 88 = o_pushR 207 90 := rfl
theorem aX6_isReserved_90 (K : Kt) : tl K (lX6_isReserved) 90 = o_callV fX8_isWord 1 8 93 := rfl
theorem aX6_isReserved_93 (K : Kt) : tl K (lX6_isReserved) 93 = o_if_eq 100 96 := rfl
theorem aX6_isReserved_96 (K : Kt) : tl K (lX6_isReserved) 96 = o_pushI (nI 1) 97 := rfl
theorem aX6_isReserved_97 (K : Kt) : tl K (lX6_isReserved) 97 = o_goto 101 := rfl
theorem aX6_isReserved_100 (K : Kt) : tl K (lX6_isReserved) 100 = o_pushI (nI 0) 101 := rfl
theorem aX6_isReserved_101 (K : Kt) : tl K (lX6_isReserved) 101 = o_zret K := rfl
theorem eX9_armNamed {As L : List Value} {w : Wd} {K : Kt} (hw : wds As ≤ 4) (hL : ent 4 As = L) (h : RR (tl K lX9_armNamed) 0 L [] w) : fX9_armNamed As w K := ⟨hw, by rw [hL]; exact h⟩
theorem nX9_armNamed : MonoF fX9_armNamed := mono_f 4 lX9_armNamed
theorem aX9_armNamed_0 (K : Kt) : tl K (lX9_armNamed) 0 = o_pushI (nI 0) 1 := rfl
theorem aX9_armNamed_1 (K : Kt) : tl K (lX9_armNamed) 1 = o_istore 3 2 := rfl
theorem aX9_armNamed_2 (K : Kt) : tl K (lX9_armNamed) 2 = o_iload 3 3 := rfl
theorem aX9_armNamed_3 (K : Kt) : tl K (lX9_armNamed) 3 = o_aload 0 4 := rfl
theorem aX9_armNamed_4 (K : Kt) : tl K (lX9_armNamed) 4 = o_get 9 0 7 := rfl
theorem aX9_armNamed_7 (K : Kt) : tl K (lX9_armNamed) 7 = o_icmp_ge 29 10 := rfl
theorem aX9_armNamed_10 (K : Kt) : tl K (lX9_armNamed) 10 = o_aload 0 11 := rfl
theorem aX9_armNamed_11 (K : Kt) : tl K (lX9_armNamed) 11 = o_get 9 1 14 := rfl
theorem aX9_armNamed_14 (K : Kt) : tl K (lX9_armNamed) 14 = o_iload 3 15 := rfl
theorem aX9_armNamed_15 (K : Kt) : tl K (lX9_armNamed) 15 = o_lald 16 := rfl
theorem aX9_armNamed_16 (K : Kt) : tl K (lX9_armNamed) 16 = o_lload 1 17 := rfl
theorem aX9_armNamed_17 (K : Kt) : tl K (lX9_armNamed) 17 = o_lcmp 18 := rfl
theorem aX9_armNamed_18 (K : Kt) : tl K (lX9_armNamed) 18 = o_if_ne 23 21 := rfl
theorem aX9_armNamed_21 (K : Kt) : tl K (lX9_armNamed) 21 = o_iload 3 22 := rfl
theorem aX9_armNamed_22 (K : Kt) : tl K (lX9_armNamed) 22 = o_iret K := rfl
theorem aX9_armNamed_23 (K : Kt) : tl K (lX9_armNamed) 23 = o_iinc 3 (nI 1) 26 := rfl
theorem aX9_armNamed_26 (K : Kt) : tl K (lX9_armNamed) 26 = o_goto 2 := rfl
theorem aX9_armNamed_29 (K : Kt) : tl K (lX9_armNamed) 29 = o_pushI ((-1)) 30 := rfl
theorem aX9_armNamed_30 (K : Kt) : tl K (lX9_armNamed) 30 = o_iret K := rfl
theorem eX6_readName {As L : List Value} {w : Wd} {K : Kt} (hw : wds As ≤ 2) (hL : ent 2 As = L) (h : RR (tl K lX6_readName) 0 L [] w) : fX6_readName As w K := ⟨hw, by rw [hL]; exact h⟩
theorem nX6_readName : MonoF fX6_readName := mono_f 2 lX6_readName
theorem aX6_readName_0 (K : Kt) : tl K (lX6_readName) 0 = o_aload 0 1 := rfl
theorem aX6_readName_1 (K : Kt) : tl K (lX6_readName) 1 = o_get 6 0 4 := rfl
theorem aX6_readName_4 (K : Kt) : tl K (lX6_readName) 4 = o_callV fX8_nextToken 0 8 7 := rfl
theorem aX6_readName_7 (K : Kt) : tl K (lX6_readName) 7 = o_aload 0 8 := rfl
theorem aX6_readName_8 (K : Kt) : tl K (lX6_readName) 8 = o_get 6 0 11 := rfl
theorem aX6_readName_11 (K : Kt) : tl K (lX6_readName) 11 = o_get 8 4 14 := rfl
theorem aX6_readName_14 (K : Kt) : tl K (lX6_readName) 14 = o_pushI (nI 1) 15 := rfl
theorem aX6_readName_15 (K : Kt) : tl K (lX6_readName) 15 = o_icmp_ne 25 18 := rfl
theorem aX6_readName_18 (K : Kt) : tl K (lX6_readName) 18 = o_aload 0 19 := rfl
theorem aX6_readName_19 (K : Kt) : tl K (lX6_readName) 19 = o_callV fX6_isReserved 0 6 22 := rfl
theorem aX6_readName_22 (K : Kt) : tl K (lX6_readName) 22 = o_if_eq 31 25 := rfl
theorem aX6_readName_25 (K : Kt) : tl K (lX6_readName) 25 = o_aload 0 26 := rfl
theorem aX6_readName_26 (K : Kt) : tl K (lX6_readName) 26 = o_pushI (nI 1) 27 := rfl
theorem aX6_readName_27 (K : Kt) : tl K (lX6_readName) 27 = o_callV fX6_fail 1 6 30 := rfl
theorem aX6_readName_30 (K : Kt) : tl K (lX6_readName) 30 = o_zret K := rfl
theorem aX6_readName_31 (K : Kt) : tl K (lX6_readName) 31 = o_aload 0 32 := rfl
theorem aX6_readName_32 (K : Kt) : tl K (lX6_readName) 32 = o_get 6 2 35 := rfl
theorem aX6_readName_35 (K : Kt) : tl K (lX6_readName) 35 = o_aload 0 36 := rfl
theorem aX6_readName_36 (K : Kt) : tl K (lX6_readName) 36 = o_get 6 0 39 := rfl
theorem aX6_readName_39 (K : Kt) : tl K (lX6_readName) 39 = o_get 8 7 42 := rfl
theorem aX6_readName_42 (K : Kt) : tl K (lX6_readName) 42 = o_callV fX9_armNamed 1 9 45 := rfl
theorem aX6_readName_45 (K : Kt) : tl K (lX6_readName) 45 = o_pushI ((-1)) 46 := rfl
theorem aX6_readName_46 (K : Kt) : tl K (lX6_readName) 46 = o_icmp_eq 55 49 := rfl
theorem aX6_readName_49 (K : Kt) : tl K (lX6_readName) 49 = o_aload 0 50 := rfl
theorem aX6_readName_50 (K : Kt) : tl K (lX6_readName) 50 = o_pushI (nI 3) 51 := rfl
theorem aX6_readName_51 (K : Kt) : tl K (lX6_readName) 51 = o_callV fX6_fail 1 6 54 := rfl
theorem aX6_readName_54 (K : Kt) : tl K (lX6_readName) 54 = o_zret K := rfl
theorem aX6_readName_55 (K : Kt) : tl K (lX6_readName) 55 = o_aload 0 56 := rfl
theorem aX6_readName_56 (K : Kt) : tl K (lX6_readName) 56 = o_get 6 2 59 := rfl
theorem aX6_readName_59 (K : Kt) : tl K (lX6_readName) 59 = o_get 9 1 62 := rfl
theorem aX6_readName_62 (K : Kt) : tl K (lX6_readName) 62 = o_iload 1 63 := rfl
theorem aX6_readName_63 (K : Kt) : tl K (lX6_readName) 63 = o_aload 0 64 := rfl
theorem aX6_readName_64 (K : Kt) : tl K (lX6_readName) 64 = o_get 6 0 67 := rfl
theorem aX6_readName_67 (K : Kt) : tl K (lX6_readName) 67 = o_get 8 7 70 := rfl
theorem aX6_readName_70 (K : Kt) : tl K (lX6_readName) 70 = o_last 71 := rfl
theorem aX6_readName_71 (K : Kt) : tl K (lX6_readName) 71 = o_pushI (nI 1) 72 := rfl
theorem aX6_readName_72 (K : Kt) : tl K (lX6_readName) 72 = o_zret K := rfl
theorem eX6_readHand {As L : List Value} {w : Wd} {K : Kt} (hw : wds As ≤ 3) (hL : ent 3 As = L) (h : RR (tl K lX6_readHand) 0 L [] w) : fX6_readHand As w K := ⟨hw, by rw [hL]; exact h⟩
theorem nX6_readHand : MonoF fX6_readHand := mono_f 3 lX6_readHand
theorem aX6_readHand_0 (K : Kt) : tl K (lX6_readHand) 0 = o_aload 0 1 := rfl
theorem aX6_readHand_1 (K : Kt) : tl K (lX6_readHand) 1 = o_get 6 0 4 := rfl
theorem aX6_readHand_4 (K : Kt) : tl K (lX6_readHand) 4 = o_callV fX8_nextToken 0 8 7 := rfl
theorem aX6_readHand_7 (K : Kt) : tl K (lX6_readHand) 7 = o_aload 0 8 := rfl
theorem aX6_readHand_8 (K : Kt) : tl K (lX6_readHand) 8 = o_get 6 0 11 := rfl
theorem aX6_readHand_11 (K : Kt) : tl K (lX6_readHand) 11 = o_pushR 202 13 := rfl
theorem aX6_readHand_13 (K : Kt) : tl K (lX6_readHand) 13 = o_callV fX8_isWord 1 8 16 := rfl
theorem aX6_readHand_16 (K : Kt) : tl K (lX6_readHand) 16 = o_istore 2 17 := rfl
theorem aX6_readHand_17 (K : Kt) : tl K (lX6_readHand) 17 = o_iload 2 18 := rfl
theorem aX6_readHand_18 (K : Kt) : tl K (lX6_readHand) 18 = o_if_ne 39 21 := rfl
theorem aX6_readHand_21 (K : Kt) : tl K (lX6_readHand) 21 = o_aload 0 22 := rfl
theorem aX6_readHand_22 (K : Kt) : tl K (lX6_readHand) 22 = o_get 6 0 25 := rfl
theorem aX6_readHand_25 (K : Kt) : tl K (lX6_readHand) 25 = o_pushR 201 27 := rfl
theorem aX6_readHand_27 (K : Kt) : tl K (lX6_readHand) 27 = o_callV fX8_isWord 1 8 30 := rfl
theorem aX6_readHand_30 (K : Kt) : tl K (lX6_readHand) 30 = o_if_ne 39 33 := rfl
theorem aX6_readHand_33 (K : Kt) : tl K (lX6_readHand) 33 = o_aload 0 34 := rfl
theorem aX6_readHand_34 (K : Kt) : tl K (lX6_readHand) 34 = o_pushI (nI 1) 35 := rfl
theorem aX6_readHand_35 (K : Kt) : tl K (lX6_readHand) 35 = o_callV fX6_fail 1 6 38 := rfl
theorem aX6_readHand_38 (K : Kt) : tl K (lX6_readHand) 38 = o_zret K := rfl
theorem aX6_readHand_39 (K : Kt) : tl K (lX6_readHand) 39 = o_aload 0 40 := rfl
theorem aX6_readHand_40 (K : Kt) : tl K (lX6_readHand) 40 = o_get 6 2 43 := rfl
theorem aX6_readHand_43 (K : Kt) : tl K (lX6_readHand) 43 = o_get 9 2 46 := rfl
theorem aX6_readHand_46 (K : Kt) : tl K (lX6_readHand) 46 = o_iload 1 47 := rfl
theorem aX6_readHand_47 (K : Kt) : tl K (lX6_readHand) 47 = o_iload 2 48 := rfl
theorem aX6_readHand_48 (K : Kt) : tl K (lX6_readHand) 48 = o_if_eq 55 51 := rfl
theorem aX6_readHand_51 (K : Kt) : tl K (lX6_readHand) 51 = o_pushI (nI 1) 52 := rfl
theorem aX6_readHand_52 (K : Kt) : tl K (lX6_readHand) 52 = o_goto 56 := rfl
theorem aX6_readHand_55 (K : Kt) : tl K (lX6_readHand) 55 = o_pushI (nI 0) 56 := rfl
theorem aX6_readHand_56 (K : Kt) : tl K (lX6_readHand) 56 = o_iast 57 := rfl
theorem aX6_readHand_57 (K : Kt) : tl K (lX6_readHand) 57 = o_pushI (nI 1) 58 := rfl
theorem aX6_readHand_58 (K : Kt) : tl K (lX6_readHand) 58 = o_zret K := rfl
theorem eX9_highestTrait {As L : List Value} {w : Wd} {K : Kt} (hw : wds As ≤ 3) (hL : ent 3 As = L) (h : RR (tl K lX9_highestTrait) 0 L [] w) : fX9_highestTrait As w K := ⟨hw, by rw [hL]; exact h⟩
theorem nX9_highestTrait : MonoF fX9_highestTrait := mono_f 3 lX9_highestTrait
theorem aX9_highestTrait_0 (K : Kt) : tl K (lX9_highestTrait) 0 = o_iload 2 1 := rfl
theorem aX9_highestTrait_1 (K : Kt) : tl K (lX9_highestTrait) 1 = o_pushI (nI 2) 2 := rfl
theorem aX9_highestTrait_2 (K : Kt) : tl K (lX9_highestTrait) 2 = o_icmp_ne 14 5 := rfl
theorem aX9_highestTrait_5 (K : Kt) : tl K (lX9_highestTrait) 5 = o_aload 0 6 := rfl
theorem aX9_highestTrait_6 (K : Kt) : tl K (lX9_highestTrait) 6 = o_iload 1 7 := rfl
theorem aX9_highestTrait_7 (K : Kt) : tl K (lX9_highestTrait) 7 = o_pushI (nI 1) 8 := rfl
theorem aX9_highestTrait_8 (K : Kt) : tl K (lX9_highestTrait) 8 = o_callV fX9_trait 2 9 11 := rfl
theorem aX9_highestTrait_11 (K : Kt) : tl K (lX9_highestTrait) 11 = o_goto 19 := rfl
theorem aX9_highestTrait_14 (K : Kt) : tl K (lX9_highestTrait) 14 = o_pushR 101 17 := rfl
theorem aX9_highestTrait_17 (K : Kt) : tl K (lX9_highestTrait) 17 = o_iload 2 18 := rfl
theorem aX9_highestTrait_18 (K : Kt) : tl K (lX9_highestTrait) 18 = o_iaro 19 := rfl
theorem aX9_highestTrait_19 (K : Kt) : tl K (lX9_highestTrait) 19 = o_iret K := rfl
theorem eX6_readWhole {As L : List Value} {w : Wd} {K : Kt} (hw : wds As ≤ 3) (hL : ent 3 As = L) (h : RR (tl K lX6_readWhole) 0 L [] w) : fX6_readWhole As w K := ⟨hw, by rw [hL]; exact h⟩
theorem nX6_readWhole : MonoF fX6_readWhole := mono_f 3 lX6_readWhole
theorem aX6_readWhole_0 (K : Kt) : tl K (lX6_readWhole) 0 = o_aload 0 1 := rfl
theorem aX6_readWhole_1 (K : Kt) : tl K (lX6_readWhole) 1 = o_get 6 0 4 := rfl
theorem aX6_readWhole_4 (K : Kt) : tl K (lX6_readWhole) 4 = o_callV fX8_nextToken 0 8 7 := rfl
theorem aX6_readWhole_7 (K : Kt) : tl K (lX6_readWhole) 7 = o_aload 0 8 := rfl
theorem aX6_readWhole_8 (K : Kt) : tl K (lX6_readWhole) 8 = o_get 6 0 11 := rfl
theorem aX6_readWhole_11 (K : Kt) : tl K (lX6_readWhole) 11 = o_get 8 4 14 := rfl
theorem aX6_readWhole_14 (K : Kt) : tl K (lX6_readWhole) 14 = o_pushI (nI 2) 15 := rfl
theorem aX6_readWhole_15 (K : Kt) : tl K (lX6_readWhole) 15 = o_icmp_eq 24 18 := rfl
theorem aX6_readWhole_18 (K : Kt) : tl K (lX6_readWhole) 18 = o_aload 0 19 := rfl
theorem aX6_readWhole_19 (K : Kt) : tl K (lX6_readWhole) 19 = o_pushI (nI 1) 20 := rfl
theorem aX6_readWhole_20 (K : Kt) : tl K (lX6_readWhole) 20 = o_callV fX6_fail 1 6 23 := rfl
theorem aX6_readWhole_23 (K : Kt) : tl K (lX6_readWhole) 23 = o_zret K := rfl
theorem aX6_readWhole_24 (K : Kt) : tl K (lX6_readWhole) 24 = o_aload 0 25 := rfl
theorem aX6_readWhole_25 (K : Kt) : tl K (lX6_readWhole) 25 = o_get 6 0 28 := rfl
theorem aX6_readWhole_28 (K : Kt) : tl K (lX6_readWhole) 28 = o_get 8 6 31 := rfl
theorem aX6_readWhole_31 (K : Kt) : tl K (lX6_readWhole) 31 = o_iload 1 32 := rfl
theorem aX6_readWhole_32 (K : Kt) : tl K (lX6_readWhole) 32 = o_iload 2 33 := rfl
theorem aX6_readWhole_33 (K : Kt) : tl K (lX6_readWhole) 33 = o_callS fX10_within 3 36 := rfl
theorem aX6_readWhole_36 (K : Kt) : tl K (lX6_readWhole) 36 = o_if_ne 47 39 := rfl
theorem aX6_readWhole_39 (K : Kt) : tl K (lX6_readWhole) 39 = o_aload 0 40 := rfl
theorem aX6_readWhole_40 (K : Kt) : tl K (lX6_readWhole) 40 = o_pushI (nI 2) 41 := rfl
theorem aX6_readWhole_41 (K : Kt) : tl K (lX6_readWhole) 41 = o_callV fX6_fail 1 6 44 := rfl
theorem aX6_readWhole_44 (K : Kt) : tl K (lX6_readWhole) 44 = o_if_eq 51 47 := rfl
theorem aX6_readWhole_47 (K : Kt) : tl K (lX6_readWhole) 47 = o_pushI (nI 1) 48 := rfl
theorem aX6_readWhole_48 (K : Kt) : tl K (lX6_readWhole) 48 = o_goto 52 := rfl
theorem aX6_readWhole_51 (K : Kt) : tl K (lX6_readWhole) 51 = o_pushI (nI 0) 52 := rfl
theorem aX6_readWhole_52 (K : Kt) : tl K (lX6_readWhole) 52 = o_zret K := rfl
theorem eX9_setTrait {As L : List Value} {w : Wd} {K : Kt} (hw : wds As ≤ 4) (hL : ent 4 As = L) (h : RR (tl K lX9_setTrait) 0 L [] w) : fX9_setTrait As w K := ⟨hw, by rw [hL]; exact h⟩
theorem nX9_setTrait : MonoF fX9_setTrait := mono_f 4 lX9_setTrait
theorem aX9_setTrait_0 (K : Kt) : tl K (lX9_setTrait) 0 = o_aload 0 1 := rfl
theorem aX9_setTrait_1 (K : Kt) : tl K (lX9_setTrait) 1 = o_get 9 3 4 := rfl
theorem aX9_setTrait_4 (K : Kt) : tl K (lX9_setTrait) 4 = o_iload 1 5 := rfl
theorem aX9_setTrait_5 (K : Kt) : tl K (lX9_setTrait) 5 = o_pushI (nI 4) 6 := rfl
theorem aX9_setTrait_6 (K : Kt) : tl K (lX9_setTrait) 6 = o_imul 7 := rfl
theorem aX9_setTrait_7 (K : Kt) : tl K (lX9_setTrait) 7 = o_iload 2 8 := rfl
theorem aX9_setTrait_8 (K : Kt) : tl K (lX9_setTrait) 8 = o_iadd 9 := rfl
theorem aX9_setTrait_9 (K : Kt) : tl K (lX9_setTrait) 9 = o_iload 3 10 := rfl
theorem aX9_setTrait_10 (K : Kt) : tl K (lX9_setTrait) 10 = o_iast 11 := rfl
theorem aX9_setTrait_11 (K : Kt) : tl K (lX9_setTrait) 11 = o_vret K := rfl
theorem eX6_readArm {As L : List Value} {w : Wd} {K : Kt} (hw : wds As ≤ 3) (hL : ent 3 As = L) (h : RR (tl K lX6_readArm) 0 L [] w) : fX6_readArm As w K := ⟨hw, by rw [hL]; exact h⟩
theorem nX6_readArm : MonoF fX6_readArm := mono_f 3 lX6_readArm
theorem aX6_readArm_0 (K : Kt) : tl K (lX6_readArm) 0 = o_aload 0 1 := rfl
theorem aX6_readArm_1 (K : Kt) : tl K (lX6_readArm) 1 = o_get 6 2 4 := rfl
theorem aX6_readArm_4 (K : Kt) : tl K (lX6_readArm) 4 = o_get 9 0 7 := rfl
theorem aX6_readArm_7 (K : Kt) : tl K (lX6_readArm) 7 = o_istore 1 8 := rfl
theorem aX6_readArm_8 (K : Kt) : tl K (lX6_readArm) 8 = o_iload 1 9 := rfl
theorem aX6_readArm_9 (K : Kt) : tl K (lX6_readArm) 9 = o_pushI (nI 8) 11 := rfl
theorem aX6_readArm_11 (K : Kt) : tl K (lX6_readArm) 11 = o_icmp_lt 20 14 := rfl
theorem aX6_readArm_14 (K : Kt) : tl K (lX6_readArm) 14 = o_aload 0 15 := rfl
theorem aX6_readArm_15 (K : Kt) : tl K (lX6_readArm) 15 = o_pushI (nI 4) 16 := rfl
theorem aX6_readArm_16 (K : Kt) : tl K (lX6_readArm) 16 = o_callV fX6_fail 1 6 19 := rfl
theorem aX6_readArm_19 (K : Kt) : tl K (lX6_readArm) 19 = o_zret K := rfl
theorem aX6_readArm_20 (K : Kt) : tl K (lX6_readArm) 20 = o_aload 0 21 := rfl
theorem aX6_readArm_21 (K : Kt) : tl K (lX6_readArm) 21 = o_iload 1 22 := rfl
theorem aX6_readArm_22 (K : Kt) : tl K (lX6_readArm) 22 = o_callV fX6_readName 1 6 25 := rfl
theorem aX6_readArm_25 (K : Kt) : tl K (lX6_readArm) 25 = o_if_eq 36 28 := rfl
theorem aX6_readArm_28 (K : Kt) : tl K (lX6_readArm) 28 = o_aload 0 29 := rfl
theorem aX6_readArm_29 (K : Kt) : tl K (lX6_readArm) 29 = o_iload 1 30 := rfl
theorem aX6_readArm_30 (K : Kt) : tl K (lX6_readArm) 30 = o_callV fX6_readHand 1 6 33 := rfl
theorem aX6_readArm_33 (K : Kt) : tl K (lX6_readArm) 33 = o_if_ne 38 36 := rfl
theorem aX6_readArm_36 (K : Kt) : tl K (lX6_readArm) 36 = o_pushI (nI 0) 37 := rfl
theorem aX6_readArm_37 (K : Kt) : tl K (lX6_readArm) 37 = o_zret K := rfl
theorem aX6_readArm_38 (K : Kt) : tl K (lX6_readArm) 38 = o_pushI (nI 0) 39 := rfl
theorem aX6_readArm_39 (K : Kt) : tl K (lX6_readArm) 39 = o_istore 2 40 := rfl
theorem aX6_readArm_40 (K : Kt) : tl K (lX6_readArm) 40 = o_iload 2 41 := rfl
theorem aX6_readArm_41 (K : Kt) : tl K (lX6_readArm) 41 = o_pushI (nI 4) 42 := rfl
theorem aX6_readArm_42 (K : Kt) : tl K (lX6_readArm) 42 = o_icmp_ge 90 45 := rfl
theorem aX6_readArm_45 (K : Kt) : tl K (lX6_readArm) 45 = o_aload 0 46 := rfl
theorem aX6_readArm_46 (K : Kt) : tl K (lX6_readArm) 46 = o_pushR 100 49 := rfl
theorem aX6_readArm_49 (K : Kt) : tl K (lX6_readArm) 49 = o_iload 2 50 := rfl
theorem aX6_readArm_50 (K : Kt) : tl K (lX6_readArm) 50 = o_iaro 51 := rfl
theorem aX6_readArm_51 (K : Kt) : tl K (lX6_readArm) 51 = o_aload 0 52 := rfl
theorem aX6_readArm_52 (K : Kt) : tl K (lX6_readArm) 52 = o_get 6 2 55 := rfl
theorem aX6_readArm_55 (K : Kt) : tl K (lX6_readArm) 55 = o_iload 1 56 := rfl
theorem aX6_readArm_56 (K : Kt) : tl K (lX6_readArm) 56 = o_iload 2 57 := rfl
theorem aX6_readArm_57 (K : Kt) : tl K (lX6_readArm) 57 = o_callV fX9_highestTrait 2 9 60 := rfl
theorem aX6_readArm_60 (K : Kt) : tl K (lX6_readArm) 60 = o_callV fX6_readWhole 2 6 63 := rfl
theorem aX6_readArm_63 (K : Kt) : tl K (lX6_readArm) 63 = o_if_ne 68 66 := rfl
theorem aX6_readArm_66 (K : Kt) : tl K (lX6_readArm) 66 = o_pushI (nI 0) 67 := rfl
theorem aX6_readArm_67 (K : Kt) : tl K (lX6_readArm) 67 = o_zret K := rfl
theorem aX6_readArm_68 (K : Kt) : tl K (lX6_readArm) 68 = o_aload 0 69 := rfl
theorem aX6_readArm_69 (K : Kt) : tl K (lX6_readArm) 69 = o_get 6 2 72 := rfl
theorem aX6_readArm_72 (K : Kt) : tl K (lX6_readArm) 72 = o_iload 1 73 := rfl
theorem aX6_readArm_73 (K : Kt) : tl K (lX6_readArm) 73 = o_iload 2 74 := rfl
theorem aX6_readArm_74 (K : Kt) : tl K (lX6_readArm) 74 = o_aload 0 75 := rfl
theorem aX6_readArm_75 (K : Kt) : tl K (lX6_readArm) 75 = o_get 6 0 78 := rfl
theorem aX6_readArm_78 (K : Kt) : tl K (lX6_readArm) 78 = o_get 8 6 81 := rfl
theorem aX6_readArm_81 (K : Kt) : tl K (lX6_readArm) 81 = o_callV fX9_setTrait 3 9 84 := rfl
theorem aX6_readArm_84 (K : Kt) : tl K (lX6_readArm) 84 = o_iinc 2 (nI 1) 87 := rfl
theorem aX6_readArm_87 (K : Kt) : tl K (lX6_readArm) 87 = o_goto 40 := rfl
theorem aX6_readArm_90 (K : Kt) : tl K (lX6_readArm) 90 = o_aload 0 91 := rfl
theorem aX6_readArm_91 (K : Kt) : tl K (lX6_readArm) 91 = o_get 6 2 94 := rfl
theorem aX6_readArm_94 (K : Kt) : tl K (lX6_readArm) 94 = o_dup 95 := rfl
theorem aX6_readArm_95 (K : Kt) : tl K (lX6_readArm) 95 = o_get 9 0 98 := rfl
theorem aX6_readArm_98 (K : Kt) : tl K (lX6_readArm) 98 = o_pushI (nI 1) 99 := rfl
theorem aX6_readArm_99 (K : Kt) : tl K (lX6_readArm) 99 = o_iadd 100 := rfl
theorem aX6_readArm_100 (K : Kt) : tl K (lX6_readArm) 100 = o_putI 9 0 103 := rfl
theorem aX6_readArm_103 (K : Kt) : tl K (lX6_readArm) 103 = o_pushI (nI 1) 104 := rfl
theorem aX6_readArm_104 (K : Kt) : tl K (lX6_readArm) 104 = o_zret K := rfl
theorem eX6_readGame {As L : List Value} {w : Wd} {K : Kt} (hw : wds As ≤ 5) (hL : ent 5 As = L) (h : RR (tl K lX6_readGame) 0 L [] w) : fX6_readGame As w K := ⟨hw, by rw [hL]; exact h⟩
theorem nX6_readGame : MonoF fX6_readGame := mono_f 5 lX6_readGame
theorem aX6_readGame_0 (K : Kt) : tl K (lX6_readGame) 0 = o_aload 0 1 := rfl
theorem aX6_readGame_1 (K : Kt) : tl K (lX6_readGame) 1 = o_get 6 2 4 := rfl
theorem aX6_readGame_4 (K : Kt) : tl K (lX6_readGame) 4 = o_get 9 4 7 := rfl
theorem aX6_readGame_7 (K : Kt) : tl K (lX6_readGame) 7 = o_istore 1 8 := rfl
theorem aX6_readGame_8 (K : Kt) : tl K (lX6_readGame) 8 = o_iload 1 9 := rfl
theorem aX6_readGame_9 (K : Kt) : tl K (lX6_readGame) 9 = o_pushI (nI 20) 11 := rfl
theorem aX6_readGame_11 (K : Kt) : tl K (lX6_readGame) 11 = o_icmp_lt 20 14 := rfl
theorem aX6_readGame_14 (K : Kt) : tl K (lX6_readGame) 14 = o_aload 0 15 := rfl
theorem aX6_readGame_15 (K : Kt) : tl K (lX6_readGame) 15 = o_pushI (nI 4) 16 := rfl
theorem aX6_readGame_16 (K : Kt) : tl K (lX6_readGame) 16 = o_callV fX6_fail 1 6 19 := rfl
theorem aX6_readGame_19 (K : Kt) : tl K (lX6_readGame) 19 = o_zret K := rfl
theorem aX6_readGame_20 (K : Kt) : tl K (lX6_readGame) 20 = o_pushI (nI 0) 21 := rfl
theorem aX6_readGame_21 (K : Kt) : tl K (lX6_readGame) 21 = o_istore 2 22 := rfl
theorem aX6_readGame_22 (K : Kt) : tl K (lX6_readGame) 22 = o_iload 2 23 := rfl
theorem aX6_readGame_23 (K : Kt) : tl K (lX6_readGame) 23 = o_pushI (nI 3) 24 := rfl
theorem aX6_readGame_24 (K : Kt) : tl K (lX6_readGame) 24 = o_icmp_ge 110 27 := rfl
theorem aX6_readGame_27 (K : Kt) : tl K (lX6_readGame) 27 = o_iload 2 28 := rfl
theorem aX6_readGame_28 (K : Kt) : tl K (lX6_readGame) 28 = o_if_ne 39 31 := rfl
theorem aX6_readGame_31 (K : Kt) : tl K (lX6_readGame) 31 = o_iload 1 32 := rfl
theorem aX6_readGame_32 (K : Kt) : tl K (lX6_readGame) 32 = o_if_le 39 35 := rfl
theorem aX6_readGame_35 (K : Kt) : tl K (lX6_readGame) 35 = o_pushI (nI 1) 36 := rfl
theorem aX6_readGame_36 (K : Kt) : tl K (lX6_readGame) 36 = o_goto 40 := rfl
theorem aX6_readGame_39 (K : Kt) : tl K (lX6_readGame) 39 = o_pushI (nI 0) 40 := rfl
theorem aX6_readGame_40 (K : Kt) : tl K (lX6_readGame) 40 = o_istore 3 41 := rfl
theorem aX6_readGame_41 (K : Kt) : tl K (lX6_readGame) 41 = o_iload 3 42 := rfl
theorem aX6_readGame_42 (K : Kt) : tl K (lX6_readGame) 42 = o_if_eq 61 45 := rfl
theorem aX6_readGame_45 (K : Kt) : tl K (lX6_readGame) 45 = o_aload 0 46 := rfl
theorem aX6_readGame_46 (K : Kt) : tl K (lX6_readGame) 46 = o_get 6 2 49 := rfl
theorem aX6_readGame_49 (K : Kt) : tl K (lX6_readGame) 49 = o_iload 1 50 := rfl
theorem aX6_readGame_50 (K : Kt) : tl K (lX6_readGame) 50 = o_pushI (nI 1) 51 := rfl
theorem aX6_readGame_51 (K : Kt) : tl K (lX6_readGame) 51 = o_isub 52 := rfl
theorem aX6_readGame_52 (K : Kt) : tl K (lX6_readGame) 52 = o_pushI (nI 0) 53 := rfl
theorem aX6_readGame_53 (K : Kt) : tl K (lX6_readGame) 53 = o_callV fX9_fact 2 9 56 := rfl
theorem aX6_readGame_56 (K : Kt) : tl K (lX6_readGame) 56 = o_pushI (nI 1) 57 := rfl
theorem aX6_readGame_57 (K : Kt) : tl K (lX6_readGame) 57 = o_iadd 58 := rfl
theorem aX6_readGame_58 (K : Kt) : tl K (lX6_readGame) 58 = o_goto 66 := rfl
theorem aX6_readGame_61 (K : Kt) : tl K (lX6_readGame) 61 = o_pushR 102 64 := rfl
theorem aX6_readGame_64 (K : Kt) : tl K (lX6_readGame) 64 = o_iload 2 65 := rfl
theorem aX6_readGame_65 (K : Kt) : tl K (lX6_readGame) 65 = o_iaro 66 := rfl
theorem aX6_readGame_66 (K : Kt) : tl K (lX6_readGame) 66 = o_istore 4 68 := rfl
theorem aX6_readGame_68 (K : Kt) : tl K (lX6_readGame) 68 = o_aload 0 69 := rfl
theorem aX6_readGame_69 (K : Kt) : tl K (lX6_readGame) 69 = o_iload 4 71 := rfl
theorem aX6_readGame_71 (K : Kt) : tl K (lX6_readGame) 71 = o_pushR 103 74 := rfl
theorem aX6_readGame_74 (K : Kt) : tl K (lX6_readGame) 74 = o_iload 2 75 := rfl
theorem aX6_readGame_75 (K : Kt) : tl K (lX6_readGame) 75 = o_iaro 76 := rfl
theorem aX6_readGame_76 (K : Kt) : tl K (lX6_readGame) 76 = o_callV fX6_readWhole 2 6 79 := rfl
theorem aX6_readGame_79 (K : Kt) : tl K (lX6_readGame) 79 = o_if_ne 84 82 := rfl
theorem aX6_readGame_82 (K : Kt) : tl K (lX6_readGame) 82 = o_pushI (nI 0) 83 := rfl
theorem aX6_readGame_83 (K : Kt) : tl K (lX6_readGame) 83 = o_zret K := rfl
theorem aX6_readGame_84 (K : Kt) : tl K (lX6_readGame) 84 = o_aload 0 85 := rfl
theorem aX6_readGame_85 (K : Kt) : tl K (lX6_readGame) 85 = o_get 6 2 88 := rfl
theorem aX6_readGame_88 (K : Kt) : tl K (lX6_readGame) 88 = o_get 9 5 91 := rfl
theorem aX6_readGame_91 (K : Kt) : tl K (lX6_readGame) 91 = o_iload 1 92 := rfl
theorem aX6_readGame_92 (K : Kt) : tl K (lX6_readGame) 92 = o_pushI (nI 3) 93 := rfl
theorem aX6_readGame_93 (K : Kt) : tl K (lX6_readGame) 93 = o_imul 94 := rfl
theorem aX6_readGame_94 (K : Kt) : tl K (lX6_readGame) 94 = o_iload 2 95 := rfl
theorem aX6_readGame_95 (K : Kt) : tl K (lX6_readGame) 95 = o_iadd 96 := rfl
theorem aX6_readGame_96 (K : Kt) : tl K (lX6_readGame) 96 = o_aload 0 97 := rfl
theorem aX6_readGame_97 (K : Kt) : tl K (lX6_readGame) 97 = o_get 6 0 100 := rfl
theorem aX6_readGame_100 (K : Kt) : tl K (lX6_readGame) 100 = o_get 8 6 103 := rfl
theorem aX6_readGame_103 (K : Kt) : tl K (lX6_readGame) 103 = o_iast 104 := rfl
set_option maxRecDepth 8000 in
theorem aX6_readGame_104 (K : Kt) : tl K (lX6_readGame) 104 = o_iinc 2 (nI 1) 107 := rfl
set_option maxRecDepth 8000 in
theorem aX6_readGame_107 (K : Kt) : tl K (lX6_readGame) 107 = o_goto 22 := rfl
set_option maxRecDepth 8000 in
theorem aX6_readGame_110 (K : Kt) : tl K (lX6_readGame) 110 = o_aload 0 111 := rfl
set_option maxRecDepth 8000 in
theorem aX6_readGame_111 (K : Kt) : tl K (lX6_readGame) 111 = o_get 6 2 114 := rfl
set_option maxRecDepth 8000 in
theorem aX6_readGame_114 (K : Kt) : tl K (lX6_readGame) 114 = o_dup 115 := rfl
set_option maxRecDepth 8000 in
theorem aX6_readGame_115 (K : Kt) : tl K (lX6_readGame) 115 = o_get 9 4 118 := rfl
set_option maxRecDepth 8000 in
theorem aX6_readGame_118 (K : Kt) : tl K (lX6_readGame) 118 = o_pushI (nI 1) 119 := rfl
set_option maxRecDepth 8000 in
theorem aX6_readGame_119 (K : Kt) : tl K (lX6_readGame) 119 = o_iadd 120 := rfl
set_option maxRecDepth 8000 in
theorem aX6_readGame_120 (K : Kt) : tl K (lX6_readGame) 120 = o_putI 9 4 123 := rfl
set_option maxRecDepth 8000 in
theorem aX6_readGame_123 (K : Kt) : tl K (lX6_readGame) 123 = o_pushI (nI 1) 124 := rfl
set_option maxRecDepth 8000 in
theorem aX6_readGame_124 (K : Kt) : tl K (lX6_readGame) 124 = o_zret K := rfl
