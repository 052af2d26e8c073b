theorem eX10_better {As L : List Value} {w : Wd} {K : Kt} (hw : wds As ≤ 2) (hL : ent 2 As = L) (h : RR (tl K lX10_better) 0 L [] w) : fX10_better As w K := ⟨hw, by rw [hL]; exact h⟩
theorem nX10_better : MonoF fX10_better := mono_f 2 lX10_better
theorem aX10_better_0 (K : Kt) : tl K (lX10_better) 0 = o_aload 0 1 := rfl
theorem aX10_better_1 (K : Kt) : tl K (lX10_better) 1 = o_callV fX10_hasText 0 10 4 := rfl
theorem aX10_better_4 (K : Kt) : tl K (lX10_better) 4 = o_if_ne 13 7 := rfl
theorem aX10_better_7 (K : Kt) : tl K (lX10_better) 7 = o_aload 0 8 := rfl
theorem aX10_better_8 (K : Kt) : tl K (lX10_better) 8 = o_pushI (nI 1) 9 := rfl
theorem aX10_better_9 (K : Kt) : tl K (lX10_better) 9 = o_callV fX10_refuse 1 10 12 := rfl
theorem aX10_better_12 (K : Kt) : tl K (lX10_better) 12 = o_iret K := rfl
theorem aX10_better_13 (K : Kt) : tl K (lX10_better) 13 = o_aload 0 14 := rfl
theorem aX10_better_14 (K : Kt) : tl K (lX10_better) 14 = o_get 10 9 17 := rfl
theorem aX10_better_17 (K : Kt) : tl K (lX10_better) 17 = o_callV fX4_keep 0 4 20 := rfl
theorem aX10_better_20 (K : Kt) : tl K (lX10_better) 20 = o_pushI (nI 0) 21 := rfl
theorem aX10_better_21 (K : Kt) : tl K (lX10_better) 21 = o_istore 1 22 := rfl
theorem aX10_better_22 (K : Kt) : tl K (lX10_better) 22 = o_iload 1 23 := rfl
theorem aX10_better_23 (K : Kt) : tl K (lX10_better) 23 = o_pushI (nI 99) 25 := rfl
theorem aX10_better_25 (K : Kt) : tl K (lX10_better) 25 = o_icmp_ge 44 28 := rfl
theorem aX10_better_28 (K : Kt) : tl K (lX10_better) 28 = o_aload 0 29 := rfl
theorem aX10_better_29 (K : Kt) : tl K (lX10_better) 29 = o_get 10 7 32 := rfl
theorem aX10_better_32 (K : Kt) : tl K (lX10_better) 32 = o_callV fX2_changeBest 0 2 35 := rfl
theorem aX10_better_35 (K : Kt) : tl K (lX10_better) 35 = o_if_eq 44 38 := rfl
theorem aX10_better_38 (K : Kt) : tl K (lX10_better) 38 = o_iinc 1 (nI 1) 41 := rfl
theorem aX10_better_41 (K : Kt) : tl K (lX10_better) 41 = o_goto 22 := rfl
theorem aX10_better_44 (K : Kt) : tl K (lX10_better) 44 = o_aload 0 45 := rfl
theorem aX10_better_45 (K : Kt) : tl K (lX10_better) 45 = o_iload 1 46 := rfl
theorem aX10_better_46 (K : Kt) : tl K (lX10_better) 46 = o_callV fX10_answer 1 10 49 := rfl
theorem aX10_better_49 (K : Kt) : tl K (lX10_better) 49 = o_iret K := rfl
theorem eX10_fill {As L : List Value} {w : Wd} {K : Kt} (hw : wds As ≤ 2) (hL : ent 2 As = L) (h : RR (tl K lX10_fill) 0 L [] w) : fX10_fill As w K := ⟨hw, by rw [hL]; exact h⟩
theorem nX10_fill : MonoF fX10_fill := mono_f 2 lX10_fill
theorem aX10_fill_0 (K : Kt) : tl K (lX10_fill) 0 = o_aload 0 1 := rfl
theorem aX10_fill_1 (K : Kt) : tl K (lX10_fill) 1 = o_iload 1 2 := rfl
theorem aX10_fill_2 (K : Kt) : tl K (lX10_fill) 2 = o_callV fX10_hasGame 1 10 5 := rfl
theorem aX10_fill_5 (K : Kt) : tl K (lX10_fill) 5 = o_if_ne 14 8 := rfl
theorem aX10_fill_8 (K : Kt) : tl K (lX10_fill) 8 = o_aload 0 9 := rfl
theorem aX10_fill_9 (K : Kt) : tl K (lX10_fill) 9 = o_pushI (nI 1) 10 := rfl
theorem aX10_fill_10 (K : Kt) : tl K (lX10_fill) 10 = o_callV fX10_refuse 1 10 13 := rfl
theorem aX10_fill_13 (K : Kt) : tl K (lX10_fill) 13 = o_iret K := rfl
theorem aX10_fill_14 (K : Kt) : tl K (lX10_fill) 14 = o_aload 0 15 := rfl
theorem aX10_fill_15 (K : Kt) : tl K (lX10_fill) 15 = o_get 10 9 18 := rfl
theorem aX10_fill_18 (K : Kt) : tl K (lX10_fill) 18 = o_callV fX4_keep 0 4 21 := rfl
theorem aX10_fill_21 (K : Kt) : tl K (lX10_fill) 21 = o_aload 0 22 := rfl
theorem aX10_fill_22 (K : Kt) : tl K (lX10_fill) 22 = o_aload 0 23 := rfl
theorem aX10_fill_23 (K : Kt) : tl K (lX10_fill) 23 = o_get 10 7 26 := rfl
theorem aX10_fill_26 (K : Kt) : tl K (lX10_fill) 26 = o_iload 1 27 := rfl
theorem aX10_fill_27 (K : Kt) : tl K (lX10_fill) 27 = o_callV fX2_fillGame 1 2 30 := rfl
theorem aX10_fill_30 (K : Kt) : tl K (lX10_fill) 30 = o_callV fX10_answer 1 10 33 := rfl
theorem aX10_fill_33 (K : Kt) : tl K (lX10_fill) 33 = o_iret K := rfl
theorem eX10_fillAll {As L : List Value} {w : Wd} {K : Kt} (hw : wds As ≤ 3) (hL : ent 3 As = L) (h : RR (tl K lX10_fillAll) 0 L [] w) : fX10_fillAll As w K := ⟨hw, by rw [hL]; exact h⟩
theorem nX10_fillAll : MonoF fX10_fillAll := mono_f 3 lX10_fillAll
theorem aX10_fillAll_0 (K : Kt) : tl K (lX10_fillAll) 0 = o_aload 0 1 := rfl
theorem aX10_fillAll_1 (K : Kt) : tl K (lX10_fillAll) 1 = o_callV fX10_hasText 0 10 4 := rfl
theorem aX10_fillAll_4 (K : Kt) : tl K (lX10_fillAll) 4 = o_if_ne 13 7 := rfl
theorem aX10_fillAll_7 (K : Kt) : tl K (lX10_fillAll) 7 = o_aload 0 8 := rfl
theorem aX10_fillAll_8 (K : Kt) : tl K (lX10_fillAll) 8 = o_pushI (nI 1) 9 := rfl
theorem aX10_fillAll_9 (K : Kt) : tl K (lX10_fillAll) 9 = o_callV fX10_refuse 1 10 12 := rfl
theorem aX10_fillAll_12 (K : Kt) : tl K (lX10_fillAll) 12 = o_iret K := rfl
theorem aX10_fillAll_13 (K : Kt) : tl K (lX10_fillAll) 13 = o_aload 0 14 := rfl
theorem aX10_fillAll_14 (K : Kt) : tl K (lX10_fillAll) 14 = o_get 10 9 17 := rfl
theorem aX10_fillAll_17 (K : Kt) : tl K (lX10_fillAll) 17 = o_callV fX4_keep 0 4 20 := rfl
theorem aX10_fillAll_20 (K : Kt) : tl K (lX10_fillAll) 20 = o_pushI (nI 0) 21 := rfl
theorem aX10_fillAll_21 (K : Kt) : tl K (lX10_fillAll) 21 = o_istore 1 22 := rfl
theorem aX10_fillAll_22 (K : Kt) : tl K (lX10_fillAll) 22 = o_pushI (nI 0) 23 := rfl
theorem aX10_fillAll_23 (K : Kt) : tl K (lX10_fillAll) 23 = o_istore 2 24 := rfl
theorem aX10_fillAll_24 (K : Kt) : tl K (lX10_fillAll) 24 = o_iload 2 25 := rfl
theorem aX10_fillAll_25 (K : Kt) : tl K (lX10_fillAll) 25 = o_aload 0 26 := rfl
theorem aX10_fillAll_26 (K : Kt) : tl K (lX10_fillAll) 26 = o_get 10 2 29 := rfl
theorem aX10_fillAll_29 (K : Kt) : tl K (lX10_fillAll) 29 = o_get 9 4 32 := rfl
theorem aX10_fillAll_32 (K : Kt) : tl K (lX10_fillAll) 32 = o_icmp_ge 52 35 := rfl
theorem aX10_fillAll_35 (K : Kt) : tl K (lX10_fillAll) 35 = o_iload 1 36 := rfl
theorem aX10_fillAll_36 (K : Kt) : tl K (lX10_fillAll) 36 = o_aload 0 37 := rfl
theorem aX10_fillAll_37 (K : Kt) : tl K (lX10_fillAll) 37 = o_get 10 7 40 := rfl
theorem aX10_fillAll_40 (K : Kt) : tl K (lX10_fillAll) 40 = o_iload 2 41 := rfl
theorem aX10_fillAll_41 (K : Kt) : tl K (lX10_fillAll) 41 = o_callV fX2_fillGame 1 2 44 := rfl
theorem aX10_fillAll_44 (K : Kt) : tl K (lX10_fillAll) 44 = o_iadd 45 := rfl
theorem aX10_fillAll_45 (K : Kt) : tl K (lX10_fillAll) 45 = o_istore 1 46 := rfl
theorem aX10_fillAll_46 (K : Kt) : tl K (lX10_fillAll) 46 = o_iinc 2 (nI 1) 49 := rfl
theorem aX10_fillAll_49 (K : Kt) : tl K (lX10_fillAll) 49 = o_goto 24 := rfl
theorem aX10_fillAll_52 (K : Kt) : tl K (lX10_fillAll) 52 = o_aload 0 53 := rfl
theorem aX10_fillAll_53 (K : Kt) : tl K (lX10_fillAll) 53 = o_iload 1 54 := rfl
theorem aX10_fillAll_54 (K : Kt) : tl K (lX10_fillAll) 54 = o_callV fX10_answer 1 10 57 := rfl
theorem aX10_fillAll_57 (K : Kt) : tl K (lX10_fillAll) 57 = o_iret K := rfl
theorem eX10_laid {As L : List Value} {w : Wd} {K : Kt} (hw : wds As ≤ 6) (hL : ent 6 As = L) (h : RR (tl K lX10_laid) 0 L [] w) : fX10_laid As w K := ⟨hw, by rw [hL]; exact h⟩
theorem nX10_laid : MonoF fX10_laid := mono_f 6 lX10_laid
theorem aX10_laid_0 (K : Kt) : tl K (lX10_laid) 0 = o_aload 0 1 := rfl
theorem aX10_laid_1 (K : Kt) : tl K (lX10_laid) 1 = o_iload 1 2 := rfl
theorem aX10_laid_2 (K : Kt) : tl K (lX10_laid) 2 = o_iload 2 3 := rfl
theorem aX10_laid_3 (K : Kt) : tl K (lX10_laid) 3 = o_callV fX10_troubleOfBest 2 10 6 := rfl
theorem aX10_laid_6 (K : Kt) : tl K (lX10_laid) 6 = o_istore 3 7 := rfl
theorem aX10_laid_7 (K : Kt) : tl K (lX10_laid) 7 = o_iload 3 8 := rfl
theorem aX10_laid_8 (K : Kt) : tl K (lX10_laid) 8 = o_if_eq 17 11 := rfl
theorem aX10_laid_11 (K : Kt) : tl K (lX10_laid) 11 = o_aload 0 12 := rfl
theorem aX10_laid_12 (K : Kt) : tl K (lX10_laid) 12 = o_iload 3 13 := rfl
theorem aX10_laid_13 (K : Kt) : tl K (lX10_laid) 13 = o_callV fX10_refuse 1 10 16 := rfl
theorem aX10_laid_16 (K : Kt) : tl K (lX10_laid) 16 = o_iret K := rfl
theorem aX10_laid_17 (K : Kt) : tl K (lX10_laid) 17 = o_aload 0 18 := rfl
theorem aX10_laid_18 (K : Kt) : tl K (lX10_laid) 18 = o_get 10 6 21 := rfl
theorem aX10_laid_21 (K : Kt) : tl K (lX10_laid) 21 = o_iload 1 22 := rfl
theorem aX10_laid_22 (K : Kt) : tl K (lX10_laid) 22 = o_iload 2 23 := rfl
theorem aX10_laid_23 (K : Kt) : tl K (lX10_laid) 23 = o_callV fX0_find 2 0 26 := rfl
theorem aX10_laid_26 (K : Kt) : tl K (lX10_laid) 26 = o_aload 0 27 := rfl
theorem aX10_laid_27 (K : Kt) : tl K (lX10_laid) 27 = o_get 10 9 30 := rfl
theorem aX10_laid_30 (K : Kt) : tl K (lX10_laid) 30 = o_callV fX4_keep 0 4 33 := rfl
theorem aX10_laid_33 (K : Kt) : tl K (lX10_laid) 33 = o_pushI (nI 0) 34 := rfl
theorem aX10_laid_34 (K : Kt) : tl K (lX10_laid) 34 = o_istore 4 36 := rfl
theorem aX10_laid_36 (K : Kt) : tl K (lX10_laid) 36 = o_iload 4 38 := rfl
theorem aX10_laid_38 (K : Kt) : tl K (lX10_laid) 38 = o_iload 2 39 := rfl
theorem aX10_laid_39 (K : Kt) : tl K (lX10_laid) 39 = o_icmp_ge 104 42 := rfl
theorem aX10_laid_42 (K : Kt) : tl K (lX10_laid) 42 = o_aload 0 43 := rfl
theorem aX10_laid_43 (K : Kt) : tl K (lX10_laid) 43 = o_get 10 3 46 := rfl
theorem aX10_laid_46 (K : Kt) : tl K (lX10_laid) 46 = o_iload 1 47 := rfl
theorem aX10_laid_47 (K : Kt) : tl K (lX10_laid) 47 = o_iload 4 49 := rfl
theorem aX10_laid_49 (K : Kt) : tl K (lX10_laid) 49 = o_iadd 50 := rfl
theorem aX10_laid_50 (K : Kt) : tl K (lX10_laid) 50 = o_callV fX5_emptyGame 1 5 53 := rfl
theorem aX10_laid_53 (K : Kt) : tl K (lX10_laid) 53 = o_aload 0 54 := rfl
theorem aX10_laid_54 (K : Kt) : tl K (lX10_laid) 54 = o_get 10 6 57 := rfl
theorem aX10_laid_57 (K : Kt) : tl K (lX10_laid) 57 = o_get 0 9 60 := rfl
theorem aX10_laid_60 (K : Kt) : tl K (lX10_laid) 60 = o_iload 4 62 := rfl
theorem aX10_laid_62 (K : Kt) : tl K (lX10_laid) 62 = o_iald 63 := rfl
theorem aX10_laid_63 (K : Kt) : tl K (lX10_laid) 63 = o_istore 5 65 := rfl
theorem aX10_laid_65 (K : Kt) : tl K (lX10_laid) 65 = o_iload 5 67 := rfl
theorem aX10_laid_67 (K : Kt) : tl K (lX10_laid) 67 = o_pushI ((-2)) 69 := rfl
theorem aX10_laid_69 (K : Kt) : tl K (lX10_laid) 69 = o_icmp_eq 98 72 := rfl
theorem aX10_laid_72 (K : Kt) : tl K (lX10_laid) 72 = o_aload 0 73 := rfl
theorem aX10_laid_73 (K : Kt) : tl K (lX10_laid) 73 = o_get 10 3 76 := rfl
theorem aX10_laid_76 (K : Kt) : tl K (lX10_laid) 76 = o_iload 1 77 := rfl
theorem aX10_laid_77 (K : Kt) : tl K (lX10_laid) 77 = o_iload 4 79 := rfl
theorem aX10_laid_79 (K : Kt) : tl K (lX10_laid) 79 = o_iadd 80 := rfl
theorem aX10_laid_80 (K : Kt) : tl K (lX10_laid) 80 = o_iload 5 82 := rfl
theorem aX10_laid_82 (K : Kt) : tl K (lX10_laid) 82 = o_aload 0 83 := rfl
theorem aX10_laid_83 (K : Kt) : tl K (lX10_laid) 83 = o_get 10 4 86 := rfl
theorem aX10_laid_86 (K : Kt) : tl K (lX10_laid) 86 = o_iload 5 88 := rfl
theorem aX10_laid_88 (K : Kt) : tl K (lX10_laid) 88 = o_iload 1 89 := rfl
theorem aX10_laid_89 (K : Kt) : tl K (lX10_laid) 89 = o_iload 4 91 := rfl
theorem aX10_laid_91 (K : Kt) : tl K (lX10_laid) 91 = o_iadd 92 := rfl
theorem aX10_laid_92 (K : Kt) : tl K (lX10_laid) 92 = o_callV fX1_fullThrows 2 1 95 := rfl
theorem aX10_laid_95 (K : Kt) : tl K (lX10_laid) 95 = o_callV fX5_add 3 5 98 := rfl
theorem aX10_laid_98 (K : Kt) : tl K (lX10_laid) 98 = o_iinc 4 (nI 1) 101 := rfl
theorem aX10_laid_101 (K : Kt) : tl K (lX10_laid) 101 = o_goto 36 := rfl
theorem aX10_laid_104 (K : Kt) : tl K (lX10_laid) 104 = o_aload 0 105 := rfl
theorem aX10_laid_105 (K : Kt) : tl K (lX10_laid) 105 = o_aload 0 106 := rfl
theorem aX10_laid_106 (K : Kt) : tl K (lX10_laid) 106 = o_get 10 6 109 := rfl
theorem aX10_laid_109 (K : Kt) : tl K (lX10_laid) 109 = o_get 0 10 112 := rfl
theorem aX10_laid_112 (K : Kt) : tl K (lX10_laid) 112 = o_callV fX10_answer 1 10 115 := rfl
theorem aX10_laid_115 (K : Kt) : tl K (lX10_laid) 115 = o_iret K := rfl
theorem eX10_become {As L : List Value} {w : Wd} {K : Kt} (hw : wds As ≤ 5) (hL : ent 5 As = L) (h : RR (tl K lX10_become) 0 L [] w) : fX10_become As w K := ⟨hw, by rw [hL]; exact h⟩
theorem nX10_become : MonoF fX10_become := mono_f 5 lX10_become
theorem aX10_become_0 (K : Kt) : tl K (lX10_become) 0 = o_aload 0 1 := rfl
theorem aX10_become_1 (K : Kt) : tl K (lX10_become) 1 = o_iload 1 2 := rfl
theorem aX10_become_2 (K : Kt) : tl K (lX10_become) 2 = o_callV fX10_hasArm 1 10 5 := rfl
theorem aX10_become_5 (K : Kt) : tl K (lX10_become) 5 = o_if_eq 17 8 := rfl
theorem aX10_become_8 (K : Kt) : tl K (lX10_become) 8 = o_iload 2 9 := rfl
theorem aX10_become_9 (K : Kt) : tl K (lX10_become) 9 = o_pushI (nI 0) 10 := rfl
theorem aX10_become_10 (K : Kt) : tl K (lX10_become) 10 = o_pushI (nI 3) 11 := rfl
theorem aX10_become_11 (K : Kt) : tl K (lX10_become) 11 = o_callS fX10_within 3 14 := rfl
theorem aX10_become_14 (K : Kt) : tl K (lX10_become) 14 = o_if_ne 23 17 := rfl
theorem aX10_become_17 (K : Kt) : tl K (lX10_become) 17 = o_aload 0 18 := rfl
theorem aX10_become_18 (K : Kt) : tl K (lX10_become) 18 = o_pushI (nI 1) 19 := rfl
theorem aX10_become_19 (K : Kt) : tl K (lX10_become) 19 = o_callV fX10_refuse 1 10 22 := rfl
theorem aX10_become_22 (K : Kt) : tl K (lX10_become) 22 = o_iret K := rfl
theorem aX10_become_23 (K : Kt) : tl K (lX10_become) 23 = o_iload 3 24 := rfl
theorem aX10_become_24 (K : Kt) : tl K (lX10_become) 24 = o_pushR 100 27 := rfl
theorem aX10_become_27 (K : Kt) : tl K (lX10_become) 27 = o_iload 2 28 := rfl
theorem aX10_become_28 (K : Kt) : tl K (lX10_become) 28 = o_iaro 29 := rfl
theorem aX10_become_29 (K : Kt) : tl K (lX10_become) 29 = o_aload 0 30 := rfl
theorem aX10_become_30 (K : Kt) : tl K (lX10_become) 30 = o_get 10 2 33 := rfl
theorem aX10_become_33 (K : Kt) : tl K (lX10_become) 33 = o_iload 1 34 := rfl
theorem aX10_become_34 (K : Kt) : tl K (lX10_become) 34 = o_iload 2 35 := rfl
theorem aX10_become_35 (K : Kt) : tl K (lX10_become) 35 = o_callV fX9_highestTrait 2 9 38 := rfl
theorem aX10_become_38 (K : Kt) : tl K (lX10_become) 38 = o_callS fX10_within 3 41 := rfl
theorem aX10_become_41 (K : Kt) : tl K (lX10_become) 41 = o_if_ne 50 44 := rfl
theorem aX10_become_44 (K : Kt) : tl K (lX10_become) 44 = o_aload 0 45 := rfl
theorem aX10_become_45 (K : Kt) : tl K (lX10_become) 45 = o_pushI (nI 2) 46 := rfl
theorem aX10_become_46 (K : Kt) : tl K (lX10_become) 46 = o_callV fX10_refuse 1 10 49 := rfl
theorem aX10_become_49 (K : Kt) : tl K (lX10_become) 49 = o_iret K := rfl
theorem aX10_become_50 (K : Kt) : tl K (lX10_become) 50 = o_aload 0 51 := rfl
theorem aX10_become_51 (K : Kt) : tl K (lX10_become) 51 = o_get 10 9 54 := rfl
theorem aX10_become_54 (K : Kt) : tl K (lX10_become) 54 = o_callV fX4_keep 0 4 57 := rfl
theorem aX10_become_57 (K : Kt) : tl K (lX10_become) 57 = o_aload 0 58 := rfl
theorem aX10_become_58 (K : Kt) : tl K (lX10_become) 58 = o_get 10 2 61 := rfl
theorem aX10_become_61 (K : Kt) : tl K (lX10_become) 61 = o_iload 1 62 := rfl
theorem aX10_become_62 (K : Kt) : tl K (lX10_become) 62 = o_iload 2 63 := rfl
theorem aX10_become_63 (K : Kt) : tl K (lX10_become) 63 = o_callV fX9_trait 2 9 66 := rfl
theorem aX10_become_66 (K : Kt) : tl K (lX10_become) 66 = o_istore 4 68 := rfl
theorem aX10_become_68 (K : Kt) : tl K (lX10_become) 68 = o_aload 0 69 := rfl
theorem aX10_become_69 (K : Kt) : tl K (lX10_become) 69 = o_get 10 2 72 := rfl
theorem aX10_become_72 (K : Kt) : tl K (lX10_become) 72 = o_iload 1 73 := rfl
theorem aX10_become_73 (K : Kt) : tl K (lX10_become) 73 = o_iload 2 74 := rfl
theorem aX10_become_74 (K : Kt) : tl K (lX10_become) 74 = o_iload 3 75 := rfl
theorem aX10_become_75 (K : Kt) : tl K (lX10_become) 75 = o_callV fX9_setTrait 3 9 78 := rfl
theorem aX10_become_78 (K : Kt) : tl K (lX10_become) 78 = o_aload 0 79 := rfl
theorem aX10_become_79 (K : Kt) : tl K (lX10_become) 79 = o_get 10 2 82 := rfl
theorem aX10_become_82 (K : Kt) : tl K (lX10_become) 82 = o_iload 1 83 := rfl
theorem aX10_become_83 (K : Kt) : tl K (lX10_become) 83 = o_pushI (nI 2) 84 := rfl
theorem aX10_become_84 (K : Kt) : tl K (lX10_become) 84 = o_callV fX9_trait 2 9 87 := rfl
theorem aX10_become_87 (K : Kt) : tl K (lX10_become) 87 = o_aload 0 88 := rfl
theorem aX10_become_88 (K : Kt) : tl K (lX10_become) 88 = o_get 10 2 91 := rfl
theorem aX10_become_91 (K : Kt) : tl K (lX10_become) 91 = o_iload 1 92 := rfl
theorem aX10_become_92 (K : Kt) : tl K (lX10_become) 92 = o_pushI (nI 1) 93 := rfl
theorem aX10_become_93 (K : Kt) : tl K (lX10_become) 93 = o_callV fX9_trait 2 9 96 := rfl
theorem aX10_become_96 (K : Kt) : tl K (lX10_become) 96 = o_icmp_le 117 99 := rfl
theorem aX10_become_99 (K : Kt) : tl K (lX10_become) 99 = o_aload 0 100 := rfl
theorem aX10_become_100 (K : Kt) : tl K (lX10_become) 100 = o_get 10 2 103 := rfl
theorem aX10_become_103 (K : Kt) : tl K (lX10_become) 103 = o_iload 1 104 := rfl
theorem aX10_become_104 (K : Kt) : tl K (lX10_become) 104 = o_pushI (nI 2) 105 := rfl
theorem aX10_become_105 (K : Kt) : tl K (lX10_become) 105 = o_aload 0 106 := rfl
theorem aX10_become_106 (K : Kt) : tl K (lX10_become) 106 = o_get 10 2 109 := rfl
theorem aX10_become_109 (K : Kt) : tl K (lX10_become) 109 = o_iload 1 110 := rfl
set_option maxRecDepth 8000 in
theorem aX10_become_110 (K : Kt) : tl K (lX10_become) 110 = o_pushI (nI 1) 111 := rfl
set_option maxRecDepth 8000 in
theorem aX10_become_111 (K : Kt) : tl K (lX10_become) 111 = o_callV fX9_trait 2 9 114 := rfl
set_option maxRecDepth 8000 in
theorem aX10_become_114 (K : Kt) : tl K (lX10_become) 114 = o_callV fX9_setTrait 3 9 117 := rfl
set_option maxRecDepth 8000 in
theorem aX10_become_117 (K : Kt) : tl K (lX10_become) 117 = o_aload 0 118 := rfl
set_option maxRecDepth 8000 in
theorem aX10_become_118 (K : Kt) : tl K (lX10_become) 118 = o_iload 4 120 := rfl
set_option maxRecDepth 8000 in
theorem aX10_become_120 (K : Kt) : tl K (lX10_become) 120 = o_callV fX10_answer 1 10 123 := rfl
set_option maxRecDepth 8000 in
theorem aX10_become_123 (K : Kt) : tl K (lX10_become) 123 = o_iret K := rfl
theorem eX10_rule {As L : List Value} {w : Wd} {K : Kt} (hw : wds As ≤ 4) (hL : ent 4 As = L) (h : RR (tl K lX10_rule) 0 L [] w) : fX10_rule As w K := ⟨hw, by rw [hL]; exact h⟩
theorem nX10_rule : MonoF fX10_rule := mono_f 4 lX10_rule
theorem aX10_rule_0 (K : Kt) : tl K (lX10_rule) 0 = o_aload 0 1 := rfl
theorem aX10_rule_1 (K : Kt) : tl K (lX10_rule) 1 = o_callV fX10_hasText 0 10 4 := rfl
theorem aX10_rule_4 (K : Kt) : tl K (lX10_rule) 4 = o_if_eq 16 7 := rfl
theorem aX10_rule_7 (K : Kt) : tl K (lX10_rule) 7 = o_iload 1 8 := rfl
theorem aX10_rule_8 (K : Kt) : tl K (lX10_rule) 8 = o_pushI (nI 0) 9 := rfl
theorem aX10_rule_9 (K : Kt) : tl K (lX10_rule) 9 = o_pushI (nI 2) 10 := rfl
theorem aX10_rule_10 (K : Kt) : tl K (lX10_rule) 10 = o_callS fX10_within 3 13 := rfl
theorem aX10_rule_13 (K : Kt) : tl K (lX10_rule) 13 = o_if_ne 22 16 := rfl
theorem aX10_rule_16 (K : Kt) : tl K (lX10_rule) 16 = o_aload 0 17 := rfl
theorem aX10_rule_17 (K : Kt) : tl K (lX10_rule) 17 = o_pushI (nI 1) 18 := rfl
theorem aX10_rule_18 (K : Kt) : tl K (lX10_rule) 18 = o_callV fX10_refuse 1 10 21 := rfl
theorem aX10_rule_21 (K : Kt) : tl K (lX10_rule) 21 = o_iret K := rfl
theorem aX10_rule_22 (K : Kt) : tl K (lX10_rule) 22 = o_iload 2 23 := rfl
theorem aX10_rule_23 (K : Kt) : tl K (lX10_rule) 23 = o_pushR 104 26 := rfl
theorem aX10_rule_26 (K : Kt) : tl K (lX10_rule) 26 = o_iload 1 27 := rfl
theorem aX10_rule_27 (K : Kt) : tl K (lX10_rule) 27 = o_iaro 28 := rfl
theorem aX10_rule_28 (K : Kt) : tl K (lX10_rule) 28 = o_pushR 105 31 := rfl
theorem aX10_rule_31 (K : Kt) : tl K (lX10_rule) 31 = o_iload 1 32 := rfl
theorem aX10_rule_32 (K : Kt) : tl K (lX10_rule) 32 = o_iaro 33 := rfl
theorem aX10_rule_33 (K : Kt) : tl K (lX10_rule) 33 = o_callS fX10_within 3 36 := rfl
theorem aX10_rule_36 (K : Kt) : tl K (lX10_rule) 36 = o_if_ne 45 39 := rfl
theorem aX10_rule_39 (K : Kt) : tl K (lX10_rule) 39 = o_aload 0 40 := rfl
theorem aX10_rule_40 (K : Kt) : tl K (lX10_rule) 40 = o_pushI (nI 2) 41 := rfl
theorem aX10_rule_41 (K : Kt) : tl K (lX10_rule) 41 = o_callV fX10_refuse 1 10 44 := rfl
theorem aX10_rule_44 (K : Kt) : tl K (lX10_rule) 44 = o_iret K := rfl
theorem aX10_rule_45 (K : Kt) : tl K (lX10_rule) 45 = o_aload 0 46 := rfl
theorem aX10_rule_46 (K : Kt) : tl K (lX10_rule) 46 = o_get 10 9 49 := rfl
theorem aX10_rule_49 (K : Kt) : tl K (lX10_rule) 49 = o_callV fX4_keep 0 4 52 := rfl
theorem aX10_rule_52 (K : Kt) : tl K (lX10_rule) 52 = o_aload 0 53 := rfl
theorem aX10_rule_53 (K : Kt) : tl K (lX10_rule) 53 = o_get 10 2 56 := rfl
theorem aX10_rule_56 (K : Kt) : tl K (lX10_rule) 56 = o_get 9 6 59 := rfl
theorem aX10_rule_59 (K : Kt) : tl K (lX10_rule) 59 = o_iload 1 60 := rfl
theorem aX10_rule_60 (K : Kt) : tl K (lX10_rule) 60 = o_iald 61 := rfl
theorem aX10_rule_61 (K : Kt) : tl K (lX10_rule) 61 = o_istore 3 62 := rfl
theorem aX10_rule_62 (K : Kt) : tl K (lX10_rule) 62 = o_aload 0 63 := rfl
theorem aX10_rule_63 (K : Kt) : tl K (lX10_rule) 63 = o_get 10 2 66 := rfl
theorem aX10_rule_66 (K : Kt) : tl K (lX10_rule) 66 = o_get 9 6 69 := rfl
theorem aX10_rule_69 (K : Kt) : tl K (lX10_rule) 69 = o_iload 1 70 := rfl
theorem aX10_rule_70 (K : Kt) : tl K (lX10_rule) 70 = o_iload 2 71 := rfl
theorem aX10_rule_71 (K : Kt) : tl K (lX10_rule) 71 = o_iast 72 := rfl
theorem aX10_rule_72 (K : Kt) : tl K (lX10_rule) 72 = o_aload 0 73 := rfl
theorem aX10_rule_73 (K : Kt) : tl K (lX10_rule) 73 = o_iload 3 74 := rfl
theorem aX10_rule_74 (K : Kt) : tl K (lX10_rule) 74 = o_callV fX10_answer 1 10 77 := rfl
theorem aX10_rule_77 (K : Kt) : tl K (lX10_rule) 77 = o_iret K := rfl
theorem eX10_rests {As L : List Value} {w : Wd} {K : Kt} (hw : wds As ≤ 4) (hL : ent 4 As = L) (h : RR (tl K lX10_rests) 0 L [] w) : fX10_rests As w K := ⟨hw, by rw [hL]; exact h⟩
theorem nX10_rests : MonoF fX10_rests := mono_f 4 lX10_rests
theorem aX10_rests_0 (K : Kt) : tl K (lX10_rests) 0 = o_aload 0 1 := rfl
theorem aX10_rests_1 (K : Kt) : tl K (lX10_rests) 1 = o_callV fX10_hasText 0 10 4 := rfl
theorem aX10_rests_4 (K : Kt) : tl K (lX10_rests) 4 = o_if_eq 24 7 := rfl
theorem aX10_rests_7 (K : Kt) : tl K (lX10_rests) 7 = o_iload 1 8 := rfl
theorem aX10_rests_8 (K : Kt) : tl K (lX10_rests) 8 = o_pushI (nI 0) 9 := rfl
theorem aX10_rests_9 (K : Kt) : tl K (lX10_rests) 9 = o_aload 0 10 := rfl
theorem aX10_rests_10 (K : Kt) : tl K (lX10_rests) 10 = o_get 10 2 13 := rfl
theorem aX10_rests_13 (K : Kt) : tl K (lX10_rests) 13 = o_get 9 7 16 := rfl
theorem aX10_rests_16 (K : Kt) : tl K (lX10_rests) 16 = o_pushI (nI 1) 17 := rfl
theorem aX10_rests_17 (K : Kt) : tl K (lX10_rests) 17 = o_isub 18 := rfl
theorem aX10_rests_18 (K : Kt) : tl K (lX10_rests) 18 = o_callS fX10_within 3 21 := rfl
theorem aX10_rests_21 (K : Kt) : tl K (lX10_rests) 21 = o_if_ne 30 24 := rfl
theorem aX10_rests_24 (K : Kt) : tl K (lX10_rests) 24 = o_aload 0 25 := rfl
theorem aX10_rests_25 (K : Kt) : tl K (lX10_rests) 25 = o_pushI (nI 1) 26 := rfl
theorem aX10_rests_26 (K : Kt) : tl K (lX10_rests) 26 = o_callV fX10_refuse 1 10 29 := rfl
theorem aX10_rests_29 (K : Kt) : tl K (lX10_rests) 29 = o_iret K := rfl
theorem aX10_rests_30 (K : Kt) : tl K (lX10_rests) 30 = o_iload 2 31 := rfl
theorem aX10_rests_31 (K : Kt) : tl K (lX10_rests) 31 = o_pushI (nI 0) 32 := rfl
theorem aX10_rests_32 (K : Kt) : tl K (lX10_rests) 32 = o_pushI (nI 9) 34 := rfl
theorem aX10_rests_34 (K : Kt) : tl K (lX10_rests) 34 = o_callS fX10_within 3 37 := rfl
theorem aX10_rests_37 (K : Kt) : tl K (lX10_rests) 37 = o_if_ne 46 40 := rfl
theorem aX10_rests_40 (K : Kt) : tl K (lX10_rests) 40 = o_aload 0 41 := rfl
theorem aX10_rests_41 (K : Kt) : tl K (lX10_rests) 41 = o_pushI (nI 2) 42 := rfl
theorem aX10_rests_42 (K : Kt) : tl K (lX10_rests) 42 = o_callV fX10_refuse 1 10 45 := rfl
theorem aX10_rests_45 (K : Kt) : tl K (lX10_rests) 45 = o_iret K := rfl
theorem aX10_rests_46 (K : Kt) : tl K (lX10_rests) 46 = o_aload 0 47 := rfl
theorem aX10_rests_47 (K : Kt) : tl K (lX10_rests) 47 = o_get 10 9 50 := rfl
theorem aX10_rests_50 (K : Kt) : tl K (lX10_rests) 50 = o_callV fX4_keep 0 4 53 := rfl
theorem aX10_rests_53 (K : Kt) : tl K (lX10_rests) 53 = o_aload 0 54 := rfl
theorem aX10_rests_54 (K : Kt) : tl K (lX10_rests) 54 = o_get 10 2 57 := rfl
theorem aX10_rests_57 (K : Kt) : tl K (lX10_rests) 57 = o_get 9 9 60 := rfl
theorem aX10_rests_60 (K : Kt) : tl K (lX10_rests) 60 = o_iload 1 61 := rfl
theorem aX10_rests_61 (K : Kt) : tl K (lX10_rests) 61 = o_iald 62 := rfl
theorem aX10_rests_62 (K : Kt) : tl K (lX10_rests) 62 = o_istore 3 63 := rfl
theorem aX10_rests_63 (K : Kt) : tl K (lX10_rests) 63 = o_aload 0 64 := rfl
theorem aX10_rests_64 (K : Kt) : tl K (lX10_rests) 64 = o_get 10 2 67 := rfl
theorem aX10_rests_67 (K : Kt) : tl K (lX10_rests) 67 = o_get 9 9 70 := rfl
theorem aX10_rests_70 (K : Kt) : tl K (lX10_rests) 70 = o_iload 1 71 := rfl
theorem aX10_rests_71 (K : Kt) : tl K (lX10_rests) 71 = o_iload 2 72 := rfl
theorem aX10_rests_72 (K : Kt) : tl K (lX10_rests) 72 = o_iast 73 := rfl
theorem aX10_rests_73 (K : Kt) : tl K (lX10_rests) 73 = o_aload 0 74 := rfl
theorem aX10_rests_74 (K : Kt) : tl K (lX10_rests) 74 = o_iload 3 75 := rfl
theorem aX10_rests_75 (K : Kt) : tl K (lX10_rests) 75 = o_callV fX10_answer 1 10 78 := rfl
theorem aX10_rests_78 (K : Kt) : tl K (lX10_rests) 78 = o_iret K := rfl
theorem eX10_undo {As L : List Value} {w : Wd} {K : Kt} (hw : wds As ≤ 1) (hL : ent 1 As = L) (h : RR (tl K lX10_undo) 0 L [] w) : fX10_undo As w K := ⟨hw, by rw [hL]; exact h⟩
theorem nX10_undo : MonoF fX10_undo := mono_f 1 lX10_undo
theorem aX10_undo_0 (K : Kt) : tl K (lX10_undo) 0 = o_aload 0 1 := rfl
theorem aX10_undo_1 (K : Kt) : tl K (lX10_undo) 1 = o_callV fX10_hasText 0 10 4 := rfl
theorem aX10_undo_4 (K : Kt) : tl K (lX10_undo) 4 = o_if_ne 13 7 := rfl
theorem aX10_undo_7 (K : Kt) : tl K (lX10_undo) 7 = o_aload 0 8 := rfl
theorem aX10_undo_8 (K : Kt) : tl K (lX10_undo) 8 = o_pushI (nI 1) 9 := rfl
theorem aX10_undo_9 (K : Kt) : tl K (lX10_undo) 9 = o_callV fX10_refuse 1 10 12 := rfl
theorem aX10_undo_12 (K : Kt) : tl K (lX10_undo) 12 = o_iret K := rfl
theorem aX10_undo_13 (K : Kt) : tl K (lX10_undo) 13 = o_aload 0 14 := rfl
theorem aX10_undo_14 (K : Kt) : tl K (lX10_undo) 14 = o_get 10 9 17 := rfl
theorem aX10_undo_17 (K : Kt) : tl K (lX10_undo) 17 = o_get 4 4 20 := rfl
theorem aX10_undo_20 (K : Kt) : tl K (lX10_undo) 20 = o_if_ne 29 23 := rfl
theorem aX10_undo_23 (K : Kt) : tl K (lX10_undo) 23 = o_aload 0 24 := rfl
theorem aX10_undo_24 (K : Kt) : tl K (lX10_undo) 24 = o_pushI (nI 5) 25 := rfl
theorem aX10_undo_25 (K : Kt) : tl K (lX10_undo) 25 = o_callV fX10_refuse 1 10 28 := rfl
theorem aX10_undo_28 (K : Kt) : tl K (lX10_undo) 28 = o_iret K := rfl
theorem aX10_undo_29 (K : Kt) : tl K (lX10_undo) 29 = o_aload 0 30 := rfl
theorem aX10_undo_30 (K : Kt) : tl K (lX10_undo) 30 = o_get 10 9 33 := rfl
theorem aX10_undo_33 (K : Kt) : tl K (lX10_undo) 33 = o_callV fX4_goBack 0 4 36 := rfl
theorem aX10_undo_36 (K : Kt) : tl K (lX10_undo) 36 = o_aload 0 37 := rfl
theorem aX10_undo_37 (K : Kt) : tl K (lX10_undo) 37 = o_aload 0 38 := rfl
theorem aX10_undo_38 (K : Kt) : tl K (lX10_undo) 38 = o_get 10 9 41 := rfl
theorem aX10_undo_41 (K : Kt) : tl K (lX10_undo) 41 = o_get 4 4 44 := rfl
theorem aX10_undo_44 (K : Kt) : tl K (lX10_undo) 44 = o_callV fX10_answer 1 10 47 := rfl
theorem aX10_undo_47 (K : Kt) : tl K (lX10_undo) 47 = o_iret K := rfl
theorem eX10_size {As L : List Value} {w : Wd} {K : Kt} (hw : wds As ≤ 1) (hL : ent 1 As = L) (h : RR (tl K lX10_size) 0 L [] w) : fX10_size As w K := ⟨hw, by rw [hL]; exact h⟩
theorem nX10_size : MonoF fX10_size := mono_f 1 lX10_size
theorem aX10_size_0 (K : Kt) : tl K (lX10_size) 0 = o_aload 0 1 := rfl
theorem aX10_size_1 (K : Kt) : tl K (lX10_size) 1 = o_get 10 0 4 := rfl
theorem aX10_size_4 (K : Kt) : tl K (lX10_size) 4 = o_get 8 1 7 := rfl
theorem aX10_size_7 (K : Kt) : tl K (lX10_size) 7 = o_iret K := rfl
theorem eX10_trouble {As L : List Value} {w : Wd} {K : Kt} (hw : wds As ≤ 1) (hL : ent 1 As = L) (h : RR (tl K lX10_trouble) 0 L [] w) : fX10_trouble As w K := ⟨hw, by rw [hL]; exact h⟩
theorem nX10_trouble : MonoF fX10_trouble := mono_f 1 lX10_trouble
theorem aX10_trouble_0 (K : Kt) : tl K (lX10_trouble) 0 = o_aload 0 1 := rfl
theorem aX10_trouble_1 (K : Kt) : tl K (lX10_trouble) 1 = o_get 10 10 4 := rfl
theorem aX10_trouble_4 (K : Kt) : tl K (lX10_trouble) 4 = o_iret K := rfl
theorem eX11_thrown {As L : List Value} {w : Wd} {K : Kt} (hw : wds As ≤ 1) (hL : ent 1 As = L) (h : RR (tl K lX11_thrown) 0 L [] w) : fX11_thrown As w K := ⟨hw, by rw [hL]; exact h⟩
theorem nX11_thrown : MonoF fX11_thrown := mono_f 1 lX11_thrown
theorem aX11_thrown_0 (K : Kt) : tl K (lX11_thrown) 0 = o_aload 0 1 := rfl
theorem aX11_thrown_1 (K : Kt) : tl K (lX11_thrown) 1 = o_get 11 0 4 := rfl
theorem aX11_thrown_4 (K : Kt) : tl K (lX11_thrown) 4 = o_iret K := rfl
theorem eX11_in {As L : List Value} {w : Wd} {K : Kt} (hw : wds As ≤ 3) (hL : ent 3 As = L) (h : RR (tl K lX11_in) 0 L [] w) : fX11_in As w K := ⟨hw, by rw [hL]; exact h⟩
theorem nX11_in : MonoF fX11_in := mono_f 3 lX11_in
theorem aX11_in_0 (K : Kt) : tl K (lX11_in) 0 = o_iload 0 1 := rfl
theorem aX11_in_1 (K : Kt) : tl K (lX11_in) 1 = o_iload 1 2 := rfl
theorem aX11_in_2 (K : Kt) : tl K (lX11_in) 2 = o_icmp_lt 14 5 := rfl
theorem aX11_in_5 (K : Kt) : tl K (lX11_in) 5 = o_iload 0 6 := rfl
theorem aX11_in_6 (K : Kt) : tl K (lX11_in) 6 = o_iload 2 7 := rfl
theorem aX11_in_7 (K : Kt) : tl K (lX11_in) 7 = o_icmp_gt 14 10 := rfl
theorem aX11_in_10 (K : Kt) : tl K (lX11_in) 10 = o_pushI (nI 1) 11 := rfl
theorem aX11_in_11 (K : Kt) : tl K (lX11_in) 11 = o_goto 15 := rfl
theorem aX11_in_14 (K : Kt) : tl K (lX11_in) 14 = o_pushI (nI 0) 15 := rfl
theorem aX11_in_15 (K : Kt) : tl K (lX11_in) 15 = o_zret K := rfl
theorem eX11_lesser {As L : List Value} {w : Wd} {K : Kt} (hw : wds As ≤ 2) (hL : ent 2 As = L) (h : RR (tl K lX11_lesser) 0 L [] w) : fX11_lesser As w K := ⟨hw, by rw [hL]; exact h⟩
theorem nX11_lesser : MonoF fX11_lesser := mono_f 2 lX11_lesser
theorem aX11_lesser_0 (K : Kt) : tl K (lX11_lesser) 0 = o_iload 0 1 := rfl
theorem aX11_lesser_1 (K : Kt) : tl K (lX11_lesser) 1 = o_iload 1 2 := rfl
theorem aX11_lesser_2 (K : Kt) : tl K (lX11_lesser) 2 = o_icmp_ge 9 5 := rfl
theorem aX11_lesser_5 (K : Kt) : tl K (lX11_lesser) 5 = o_iload 0 6 := rfl
theorem aX11_lesser_6 (K : Kt) : tl K (lX11_lesser) 6 = o_goto 10 := rfl
theorem aX11_lesser_9 (K : Kt) : tl K (lX11_lesser) 9 = o_iload 1 10 := rfl
theorem aX11_lesser_10 (K : Kt) : tl K (lX11_lesser) 10 = o_iret K := rfl
theorem eX11_no {As L : List Value} {w : Wd} {K : Kt} (hw : wds As ≤ 2) (hL : ent 2 As = L) (h : RR (tl K lX11_no) 0 L [] w) : fX11_no As w K := ⟨hw, by rw [hL]; exact h⟩
theorem nX11_no : MonoF fX11_no := mono_f 2 lX11_no
theorem aX11_no_0 (K : Kt) : tl K (lX11_no) 0 = o_aload 0 1 := rfl
theorem aX11_no_1 (K : Kt) : tl K (lX11_no) 1 = o_iload 1 2 := rfl
theorem aX11_no_2 (K : Kt) : tl K (lX11_no) 2 = o_putI 11 1 5 := rfl
theorem aX11_no_5 (K : Kt) : tl K (lX11_no) 5 = o_pushI ((-1)) 6 := rfl
theorem aX11_no_6 (K : Kt) : tl K (lX11_no) 6 = o_iret K := rfl
theorem eX11_isRefused {As L : List Value} {w : Wd} {K : Kt} (hw : wds As ≤ 2) (hL : ent 2 As = L) (h : RR (tl K lX11_isRefused) 0 L [] w) : fX11_isRefused As w K := ⟨hw, by rw [hL]; exact h⟩
theorem nX11_isRefused : MonoF fX11_isRefused := mono_f 2 lX11_isRefused
theorem aX11_isRefused_0 (K : Kt) : tl K (lX11_isRefused) 0 = o_aload 0 1 := rfl
theorem aX11_isRefused_1 (K : Kt) : tl K (lX11_isRefused) 1 = o_pushI (nI 0) 2 := rfl
theorem aX11_isRefused_2 (K : Kt) : tl K (lX11_isRefused) 2 = o_putI 11 0 5 := rfl
theorem aX11_isRefused_5 (K : Kt) : tl K (lX11_isRefused) 5 = o_aload 0 6 := rfl
theorem aX11_isRefused_6 (K : Kt) : tl K (lX11_isRefused) 6 = o_pushI ((-1)) 7 := rfl
theorem aX11_isRefused_7 (K : Kt) : tl K (lX11_isRefused) 7 = o_putI 11 3 10 := rfl
theorem aX11_isRefused_10 (K : Kt) : tl K (lX11_isRefused) 10 = o_aload 0 11 := rfl
theorem aX11_isRefused_11 (K : Kt) : tl K (lX11_isRefused) 11 = o_iload 1 12 := rfl
theorem aX11_isRefused_12 (K : Kt) : tl K (lX11_isRefused) 12 = o_putI 11 1 15 := rfl
theorem aX11_isRefused_15 (K : Kt) : tl K (lX11_isRefused) 15 = o_iload 1 16 := rfl
theorem aX11_isRefused_16 (K : Kt) : tl K (lX11_isRefused) 16 = o_if_eq 23 19 := rfl
theorem aX11_isRefused_19 (K : Kt) : tl K (lX11_isRefused) 19 = o_pushI (nI 1) 20 := rfl
theorem aX11_isRefused_20 (K : Kt) : tl K (lX11_isRefused) 20 = o_goto 24 := rfl
theorem aX11_isRefused_23 (K : Kt) : tl K (lX11_isRefused) 23 = o_pushI (nI 0) 24 := rfl
theorem aX11_isRefused_24 (K : Kt) : tl K (lX11_isRefused) 24 = o_zret K := rfl
theorem eX11_unless {As L : List Value} {w : Wd} {K : Kt} (hw : wds As ≤ 1) (hL : ent 1 As = L) (h : RR (tl K lX11_unless) 0 L [] w) : fX11_unless As w K := ⟨hw, by rw [hL]; exact h⟩
theorem nX11_unless : MonoF fX11_unless := mono_f 1 lX11_unless
theorem aX11_unless_0 (K : Kt) : tl K (lX11_unless) 0 = o_iload 0 1 := rfl
theorem aX11_unless_1 (K : Kt) : tl K (lX11_unless) 1 = o_if_eq 8 4 := rfl
theorem aX11_unless_4 (K : Kt) : tl K (lX11_unless) 4 = o_pushI (nI 0) 5 := rfl
theorem aX11_unless_5 (K : Kt) : tl K (lX11_unless) 5 = o_goto 9 := rfl
theorem aX11_unless_8 (K : Kt) : tl K (lX11_unless) 8 = o_pushI (nI 1) 9 := rfl
theorem aX11_unless_9 (K : Kt) : tl K (lX11_unless) 9 = o_iret K := rfl
theorem eX11_unless_ {As L : List Value} {w : Wd} {K : Kt} (hw : wds As ≤ 2) (hL : ent 2 As = L) (h : RR (tl K lX11_unless_) 0 L [] w) : fX11_unless_ As w K := ⟨hw, by rw [hL]; exact h⟩
theorem nX11_unless_ : MonoF fX11_unless_ := mono_f 2 lX11_unless_
theorem aX11_unless__0 (K : Kt) : tl K (lX11_unless_) 0 = o_iload 0 1 := rfl
theorem aX11_unless__1 (K : Kt) : tl K (lX11_unless_) 1 = o_if_ne 8 4 := rfl
theorem aX11_unless__4 (K : Kt) : tl K (lX11_unless_) 4 = o_pushI (nI 1) 5 := rfl
theorem aX11_unless__5 (K : Kt) : tl K (lX11_unless_) 5 = o_goto 17 := rfl
theorem aX11_unless__8 (K : Kt) : tl K (lX11_unless_) 8 = o_iload 1 9 := rfl
theorem aX11_unless__9 (K : Kt) : tl K (lX11_unless_) 9 = o_if_eq 16 12 := rfl
theorem aX11_unless__12 (K : Kt) : tl K (lX11_unless_) 12 = o_pushI (nI 0) 13 := rfl
theorem aX11_unless__13 (K : Kt) : tl K (lX11_unless_) 13 = o_goto 17 := rfl
theorem aX11_unless__16 (K : Kt) : tl K (lX11_unless_) 16 = o_pushI (nI 2) 17 := rfl
theorem aX11_unless__17 (K : Kt) : tl K (lX11_unless_) 17 = o_iret K := rfl
theorem eX11_laysWord {As L : List Value} {w : Wd} {K : Kt} (hw : wds As ≤ 3) (hL : ent 3 As = L) (h : RR (tl K lX11_laysWord) 0 L [] w) : fX11_laysWord As w K := ⟨hw, by rw [hL]; exact h⟩
theorem nX11_laysWord : MonoF fX11_laysWord := mono_f 3 lX11_laysWord
theorem aX11_laysWord_0 (K : Kt) : tl K (lX11_laysWord) 0 = o_pushI (nI 0) 1 := rfl
theorem aX11_laysWord_1 (K : Kt) : tl K (lX11_laysWord) 1 = o_istore 2 2 := rfl
theorem aX11_laysWord_2 (K : Kt) : tl K (lX11_laysWord) 2 = o_iload 2 3 := rfl
theorem aX11_laysWord_3 (K : Kt) : tl K (lX11_laysWord) 3 = o_pushI (nI 4) 4 := rfl
theorem aX11_laysWord_4 (K : Kt) : tl K (lX11_laysWord) 4 = o_icmp_ge 37 7 := rfl
theorem aX11_laysWord_7 (K : Kt) : tl K (lX11_laysWord) 7 = o_aload 0 8 := rfl
theorem aX11_laysWord_8 (K : Kt) : tl K (lX11_laysWord) 8 = o_get 11 4 11 := rfl
theorem aX11_laysWord_11 (K : Kt) : tl K (lX11_laysWord) 11 = o_aload 0 12 := rfl
theorem aX11_laysWord_12 (K : Kt) : tl K (lX11_laysWord) 12 = o_get 11 5 15 := rfl
theorem aX11_laysWord_15 (K : Kt) : tl K (lX11_laysWord) 15 = o_iload 2 16 := rfl
theorem aX11_laysWord_16 (K : Kt) : tl K (lX11_laysWord) 16 = o_iadd 17 := rfl
theorem aX11_laysWord_17 (K : Kt) : tl K (lX11_laysWord) 17 = o_iload 1 18 := rfl
theorem aX11_laysWord_18 (K : Kt) : tl K (lX11_laysWord) 18 = o_pushI (nI 24) 20 := rfl
theorem aX11_laysWord_20 (K : Kt) : tl K (lX11_laysWord) 20 = o_pushI (nI 8) 22 := rfl
theorem aX11_laysWord_22 (K : Kt) : tl K (lX11_laysWord) 22 = o_iload 2 23 := rfl
theorem aX11_laysWord_23 (K : Kt) : tl K (lX11_laysWord) 23 = o_imul 24 := rfl
theorem aX11_laysWord_24 (K : Kt) : tl K (lX11_laysWord) 24 = o_isub 25 := rfl
theorem aX11_laysWord_25 (K : Kt) : tl K (lX11_laysWord) 25 = o_ishr 26 := rfl
theorem aX11_laysWord_26 (K : Kt) : tl K (lX11_laysWord) 26 = o_pushI (nI 255) 29 := rfl
theorem aX11_laysWord_29 (K : Kt) : tl K (lX11_laysWord) 29 = o_iand 30 := rfl
theorem aX11_laysWord_30 (K : Kt) : tl K (lX11_laysWord) 30 = o_iast 31 := rfl
theorem aX11_laysWord_31 (K : Kt) : tl K (lX11_laysWord) 31 = o_iinc 2 (nI 1) 34 := rfl
theorem aX11_laysWord_34 (K : Kt) : tl K (lX11_laysWord) 34 = o_goto 2 := rfl
theorem aX11_laysWord_37 (K : Kt) : tl K (lX11_laysWord) 37 = o_aload 0 38 := rfl
theorem aX11_laysWord_38 (K : Kt) : tl K (lX11_laysWord) 38 = o_dup 39 := rfl
theorem aX11_laysWord_39 (K : Kt) : tl K (lX11_laysWord) 39 = o_get 11 5 42 := rfl
theorem aX11_laysWord_42 (K : Kt) : tl K (lX11_laysWord) 42 = o_pushI (nI 4) 43 := rfl
theorem aX11_laysWord_43 (K : Kt) : tl K (lX11_laysWord) 43 = o_iadd 44 := rfl
theorem aX11_laysWord_44 (K : Kt) : tl K (lX11_laysWord) 44 = o_putI 11 5 47 := rfl
theorem aX11_laysWord_47 (K : Kt) : tl K (lX11_laysWord) 47 = o_vret K := rfl
theorem eX11_feed {As L : List Value} {w : Wd} {K : Kt} (hw : wds As ≤ 6) (hL : ent 6 As = L) (h : RR (tl K lX11_feed) 0 L [] w) : fX11_feed As w K := ⟨hw, by rw [hL]; exact h⟩
theorem nX11_feed : MonoF fX11_feed := mono_f 6 lX11_feed
theorem aX11_feed_0 (K : Kt) : tl K (lX11_feed) 0 = o_aload 0 1 := rfl
theorem aX11_feed_1 (K : Kt) : tl K (lX11_feed) 1 = o_pushI (nI 0) 2 := rfl
theorem aX11_feed_2 (K : Kt) : tl K (lX11_feed) 2 = o_putI 11 0 5 := rfl
theorem aX11_feed_5 (K : Kt) : tl K (lX11_feed) 5 = o_aload 0 6 := rfl
theorem aX11_feed_6 (K : Kt) : tl K (lX11_feed) 6 = o_get 11 5 9 := rfl
theorem aX11_feed_9 (K : Kt) : tl K (lX11_feed) 9 = o_pushI (nI 780) 12 := rfl
theorem aX11_feed_12 (K : Kt) : tl K (lX11_feed) 12 = o_icmp_le 17 15 := rfl
theorem aX11_feed_15 (K : Kt) : tl K (lX11_feed) 15 = o_pushI ((-1)) 16 := rfl
theorem aX11_feed_16 (K : Kt) : tl K (lX11_feed) 16 = o_iret K := rfl
theorem aX11_feed_17 (K : Kt) : tl K (lX11_feed) 17 = o_aload 0 18 := rfl
theorem aX11_feed_18 (K : Kt) : tl K (lX11_feed) 18 = o_iload 1 19 := rfl
theorem aX11_feed_19 (K : Kt) : tl K (lX11_feed) 19 = o_callV fX11_laysWord 1 11 22 := rfl
theorem aX11_feed_22 (K : Kt) : tl K (lX11_feed) 22 = o_aload 0 23 := rfl
theorem aX11_feed_23 (K : Kt) : tl K (lX11_feed) 23 = o_iload 2 24 := rfl
theorem aX11_feed_24 (K : Kt) : tl K (lX11_feed) 24 = o_callV fX11_laysWord 1 11 27 := rfl
theorem aX11_feed_27 (K : Kt) : tl K (lX11_feed) 27 = o_aload 0 28 := rfl
theorem aX11_feed_28 (K : Kt) : tl K (lX11_feed) 28 = o_iload 3 29 := rfl
theorem aX11_feed_29 (K : Kt) : tl K (lX11_feed) 29 = o_callV fX11_laysWord 1 11 32 := rfl
theorem aX11_feed_32 (K : Kt) : tl K (lX11_feed) 32 = o_aload 0 33 := rfl
theorem aX11_feed_33 (K : Kt) : tl K (lX11_feed) 33 = o_iload 4 35 := rfl
theorem aX11_feed_35 (K : Kt) : tl K (lX11_feed) 35 = o_callV fX11_laysWord 1 11 38 := rfl
theorem aX11_feed_38 (K : Kt) : tl K (lX11_feed) 38 = o_aload 0 39 := rfl
theorem aX11_feed_39 (K : Kt) : tl K (lX11_feed) 39 = o_iload 5 41 := rfl
theorem aX11_feed_41 (K : Kt) : tl K (lX11_feed) 41 = o_callV fX11_laysWord 1 11 44 := rfl
theorem aX11_feed_44 (K : Kt) : tl K (lX11_feed) 44 = o_aload 0 45 := rfl
theorem aX11_feed_45 (K : Kt) : tl K (lX11_feed) 45 = o_get 11 5 48 := rfl
theorem aX11_feed_48 (K : Kt) : tl K (lX11_feed) 48 = o_iret K := rfl
theorem eX11_see {As L : List Value} {w : Wd} {K : Kt} (hw : wds As ≤ 2) (hL : ent 2 As = L) (h : RR (tl K lX11_see) 0 L [] w) : fX11_see As w K := ⟨hw, by rw [hL]; exact h⟩
theorem nX11_see : MonoF fX11_see := mono_f 2 lX11_see
theorem aX11_see_0 (K : Kt) : tl K (lX11_see) 0 = o_iload 1 1 := rfl
theorem aX11_see_1 (K : Kt) : tl K (lX11_see) 1 = o_aload 0 2 := rfl
theorem aX11_see_2 (K : Kt) : tl K (lX11_see) 2 = o_get 11 11 5 := rfl
theorem aX11_see_5 (K : Kt) : tl K (lX11_see) 5 = o_icmp_ge 17 8 := rfl
theorem aX11_see_8 (K : Kt) : tl K (lX11_see) 8 = o_aload 0 9 := rfl
theorem aX11_see_9 (K : Kt) : tl K (lX11_see) 9 = o_get 11 4 12 := rfl
theorem aX11_see_12 (K : Kt) : tl K (lX11_see) 12 = o_iload 1 13 := rfl
theorem aX11_see_13 (K : Kt) : tl K (lX11_see) 13 = o_iald 14 := rfl
theorem aX11_see_14 (K : Kt) : tl K (lX11_see) 14 = o_goto 18 := rfl
theorem aX11_see_17 (K : Kt) : tl K (lX11_see) 17 = o_pushI ((-1)) 18 := rfl
theorem aX11_see_18 (K : Kt) : tl K (lX11_see) 18 = o_iret K := rfl
theorem eX11_goesOn {As L : List Value} {w : Wd} {K : Kt} (hw : wds As ≤ 2) (hL : ent 2 As = L) (h : RR (tl K lX11_goesOn) 0 L [] w) : fX11_goesOn As w K := ⟨hw, by rw [hL]; exact h⟩
theorem nX11_goesOn : MonoF fX11_goesOn := mono_f 2 lX11_goesOn
theorem aX11_goesOn_0 (K : Kt) : tl K (lX11_goesOn) 0 = o_aload 0 1 := rfl
theorem aX11_goesOn_1 (K : Kt) : tl K (lX11_goesOn) 1 = o_aload 0 2 := rfl
theorem aX11_goesOn_2 (K : Kt) : tl K (lX11_goesOn) 2 = o_get 11 13 5 := rfl
theorem aX11_goesOn_5 (K : Kt) : tl K (lX11_goesOn) 5 = o_callV fX11_see 1 11 8 := rfl
theorem aX11_goesOn_8 (K : Kt) : tl K (lX11_goesOn) 8 = o_pushI (nI 32) 10 := rfl
theorem aX11_goesOn_10 (K : Kt) : tl K (lX11_goesOn) 10 = o_icmp_ne 26 13 := rfl
theorem aX11_goesOn_13 (K : Kt) : tl K (lX11_goesOn) 13 = o_aload 0 14 := rfl
theorem aX11_goesOn_14 (K : Kt) : tl K (lX11_goesOn) 14 = o_dup 15 := rfl
theorem aX11_goesOn_15 (K : Kt) : tl K (lX11_goesOn) 15 = o_get 11 13 18 := rfl
theorem aX11_goesOn_18 (K : Kt) : tl K (lX11_goesOn) 18 = o_pushI (nI 1) 19 := rfl
theorem aX11_goesOn_19 (K : Kt) : tl K (lX11_goesOn) 19 = o_iadd 20 := rfl
theorem aX11_goesOn_20 (K : Kt) : tl K (lX11_goesOn) 20 = o_putI 11 13 23 := rfl
theorem aX11_goesOn_23 (K : Kt) : tl K (lX11_goesOn) 23 = o_goto 0 := rfl
theorem aX11_goesOn_26 (K : Kt) : tl K (lX11_goesOn) 26 = o_aload 0 27 := rfl
theorem aX11_goesOn_27 (K : Kt) : tl K (lX11_goesOn) 27 = o_aload 0 28 := rfl
theorem aX11_goesOn_28 (K : Kt) : tl K (lX11_goesOn) 28 = o_get 11 13 31 := rfl
theorem aX11_goesOn_31 (K : Kt) : tl K (lX11_goesOn) 31 = o_putI 11 12 34 := rfl
theorem aX11_goesOn_34 (K : Kt) : tl K (lX11_goesOn) 34 = o_aload 0 35 := rfl
theorem aX11_goesOn_35 (K : Kt) : tl K (lX11_goesOn) 35 = o_aload 0 36 := rfl
theorem aX11_goesOn_36 (K : Kt) : tl K (lX11_goesOn) 36 = o_get 11 13 39 := rfl
theorem aX11_goesOn_39 (K : Kt) : tl K (lX11_goesOn) 39 = o_callV fX11_see 1 11 42 := rfl
theorem aX11_goesOn_42 (K : Kt) : tl K (lX11_goesOn) 42 = o_istore 1 43 := rfl
theorem aX11_goesOn_43 (K : Kt) : tl K (lX11_goesOn) 43 = o_iload 1 44 := rfl
theorem aX11_goesOn_44 (K : Kt) : tl K (lX11_goesOn) 44 = o_pushI ((-1)) 45 := rfl
theorem aX11_goesOn_45 (K : Kt) : tl K (lX11_goesOn) 45 = o_icmp_ne 54 48 := rfl
theorem aX11_goesOn_48 (K : Kt) : tl K (lX11_goesOn) 48 = o_aload 0 49 := rfl
theorem aX11_goesOn_49 (K : Kt) : tl K (lX11_goesOn) 49 = o_pushI (nI 0) 50 := rfl
theorem aX11_goesOn_50 (K : Kt) : tl K (lX11_goesOn) 50 = o_putI 11 14 53 := rfl
theorem aX11_goesOn_53 (K : Kt) : tl K (lX11_goesOn) 53 = o_vret K := rfl
theorem aX11_goesOn_54 (K : Kt) : tl K (lX11_goesOn) 54 = o_iload 1 55 := rfl
theorem aX11_goesOn_55 (K : Kt) : tl K (lX11_goesOn) 55 = o_pushI (nI 97) 57 := rfl
theorem aX11_goesOn_57 (K : Kt) : tl K (lX11_goesOn) 57 = o_pushI (nI 122) 59 := rfl
theorem aX11_goesOn_59 (K : Kt) : tl K (lX11_goesOn) 59 = o_callS fX11_in 3 62 := rfl
theorem aX11_goesOn_62 (K : Kt) : tl K (lX11_goesOn) 62 = o_if_eq 120 65 := rfl
theorem aX11_goesOn_65 (K : Kt) : tl K (lX11_goesOn) 65 = o_aload 0 66 := rfl
theorem aX11_goesOn_66 (K : Kt) : tl K (lX11_goesOn) 66 = o_aload 0 67 := rfl
theorem aX11_goesOn_67 (K : Kt) : tl K (lX11_goesOn) 67 = o_get 11 13 70 := rfl
theorem aX11_goesOn_70 (K : Kt) : tl K (lX11_goesOn) 70 = o_callV fX11_see 1 11 73 := rfl
theorem aX11_goesOn_73 (K : Kt) : tl K (lX11_goesOn) 73 = o_pushI (nI 97) 75 := rfl
theorem aX11_goesOn_75 (K : Kt) : tl K (lX11_goesOn) 75 = o_pushI (nI 122) 77 := rfl
theorem aX11_goesOn_77 (K : Kt) : tl K (lX11_goesOn) 77 = o_callS fX11_in 3 80 := rfl
theorem aX11_goesOn_80 (K : Kt) : tl K (lX11_goesOn) 80 = o_if_eq 96 83 := rfl
theorem aX11_goesOn_83 (K : Kt) : tl K (lX11_goesOn) 83 = o_aload 0 84 := rfl
theorem aX11_goesOn_84 (K : Kt) : tl K (lX11_goesOn) 84 = o_dup 85 := rfl
theorem aX11_goesOn_85 (K : Kt) : tl K (lX11_goesOn) 85 = o_get 11 13 88 := rfl
theorem aX11_goesOn_88 (K : Kt) : tl K (lX11_goesOn) 88 = o_pushI (nI 1) 89 := rfl
theorem aX11_goesOn_89 (K : Kt) : tl K (lX11_goesOn) 89 = o_iadd 90 := rfl
theorem aX11_goesOn_90 (K : Kt) : tl K (lX11_goesOn) 90 = o_putI 11 13 93 := rfl
theorem aX11_goesOn_93 (K : Kt) : tl K (lX11_goesOn) 93 = o_goto 65 := rfl
theorem aX11_goesOn_96 (K : Kt) : tl K (lX11_goesOn) 96 = o_aload 0 97 := rfl
theorem aX11_goesOn_97 (K : Kt) : tl K (lX11_goesOn) 97 = o_aload 0 98 := rfl
theorem aX11_goesOn_98 (K : Kt) : tl K (lX11_goesOn) 98 = o_get 11 13 101 := rfl
theorem aX11_goesOn_101 (K : Kt) : tl K (lX11_goesOn) 101 = o_aload 0 102 := rfl
theorem aX11_goesOn_102 (K : Kt) : tl K (lX11_goesOn) 102 = o_get 11 12 105 := rfl
theorem aX11_goesOn_105 (K : Kt) : tl K (lX11_goesOn) 105 = o_isub 106 := rfl
theorem aX11_goesOn_106 (K : Kt) : tl K (lX11_goesOn) 106 = o_pushI (nI 7) 108 := rfl
theorem aX11_goesOn_108 (K : Kt) : tl K (lX11_goesOn) 108 = o_icmp_le 115 111 := rfl
theorem aX11_goesOn_111 (K : Kt) : tl K (lX11_goesOn) 111 = o_pushI (nI 1) 112 := rfl
theorem aX11_goesOn_112 (K : Kt) : tl K (lX11_goesOn) 112 = o_goto 116 := rfl
theorem aX11_goesOn_115 (K : Kt) : tl K (lX11_goesOn) 115 = o_pushI (nI 2) 116 := rfl
theorem aX11_goesOn_116 (K : Kt) : tl K (lX11_goesOn) 116 = o_putI 11 14 119 := rfl
set_option maxRecDepth 8000 in
theorem aX11_goesOn_119 (K : Kt) : tl K (lX11_goesOn) 119 = o_vret K := rfl
set_option maxRecDepth 8000 in
theorem aX11_goesOn_120 (K : Kt) : tl K (lX11_goesOn) 120 = o_iload 1 121 := rfl
set_option maxRecDepth 8000 in
theorem aX11_goesOn_121 (K : Kt) : tl K (lX11_goesOn) 121 = o_pushI (nI 48) 123 := rfl
set_option maxRecDepth 8000 in
theorem aX11_goesOn_123 (K : Kt) : tl K (lX11_goesOn) 123 = o_pushI (nI 57) 125 := rfl
set_option maxRecDepth 8000 in
theorem aX11_goesOn_125 (K : Kt) : tl K (lX11_goesOn) 125 = o_callS fX11_in 3 128 := rfl
set_option maxRecDepth 8000 in
theorem aX11_goesOn_128 (K : Kt) : tl K (lX11_goesOn) 128 = o_if_eq 233 131 := rfl
set_option maxRecDepth 8000 in
theorem aX11_goesOn_131 (K : Kt) : tl K (lX11_goesOn) 131 = o_aload 0 132 := rfl
set_option maxRecDepth 8000 in
theorem aX11_goesOn_132 (K : Kt) : tl K (lX11_goesOn) 132 = o_pushI (nI 0) 133 := rfl
set_option maxRecDepth 8000 in
theorem aX11_goesOn_133 (K : Kt) : tl K (lX11_goesOn) 133 = o_putI 11 15 136 := rfl
set_option maxRecDepth 8000 in
theorem aX11_goesOn_136 (K : Kt) : tl K (lX11_goesOn) 136 = o_aload 0 137 := rfl
set_option maxRecDepth 8000 in
theorem aX11_goesOn_137 (K : Kt) : tl K (lX11_goesOn) 137 = o_aload 0 138 := rfl
set_option maxRecDepth 8000 in
theorem aX11_goesOn_138 (K : Kt) : tl K (lX11_goesOn) 138 = o_get 11 13 141 := rfl
set_option maxRecDepth 8000 in
theorem aX11_goesOn_141 (K : Kt) : tl K (lX11_goesOn) 141 = o_callV fX11_see 1 11 144 := rfl
set_option maxRecDepth 8000 in
theorem aX11_goesOn_144 (K : Kt) : tl K (lX11_goesOn) 144 = o_pushI (nI 48) 146 := rfl
set_option maxRecDepth 8000 in
theorem aX11_goesOn_146 (K : Kt) : tl K (lX11_goesOn) 146 = o_pushI (nI 57) 148 := rfl
set_option maxRecDepth 8000 in
theorem aX11_goesOn_148 (K : Kt) : tl K (lX11_goesOn) 148 = o_callS fX11_in 3 151 := rfl
set_option maxRecDepth 8000 in
theorem aX11_goesOn_151 (K : Kt) : tl K (lX11_goesOn) 151 = o_if_eq 210 154 := rfl
set_option maxRecDepth 8000 in
theorem aX11_goesOn_154 (K : Kt) : tl K (lX11_goesOn) 154 = o_aload 0 155 := rfl
set_option maxRecDepth 8000 in
theorem aX11_goesOn_155 (K : Kt) : tl K (lX11_goesOn) 155 = o_aload 0 156 := rfl
set_option maxRecDepth 8000 in
theorem aX11_goesOn_156 (K : Kt) : tl K (lX11_goesOn) 156 = o_get 11 13 159 := rfl
set_option maxRecDepth 8000 in
theorem aX11_goesOn_159 (K : Kt) : tl K (lX11_goesOn) 159 = o_aload 0 160 := rfl
set_option maxRecDepth 8000 in
theorem aX11_goesOn_160 (K : Kt) : tl K (lX11_goesOn) 160 = o_get 11 12 163 := rfl
set_option maxRecDepth 8000 in
theorem aX11_goesOn_163 (K : Kt) : tl K (lX11_goesOn) 163 = o_isub 164 := rfl
set_option maxRecDepth 8000 in
theorem aX11_goesOn_164 (K : Kt) : tl K (lX11_goesOn) 164 = o_pushI (nI 3) 165 := rfl
set_option maxRecDepth 8000 in
theorem aX11_goesOn_165 (K : Kt) : tl K (lX11_goesOn) 165 = o_icmp_ge 190 168 := rfl
set_option maxRecDepth 8000 in
theorem aX11_goesOn_168 (K : Kt) : tl K (lX11_goesOn) 168 = o_pushI (nI 10) 170 := rfl
set_option maxRecDepth 8000 in
theorem aX11_goesOn_170 (K : Kt) : tl K (lX11_goesOn) 170 = o_aload 0 171 := rfl
set_option maxRecDepth 8000 in
theorem aX11_goesOn_171 (K : Kt) : tl K (lX11_goesOn) 171 = o_get 11 15 174 := rfl
set_option maxRecDepth 8000 in
theorem aX11_goesOn_174 (K : Kt) : tl K (lX11_goesOn) 174 = o_imul 175 := rfl
set_option maxRecDepth 8000 in
theorem aX11_goesOn_175 (K : Kt) : tl K (lX11_goesOn) 175 = o_aload 0 176 := rfl
set_option maxRecDepth 8000 in
theorem aX11_goesOn_176 (K : Kt) : tl K (lX11_goesOn) 176 = o_aload 0 177 := rfl
set_option maxRecDepth 8000 in
theorem aX11_goesOn_177 (K : Kt) : tl K (lX11_goesOn) 177 = o_get 11 13 180 := rfl
set_option maxRecDepth 8000 in
theorem aX11_goesOn_180 (K : Kt) : tl K (lX11_goesOn) 180 = o_callV fX11_see 1 11 183 := rfl
set_option maxRecDepth 8000 in
theorem aX11_goesOn_183 (K : Kt) : tl K (lX11_goesOn) 183 = o_iadd 184 := rfl
set_option maxRecDepth 8000 in
theorem aX11_goesOn_184 (K : Kt) : tl K (lX11_goesOn) 184 = o_pushI (nI 48) 186 := rfl
set_option maxRecDepth 8000 in
theorem aX11_goesOn_186 (K : Kt) : tl K (lX11_goesOn) 186 = o_isub 187 := rfl
set_option maxRecDepth 8000 in
theorem aX11_goesOn_187 (K : Kt) : tl K (lX11_goesOn) 187 = o_goto 194 := rfl
set_option maxRecDepth 8000 in
theorem aX11_goesOn_190 (K : Kt) : tl K (lX11_goesOn) 190 = o_aload 0 191 := rfl
set_option maxRecDepth 8000 in
theorem aX11_goesOn_191 (K : Kt) : tl K (lX11_goesOn) 191 = o_get 11 15 194 := rfl
set_option maxRecDepth 8000 in
theorem aX11_goesOn_194 (K : Kt) : tl K (lX11_goesOn) 194 = o_putI 11 15 197 := rfl
set_option maxRecDepth 8000 in
theorem aX11_goesOn_197 (K : Kt) : tl K (lX11_goesOn) 197 = o_aload 0 198 := rfl
set_option maxRecDepth 8000 in
theorem aX11_goesOn_198 (K : Kt) : tl K (lX11_goesOn) 198 = o_dup 199 := rfl
set_option maxRecDepth 8000 in
theorem aX11_goesOn_199 (K : Kt) : tl K (lX11_goesOn) 199 = o_get 11 13 202 := rfl
set_option maxRecDepth 8000 in
theorem aX11_goesOn_202 (K : Kt) : tl K (lX11_goesOn) 202 = o_pushI (nI 1) 203 := rfl
set_option maxRecDepth 8000 in
theorem aX11_goesOn_203 (K : Kt) : tl K (lX11_goesOn) 203 = o_iadd 204 := rfl
set_option maxRecDepth 8000 in
theorem aX11_goesOn_204 (K : Kt) : tl K (lX11_goesOn) 204 = o_putI 11 13 207 := rfl
set_option maxRecDepth 8000 in
theorem aX11_goesOn_207 (K : Kt) : tl K (lX11_goesOn) 207 = o_goto 136 := rfl
set_option maxRecDepth 8000 in
theorem aX11_goesOn_210 (K : Kt) : tl K (lX11_goesOn) 210 = o_aload 0 211 := rfl
set_option maxRecDepth 8000 in
theorem aX11_goesOn_211 (K : Kt) : tl K (lX11_goesOn) 211 = o_aload 0 212 := rfl
set_option maxRecDepth 8000 in
theorem aX11_goesOn_212 (K : Kt) : tl K (lX11_goesOn) 212 = o_get 11 13 215 := rfl
set_option maxRecDepth 8000 in
theorem aX11_goesOn_215 (K : Kt) : tl K (lX11_goesOn) 215 = o_aload 0 216 := rfl
set_option maxRecDepth 8000 in
theorem aX11_goesOn_216 (K : Kt) : tl K (lX11_goesOn) 216 = o_get 11 12 219 := rfl
set_option maxRecDepth 8000 in
theorem aX11_goesOn_219 (K : Kt) : tl K (lX11_goesOn) 219 = o_isub 220 := rfl
set_option maxRecDepth 8000 in
theorem aX11_goesOn_220 (K : Kt) : tl K (lX11_goesOn) 220 = o_pushI (nI 3) 221 := rfl
set_option maxRecDepth 8000 in
theorem aX11_goesOn_221 (K : Kt) : tl K (lX11_goesOn) 221 = o_icmp_le 228 224 := rfl
set_option maxRecDepth 8000 in
theorem aX11_goesOn_224 (K : Kt) : tl K (lX11_goesOn) 224 = o_pushI (nI 1) 225 := rfl
set_option maxRecDepth 8000 in
theorem aX11_goesOn_225 (K : Kt) : tl K (lX11_goesOn) 225 = o_goto 229 := rfl
set_option maxRecDepth 8000 in
theorem aX11_goesOn_228 (K : Kt) : tl K (lX11_goesOn) 228 = o_pushI (nI 3) 229 := rfl
set_option maxRecDepth 8000 in
theorem aX11_goesOn_229 (K : Kt) : tl K (lX11_goesOn) 229 = o_putI 11 14 232 := rfl
set_option maxRecDepth 8000 in
theorem aX11_goesOn_232 (K : Kt) : tl K (lX11_goesOn) 232 = o_vret K := rfl
set_option maxRecDepth 8000 in
theorem aX11_goesOn_233 (K : Kt) : tl K (lX11_goesOn) 233 = o_aload 0 234 := rfl
set_option maxRecDepth 8000 in
theorem aX11_goesOn_234 (K : Kt) : tl K (lX11_goesOn) 234 = o_dup 235 := rfl
set_option maxRecDepth 8000 in
theorem aX11_goesOn_235 (K : Kt) : tl K (lX11_goesOn) 235 = o_get 11 13 238 := rfl
set_option maxRecDepth 8000 in
theorem aX11_goesOn_238 (K : Kt) : tl K (lX11_goesOn) 238 = o_pushI (nI 1) 239 := rfl
set_option maxRecDepth 8000 in
theorem aX11_goesOn_239 (K : Kt) : tl K (lX11_goesOn) 239 = o_iadd 240 := rfl
set_option maxRecDepth 8000 in
theorem aX11_goesOn_240 (K : Kt) : tl K (lX11_goesOn) 240 = o_putI 11 13 243 := rfl
set_option maxRecDepth 8000 in
theorem aX11_goesOn_243 (K : Kt) : tl K (lX11_goesOn) 243 = o_aload 0 244 := rfl
set_option maxRecDepth 8000 in
theorem aX11_goesOn_244 (K : Kt) : tl K (lX11_goesOn) 244 = o_iload 1 245 := rfl
set_option maxRecDepth 8000 in
theorem aX11_goesOn_245 (K : Kt) : tl K (lX11_goesOn) 245 = o_pushI (nI 59) 247 := rfl
set_option maxRecDepth 8000 in
theorem aX11_goesOn_247 (K : Kt) : tl K (lX11_goesOn) 247 = o_icmp_ne 254 250 := rfl
set_option maxRecDepth 8000 in
theorem aX11_goesOn_250 (K : Kt) : tl K (lX11_goesOn) 250 = o_iload 1 251 := rfl
set_option maxRecDepth 8000 in
theorem aX11_goesOn_251 (K : Kt) : tl K (lX11_goesOn) 251 = o_goto 255 := rfl
set_option maxRecDepth 8000 in
theorem aX11_goesOn_254 (K : Kt) : tl K (lX11_goesOn) 254 = o_pushI (nI 1) 255 := rfl
set_option maxRecDepth 8000 in
theorem aX11_goesOn_255 (K : Kt) : tl K (lX11_goesOn) 255 = o_putI 11 14 258 := rfl
set_option maxRecDepth 8000 in
theorem aX11_goesOn_258 (K : Kt) : tl K (lX11_goesOn) 258 = o_vret K := rfl
theorem eX11_isWord {As L : List Value} {w : Wd} {K : Kt} (hw : wds As ≤ 3) (hL : ent 3 As = L) (h : RR (tl K lX11_isWord) 0 L [] w) : fX11_isWord As w K := ⟨hw, by rw [hL]; exact h⟩
theorem nX11_isWord : MonoF fX11_isWord := mono_f 3 lX11_isWord
theorem aX11_isWord_0 (K : Kt) : tl K (lX11_isWord) 0 = o_aload 0 1 := rfl
theorem aX11_isWord_1 (K : Kt) : tl K (lX11_isWord) 1 = o_get 11 14 4 := rfl
theorem aX11_isWord_4 (K : Kt) : tl K (lX11_isWord) 4 = o_pushI (nI 2) 5 := rfl
theorem aX11_isWord_5 (K : Kt) : tl K (lX11_isWord) 5 = o_icmp_ne 24 8 := rfl
theorem aX11_isWord_8 (K : Kt) : tl K (lX11_isWord) 8 = o_aload 0 9 := rfl
theorem aX11_isWord_9 (K : Kt) : tl K (lX11_isWord) 9 = o_get 11 13 12 := rfl
theorem aX11_isWord_12 (K : Kt) : tl K (lX11_isWord) 12 = o_aload 0 13 := rfl
theorem aX11_isWord_13 (K : Kt) : tl K (lX11_isWord) 13 = o_get 11 12 16 := rfl
theorem aX11_isWord_16 (K : Kt) : tl K (lX11_isWord) 16 = o_isub 17 := rfl
theorem aX11_isWord_17 (K : Kt) : tl K (lX11_isWord) 17 = o_aload 1 18 := rfl
theorem aX11_isWord_18 (K : Kt) : tl K (lX11_isWord) 18 = o_callT fJ0_length_8abf5 0 21 := rfl
theorem aX11_isWord_21 (K : Kt) : tl K (lX11_isWord) 21 = o_icmp_eq 26 24 := rfl
theorem aX11_isWord_24 (K : Kt) : tl K (lX11_isWord) 24 = o_pushI (nI 0) 25 := rfl
theorem aX11_isWord_25 (K : Kt) : tl K (lX11_isWord) 25 = o_zret K := rfl
theorem aX11_isWord_26 (K : Kt) : tl K (lX11_isWord) 26 = o_pushI (nI 0) 27 := rfl
theorem aX11_isWord_27 (K : Kt) : tl K (lX11_isWord) 27 = o_istore 2 28 := rfl
theorem aX11_isWord_28 (K : Kt) : tl K (lX11_isWord) 28 = o_iload 2 29 := rfl
theorem aX11_isWord_29 (K : Kt) : tl K (lX11_isWord) 29 = o_aload 1 30 := rfl
theorem aX11_isWord_30 (K : Kt) : tl K (lX11_isWord) 30 = o_callT fJ0_length_8abf5 0 33 := rfl
theorem aX11_isWord_33 (K : Kt) : tl K (lX11_isWord) 33 = o_icmp_ge 63 36 := rfl
theorem aX11_isWord_36 (K : Kt) : tl K (lX11_isWord) 36 = o_aload 0 37 := rfl
theorem aX11_isWord_37 (K : Kt) : tl K (lX11_isWord) 37 = o_get 11 4 40 := rfl
theorem aX11_isWord_40 (K : Kt) : tl K (lX11_isWord) 40 = o_aload 0 41 := rfl
theorem aX11_isWord_41 (K : Kt) : tl K (lX11_isWord) 41 = o_get 11 12 44 := rfl
theorem aX11_isWord_44 (K : Kt) : tl K (lX11_isWord) 44 = o_iload 2 45 := rfl
theorem aX11_isWord_45 (K : Kt) : tl K (lX11_isWord) 45 = o_iadd 46 := rfl
theorem aX11_isWord_46 (K : Kt) : tl K (lX11_isWord) 46 = o_iald 47 := rfl
theorem aX11_isWord_47 (K : Kt) : tl K (lX11_isWord) 47 = o_aload 1 48 := rfl
theorem aX11_isWord_48 (K : Kt) : tl K (lX11_isWord) 48 = o_iload 2 49 := rfl
theorem aX11_isWord_49 (K : Kt) : tl K (lX11_isWord) 49 = o_callT fJ0_charAt_5068e 1 52 := rfl
theorem aX11_isWord_52 (K : Kt) : tl K (lX11_isWord) 52 = o_icmp_eq 57 55 := rfl
theorem aX11_isWord_55 (K : Kt) : tl K (lX11_isWord) 55 = o_pushI (nI 0) 56 := rfl
theorem aX11_isWord_56 (K : Kt) : tl K (lX11_isWord) 56 = o_zret K := rfl
theorem aX11_isWord_57 (K : Kt) : tl K (lX11_isWord) 57 = o_iinc 2 (nI 1) 60 := rfl
theorem aX11_isWord_60 (K : Kt) : tl K (lX11_isWord) 60 = o_goto 28 := rfl
theorem aX11_isWord_63 (K : Kt) : tl K (lX11_isWord) 63 = o_pushI (nI 1) 64 := rfl
theorem aX11_isWord_64 (K : Kt) : tl K (lX11_isWord) 64 = o_zret K := rfl
theorem eX11_errs {As L : List Value} {w : Wd} {K : Kt} (hw : wds As ≤ 2) (hL : ent 2 As = L) (h : RR (tl K lX11_errs) 0 L [] w) : fX11_errs As w K := ⟨hw, by rw [hL]; exact h⟩
theorem nX11_errs : MonoF fX11_errs := mono_f 2 lX11_errs
theorem aX11_errs_0 (K : Kt) : tl K (lX11_errs) 0 = o_aload 0 1 := rfl
theorem aX11_errs_1 (K : Kt) : tl K (lX11_errs) 1 = o_iload 1 2 := rfl
theorem aX11_errs_2 (K : Kt) : tl K (lX11_errs) 2 = o_putI 11 17 5 := rfl
theorem aX11_errs_5 (K : Kt) : tl K (lX11_errs) 5 = o_aload 0 6 := rfl
theorem aX11_errs_6 (K : Kt) : tl K (lX11_errs) 6 = o_aload 0 7 := rfl
theorem aX11_errs_7 (K : Kt) : tl K (lX11_errs) 7 = o_get 11 12 10 := rfl
theorem aX11_errs_10 (K : Kt) : tl K (lX11_errs) 10 = o_putI 11 18 13 := rfl
theorem aX11_errs_13 (K : Kt) : tl K (lX11_errs) 13 = o_pushI (nI 0) 14 := rfl
theorem aX11_errs_14 (K : Kt) : tl K (lX11_errs) 14 = o_zret K := rfl
theorem eX11_isName {As L : List Value} {w : Wd} {K : Kt} (hw : wds As ≤ 1) (hL : ent 1 As = L) (h : RR (tl K lX11_isName) 0 L [] w) : fX11_isName As w K := ⟨hw, by rw [hL]; exact h⟩
theorem nX11_isName : MonoF fX11_isName := mono_f 1 lX11_isName
theorem aX11_isName_0 (K : Kt) : tl K (lX11_isName) 0 = o_aload 0 1 := rfl
theorem aX11_isName_1 (K : Kt) : tl K (lX11_isName) 1 = o_get 11 14 4 := rfl
theorem aX11_isName_4 (K : Kt) : tl K (lX11_isName) 4 = o_pushI (nI 2) 5 := rfl
theorem aX11_isName_5 (K : Kt) : tl K (lX11_isName) 5 = o_icmp_ne 84 8 := rfl
theorem aX11_isName_8 (K : Kt) : tl K (lX11_isName) 8 = o_aload 0 9 := rfl
theorem aX11_isName_9 (K : Kt) : tl K (lX11_isName) 9 = o_pushR 200 11 := rfl
theorem aX11_isName_11 (K : Kt) : tl K (lX11_isName) 11 = o_callV fX11_isWord 1 11 14 := rfl
theorem aX11_isName_14 (K : Kt) : tl K (lX11_isName) 14 = o_if_ne 84 17 := rfl
theorem aX11_isName_17 (K : Kt) : tl K (lX11_isName) 17 = o_aload 0 18 := rfl
theorem aX11_isName_18 (K : Kt) : tl K (lX11_isName) 18 = o_pushR 201 20 := rfl
theorem aX11_isName_20 (K : Kt) : tl K (lX11_isName) 20 = o_callV fX11_isWord 1 11 23 := rfl
theorem aX11_isName_23 (K : Kt) : tl K (lX11_isName) 23 = o_if_ne 84 26 := rfl
theorem aX11_isName_26 (K : Kt) : tl K (lX11_isName) 26 = o_aload 0 27 := rfl
theorem aX11_isName_27 (K : Kt) : tl K (lX11_isName) 27 = o_pushR 202 29 := rfl
theorem aX11_isName_29 (K : Kt) : tl K (lX11_isName) 29 = o_callV fX11_isWord 1 11 32 := rfl
theorem aX11_isName_32 (K : Kt) : tl K (lX11_isName) 32 = o_if_ne 84 35 := rfl
theorem aX11_isName_35 (K : Kt) : tl K (lX11_isName) 35 = o_aload 0 36 := rfl
theorem aX11_isName_36 (K : Kt) : tl K (lX11_isName) 36 = o_pushR 203 38 := rfl
theorem aX11_isName_38 (K : Kt) : tl K (lX11_isName) 38 = o_callV fX11_isWord 1 11 41 := rfl
theorem aX11_isName_41 (K : Kt) : tl K (lX11_isName) 41 = o_if_ne 84 44 := rfl
theorem aX11_isName_44 (K : Kt) : tl K (lX11_isName) 44 = o_aload 0 45 := rfl
theorem aX11_isName_45 (K : Kt) : tl K (lX11_isName) 45 = o_pushR 204 47 := rfl
theorem aX11_isName_47 (K : Kt) : tl K (lX11_isName) 47 = o_callV fX11_isWord 1 11 50 := rfl
theorem aX11_isName_50 (K : Kt) : tl K (lX11_isName) 50 = o_if_ne 84 53 := rfl
theorem aX11_isName_53 (K : Kt) : tl K (lX11_isName) 53 = o_aload 0 54 := rfl
theorem aX11_isName_54 (K : Kt) : tl K (lX11_isName) 54 = o_pushR 205 56 := rfl
theorem aX11_isName_56 (K : Kt) : tl K (lX11_isName) 56 = o_callV fX11_isWord 1 11 59 := rfl
theorem aX11_isName_59 (K : Kt) : tl K (lX11_isName) 59 = o_if_ne 84 62 := rfl
theorem aX11_isName_62 (K : Kt) : tl K (lX11_isName) 62 = o_aload 0 63 := rfl
theorem aX11_isName_63 (K : Kt) : tl K (lX11_isName) 63 = o_pushR 206 65 := rfl
theorem aX11_isName_65 (K : Kt) : tl K (lX11_isName) 65 = o_callV fX11_isWord 1 11 68 := rfl
theorem aX11_isName_68 (K : Kt) : tl K (lX11_isName) 68 = o_if_ne 84 71 := rfl
theorem aX11_isName_71 (K : Kt) : tl K (lX11_isName) 71 = o_aload 0 72 := rfl
theorem aX11_isName_72 (K : Kt) : tl K (lX11_isName) 72 = o_pushR 207 74 := rfl
theorem aX11_isName_74 (K : Kt) : tl K (lX11_isName) 74 = o_callV fX11_isWord 1 11 77 := rfl
theorem aX11_isName_77 (K : Kt) : tl K (lX11_isName) 77 = o_if_ne 84 80 := rfl
theorem aX11_isName_80 (K : Kt) : tl K (lX11_isName) 80 = o_pushI (nI 1) 81 := rfl
theorem aX11_isName_81 (K : Kt) : tl K (lX11_isName) 81 = o_goto 85 := rfl
theorem aX11_isName_84 (K : Kt) : tl K (lX11_isName) 84 = o_pushI (nI 0) 85 := rfl
theorem aX11_isName_85 (K : Kt) : tl K (lX11_isName) 85 = o_zret K := rfl
theorem eX11_isAt {As L : List Value} {w : Wd} {K : Kt} (hw : wds As ≤ 8) (hL : ent 8 As = L) (h : RR (tl K lX11_isAt) 0 L [] w) : fX11_isAt As w K := ⟨hw, by rw [hL]; exact h⟩
theorem nX11_isAt : MonoF fX11_isAt := mono_f 8 lX11_isAt
theorem aX11_isAt_0 (K : Kt) : tl K (lX11_isAt) 0 = o_iload 4 2 := rfl
theorem aX11_isAt_2 (K : Kt) : tl K (lX11_isAt) 2 = o_iload 3 3 := rfl
theorem aX11_isAt_3 (K : Kt) : tl K (lX11_isAt) 3 = o_isub 4 := rfl
theorem aX11_isAt_4 (K : Kt) : tl K (lX11_isAt) 4 = o_pushI (nI 7) 6 := rfl
theorem aX11_isAt_6 (K : Kt) : tl K (lX11_isAt) 6 = o_icmp_gt 13 9 := rfl
theorem aX11_isAt_9 (K : Kt) : tl K (lX11_isAt) 9 = o_pushI (nI 1) 10 := rfl
theorem aX11_isAt_10 (K : Kt) : tl K (lX11_isAt) 10 = o_goto 14 := rfl
theorem aX11_isAt_13 (K : Kt) : tl K (lX11_isAt) 13 = o_pushI (nI 0) 14 := rfl
theorem aX11_isAt_14 (K : Kt) : tl K (lX11_isAt) 14 = o_istore 5 16 := rfl
theorem aX11_isAt_16 (K : Kt) : tl K (lX11_isAt) 16 = o_pushI (nI 0) 17 := rfl
theorem aX11_isAt_17 (K : Kt) : tl K (lX11_isAt) 17 = o_istore 6 19 := rfl
theorem aX11_isAt_19 (K : Kt) : tl K (lX11_isAt) 19 = o_iload 6 21 := rfl
theorem aX11_isAt_21 (K : Kt) : tl K (lX11_isAt) 21 = o_pushI (nI 7) 23 := rfl
theorem aX11_isAt_23 (K : Kt) : tl K (lX11_isAt) 23 = o_icmp_ge 107 26 := rfl
theorem aX11_isAt_26 (K : Kt) : tl K (lX11_isAt) 26 = o_iload 3 27 := rfl
theorem aX11_isAt_27 (K : Kt) : tl K (lX11_isAt) 27 = o_iload 6 29 := rfl
theorem aX11_isAt_29 (K : Kt) : tl K (lX11_isAt) 29 = o_iadd 30 := rfl
theorem aX11_isAt_30 (K : Kt) : tl K (lX11_isAt) 30 = o_iload 4 32 := rfl
theorem aX11_isAt_32 (K : Kt) : tl K (lX11_isAt) 32 = o_icmp_ge 39 35 := rfl
theorem aX11_isAt_35 (K : Kt) : tl K (lX11_isAt) 35 = o_pushI (nI 1) 36 := rfl
theorem aX11_isAt_36 (K : Kt) : tl K (lX11_isAt) 36 = o_goto 40 := rfl
theorem aX11_isAt_39 (K : Kt) : tl K (lX11_isAt) 39 = o_pushI (nI 0) 40 := rfl
theorem aX11_isAt_40 (K : Kt) : tl K (lX11_isAt) 40 = o_istore 7 42 := rfl
theorem aX11_isAt_42 (K : Kt) : tl K (lX11_isAt) 42 = o_iload 5 44 := rfl
theorem aX11_isAt_44 (K : Kt) : tl K (lX11_isAt) 44 = o_if_eq 98 47 := rfl
theorem aX11_isAt_47 (K : Kt) : tl K (lX11_isAt) 47 = o_iload 7 49 := rfl
theorem aX11_isAt_49 (K : Kt) : tl K (lX11_isAt) 49 = o_if_eq 85 52 := rfl
theorem aX11_isAt_52 (K : Kt) : tl K (lX11_isAt) 52 = o_aload 0 53 := rfl
theorem aX11_isAt_53 (K : Kt) : tl K (lX11_isAt) 53 = o_get 11 4 56 := rfl
theorem aX11_isAt_56 (K : Kt) : tl K (lX11_isAt) 56 = o_iload 3 57 := rfl
theorem aX11_isAt_57 (K : Kt) : tl K (lX11_isAt) 57 = o_iload 6 59 := rfl
theorem aX11_isAt_59 (K : Kt) : tl K (lX11_isAt) 59 = o_iadd 60 := rfl
theorem aX11_isAt_60 (K : Kt) : tl K (lX11_isAt) 60 = o_iald 61 := rfl
theorem aX11_isAt_61 (K : Kt) : tl K (lX11_isAt) 61 = o_if_eq 98 64 := rfl
theorem aX11_isAt_64 (K : Kt) : tl K (lX11_isAt) 64 = o_aload 1 65 := rfl
theorem aX11_isAt_65 (K : Kt) : tl K (lX11_isAt) 65 = o_iload 2 66 := rfl
theorem aX11_isAt_66 (K : Kt) : tl K (lX11_isAt) 66 = o_iload 6 68 := rfl
theorem aX11_isAt_68 (K : Kt) : tl K (lX11_isAt) 68 = o_iadd 69 := rfl
theorem aX11_isAt_69 (K : Kt) : tl K (lX11_isAt) 69 = o_iald 70 := rfl
theorem aX11_isAt_70 (K : Kt) : tl K (lX11_isAt) 70 = o_aload 0 71 := rfl
theorem aX11_isAt_71 (K : Kt) : tl K (lX11_isAt) 71 = o_get 11 4 74 := rfl
theorem aX11_isAt_74 (K : Kt) : tl K (lX11_isAt) 74 = o_iload 3 75 := rfl
theorem aX11_isAt_75 (K : Kt) : tl K (lX11_isAt) 75 = o_iload 6 77 := rfl
theorem aX11_isAt_77 (K : Kt) : tl K (lX11_isAt) 77 = o_iadd 78 := rfl
theorem aX11_isAt_78 (K : Kt) : tl K (lX11_isAt) 78 = o_iald 79 := rfl
theorem aX11_isAt_79 (K : Kt) : tl K (lX11_isAt) 79 = o_icmp_ne 98 82 := rfl
theorem aX11_isAt_82 (K : Kt) : tl K (lX11_isAt) 82 = o_goto 94 := rfl
theorem aX11_isAt_85 (K : Kt) : tl K (lX11_isAt) 85 = o_aload 1 86 := rfl
theorem aX11_isAt_86 (K : Kt) : tl K (lX11_isAt) 86 = o_iload 2 87 := rfl
theorem aX11_isAt_87 (K : Kt) : tl K (lX11_isAt) 87 = o_iload 6 89 := rfl
theorem aX11_isAt_89 (K : Kt) : tl K (lX11_isAt) 89 = o_iadd 90 := rfl
theorem aX11_isAt_90 (K : Kt) : tl K (lX11_isAt) 90 = o_iald 91 := rfl
theorem aX11_isAt_91 (K : Kt) : tl K (lX11_isAt) 91 = o_if_ne 98 94 := rfl
theorem aX11_isAt_94 (K : Kt) : tl K (lX11_isAt) 94 = o_pushI (nI 1) 95 := rfl
theorem aX11_isAt_95 (K : Kt) : tl K (lX11_isAt) 95 = o_goto 99 := rfl
theorem aX11_isAt_98 (K : Kt) : tl K (lX11_isAt) 98 = o_pushI (nI 0) 99 := rfl
theorem aX11_isAt_99 (K : Kt) : tl K (lX11_isAt) 99 = o_istore 5 101 := rfl
theorem aX11_isAt_101 (K : Kt) : tl K (lX11_isAt) 101 = o_iinc 6 (nI 1) 104 := rfl
theorem aX11_isAt_104 (K : Kt) : tl K (lX11_isAt) 104 = o_goto 19 := rfl
theorem aX11_isAt_107 (K : Kt) : tl K (lX11_isAt) 107 = o_iload 5 109 := rfl
theorem aX11_isAt_109 (K : Kt) : tl K (lX11_isAt) 109 = o_zret K := rfl
theorem eX11_takes {As L : List Value} {w : Wd} {K : Kt} (hw : wds As ≤ 4) (hL : ent 4 As = L) (h : RR (tl K lX11_takes) 0 L [] w) : fX11_takes As w K := ⟨hw, by rw [hL]; exact h⟩
theorem nX11_takes : MonoF fX11_takes := mono_f 4 lX11_takes
theorem aX11_takes_0 (K : Kt) : tl K (lX11_takes) 0 = o_aload 0 1 := rfl
theorem aX11_takes_1 (K : Kt) : tl K (lX11_takes) 1 = o_get 11 14 4 := rfl
theorem aX11_takes_4 (K : Kt) : tl K (lX11_takes) 4 = o_pushI (nI 3) 5 := rfl
theorem aX11_takes_5 (K : Kt) : tl K (lX11_takes) 5 = o_icmp_eq 14 8 := rfl
theorem aX11_takes_8 (K : Kt) : tl K (lX11_takes) 8 = o_aload 0 9 := rfl
theorem aX11_takes_9 (K : Kt) : tl K (lX11_takes) 9 = o_pushI (nI 1) 10 := rfl
theorem aX11_takes_10 (K : Kt) : tl K (lX11_takes) 10 = o_callV fX11_errs 1 11 13 := rfl
theorem aX11_takes_13 (K : Kt) : tl K (lX11_takes) 13 = o_zret K := rfl
theorem aX11_takes_14 (K : Kt) : tl K (lX11_takes) 14 = o_aload 0 15 := rfl
theorem aX11_takes_15 (K : Kt) : tl K (lX11_takes) 15 = o_get 11 15 18 := rfl
theorem aX11_takes_18 (K : Kt) : tl K (lX11_takes) 18 = o_iload 2 19 := rfl
theorem aX11_takes_19 (K : Kt) : tl K (lX11_takes) 19 = o_iload 3 20 := rfl
theorem aX11_takes_20 (K : Kt) : tl K (lX11_takes) 20 = o_callS fX11_in 3 23 := rfl
theorem aX11_takes_23 (K : Kt) : tl K (lX11_takes) 23 = o_if_ne 32 26 := rfl
theorem aX11_takes_26 (K : Kt) : tl K (lX11_takes) 26 = o_aload 0 27 := rfl
theorem aX11_takes_27 (K : Kt) : tl K (lX11_takes) 27 = o_pushI (nI 2) 28 := rfl
theorem aX11_takes_28 (K : Kt) : tl K (lX11_takes) 28 = o_callV fX11_errs 1 11 31 := rfl
theorem aX11_takes_31 (K : Kt) : tl K (lX11_takes) 31 = o_zret K := rfl
theorem aX11_takes_32 (K : Kt) : tl K (lX11_takes) 32 = o_aload 0 33 := rfl
theorem aX11_takes_33 (K : Kt) : tl K (lX11_takes) 33 = o_get 11 8 36 := rfl
theorem aX11_takes_36 (K : Kt) : tl K (lX11_takes) 36 = o_iload 1 37 := rfl
theorem aX11_takes_37 (K : Kt) : tl K (lX11_takes) 37 = o_aload 0 38 := rfl
theorem aX11_takes_38 (K : Kt) : tl K (lX11_takes) 38 = o_get 11 15 41 := rfl
theorem aX11_takes_41 (K : Kt) : tl K (lX11_takes) 41 = o_iast 42 := rfl
theorem aX11_takes_42 (K : Kt) : tl K (lX11_takes) 42 = o_aload 0 43 := rfl
theorem aX11_takes_43 (K : Kt) : tl K (lX11_takes) 43 = o_callV fX11_goesOn 0 11 46 := rfl
theorem aX11_takes_46 (K : Kt) : tl K (lX11_takes) 46 = o_pushI (nI 1) 47 := rfl
theorem aX11_takes_47 (K : Kt) : tl K (lX11_takes) 47 = o_zret K := rfl
theorem eX11_readArm {As L : List Value} {w : Wd} {K : Kt} (hw : wds As ≤ 3) (hL : ent 3 As = L) (h : RR (tl K lX11_readArm) 0 L [] w) : fX11_readArm As w K := ⟨hw, by rw [hL]; exact h⟩
theorem nX11_readArm : MonoF fX11_readArm := mono_f 3 lX11_readArm
theorem aX11_readArm_0 (K : Kt) : tl K (lX11_readArm) 0 = o_aload 0 1 := rfl
theorem aX11_readArm_1 (K : Kt) : tl K (lX11_readArm) 1 = o_get 11 8 4 := rfl
theorem aX11_readArm_4 (K : Kt) : tl K (lX11_readArm) 4 = o_pushI (nI 0) 5 := rfl
theorem aX11_readArm_5 (K : Kt) : tl K (lX11_readArm) 5 = o_iald 6 := rfl
theorem aX11_readArm_6 (K : Kt) : tl K (lX11_readArm) 6 = o_istore 1 7 := rfl
theorem aX11_readArm_7 (K : Kt) : tl K (lX11_readArm) 7 = o_iload 1 8 := rfl
theorem aX11_readArm_8 (K : Kt) : tl K (lX11_readArm) 8 = o_pushI (nI 8) 10 := rfl
theorem aX11_readArm_10 (K : Kt) : tl K (lX11_readArm) 10 = o_icmp_ne 19 13 := rfl
theorem aX11_readArm_13 (K : Kt) : tl K (lX11_readArm) 13 = o_aload 0 14 := rfl
theorem aX11_readArm_14 (K : Kt) : tl K (lX11_readArm) 14 = o_pushI (nI 4) 15 := rfl
theorem aX11_readArm_15 (K : Kt) : tl K (lX11_readArm) 15 = o_callV fX11_errs 1 11 18 := rfl
theorem aX11_readArm_18 (K : Kt) : tl K (lX11_readArm) 18 = o_zret K := rfl
theorem aX11_readArm_19 (K : Kt) : tl K (lX11_readArm) 19 = o_aload 0 20 := rfl
theorem aX11_readArm_20 (K : Kt) : tl K (lX11_readArm) 20 = o_callV fX11_goesOn 0 11 23 := rfl
theorem aX11_readArm_23 (K : Kt) : tl K (lX11_readArm) 23 = o_aload 0 24 := rfl
theorem aX11_readArm_24 (K : Kt) : tl K (lX11_readArm) 24 = o_callV fX11_isName 0 11 27 := rfl
theorem aX11_readArm_27 (K : Kt) : tl K (lX11_readArm) 27 = o_if_ne 36 30 := rfl
theorem aX11_readArm_30 (K : Kt) : tl K (lX11_readArm) 30 = o_aload 0 31 := rfl
theorem aX11_readArm_31 (K : Kt) : tl K (lX11_readArm) 31 = o_pushI (nI 1) 32 := rfl
theorem aX11_readArm_32 (K : Kt) : tl K (lX11_readArm) 32 = o_callV fX11_errs 1 11 35 := rfl
theorem aX11_readArm_35 (K : Kt) : tl K (lX11_readArm) 35 = o_zret K := rfl
theorem aX11_readArm_36 (K : Kt) : tl K (lX11_readArm) 36 = o_pushI (nI 0) 37 := rfl
theorem aX11_readArm_37 (K : Kt) : tl K (lX11_readArm) 37 = o_istore 2 38 := rfl
theorem aX11_readArm_38 (K : Kt) : tl K (lX11_readArm) 38 = o_iload 2 39 := rfl
theorem aX11_readArm_39 (K : Kt) : tl K (lX11_readArm) 39 = o_iload 1 40 := rfl
theorem aX11_readArm_40 (K : Kt) : tl K (lX11_readArm) 40 = o_icmp_ge 78 43 := rfl
theorem aX11_readArm_43 (K : Kt) : tl K (lX11_readArm) 43 = o_aload 0 44 := rfl
theorem aX11_readArm_44 (K : Kt) : tl K (lX11_readArm) 44 = o_aload 0 45 := rfl
theorem aX11_readArm_45 (K : Kt) : tl K (lX11_readArm) 45 = o_get 11 10 48 := rfl
theorem aX11_readArm_48 (K : Kt) : tl K (lX11_readArm) 48 = o_pushI (nI 7) 50 := rfl
theorem aX11_readArm_50 (K : Kt) : tl K (lX11_readArm) 50 = o_iload 2 51 := rfl
theorem aX11_readArm_51 (K : Kt) : tl K (lX11_readArm) 51 = o_imul 52 := rfl
theorem aX11_readArm_52 (K : Kt) : tl K (lX11_readArm) 52 = o_aload 0 53 := rfl
theorem aX11_readArm_53 (K : Kt) : tl K (lX11_readArm) 53 = o_get 11 12 56 := rfl
theorem aX11_readArm_56 (K : Kt) : tl K (lX11_readArm) 56 = o_aload 0 57 := rfl
theorem aX11_readArm_57 (K : Kt) : tl K (lX11_readArm) 57 = o_get 11 13 60 := rfl
theorem aX11_readArm_60 (K : Kt) : tl K (lX11_readArm) 60 = o_callV fX11_isAt 4 11 63 := rfl
theorem aX11_readArm_63 (K : Kt) : tl K (lX11_readArm) 63 = o_if_eq 72 66 := rfl
theorem aX11_readArm_66 (K : Kt) : tl K (lX11_readArm) 66 = o_aload 0 67 := rfl
theorem aX11_readArm_67 (K : Kt) : tl K (lX11_readArm) 67 = o_pushI (nI 3) 68 := rfl
theorem aX11_readArm_68 (K : Kt) : tl K (lX11_readArm) 68 = o_callV fX11_errs 1 11 71 := rfl
theorem aX11_readArm_71 (K : Kt) : tl K (lX11_readArm) 71 = o_zret K := rfl
theorem aX11_readArm_72 (K : Kt) : tl K (lX11_readArm) 72 = o_iinc 2 (nI 1) 75 := rfl
theorem aX11_readArm_75 (K : Kt) : tl K (lX11_readArm) 75 = o_goto 38 := rfl
theorem aX11_readArm_78 (K : Kt) : tl K (lX11_readArm) 78 = o_pushI (nI 0) 79 := rfl
theorem aX11_readArm_79 (K : Kt) : tl K (lX11_readArm) 79 = o_istore 2 80 := rfl
theorem aX11_readArm_80 (K : Kt) : tl K (lX11_readArm) 80 = o_iload 2 81 := rfl
theorem aX11_readArm_81 (K : Kt) : tl K (lX11_readArm) 81 = o_pushI (nI 7) 83 := rfl
theorem aX11_readArm_83 (K : Kt) : tl K (lX11_readArm) 83 = o_icmp_ge 131 86 := rfl
theorem aX11_readArm_86 (K : Kt) : tl K (lX11_readArm) 86 = o_aload 0 87 := rfl
theorem aX11_readArm_87 (K : Kt) : tl K (lX11_readArm) 87 = o_get 11 10 90 := rfl
theorem aX11_readArm_90 (K : Kt) : tl K (lX11_readArm) 90 = o_pushI (nI 7) 92 := rfl
theorem aX11_readArm_92 (K : Kt) : tl K (lX11_readArm) 92 = o_iload 1 93 := rfl
theorem aX11_readArm_93 (K : Kt) : tl K (lX11_readArm) 93 = o_imul 94 := rfl
theorem aX11_readArm_94 (K : Kt) : tl K (lX11_readArm) 94 = o_iload 2 95 := rfl
theorem aX11_readArm_95 (K : Kt) : tl K (lX11_readArm) 95 = o_iadd 96 := rfl
theorem aX11_readArm_96 (K : Kt) : tl K (lX11_readArm) 96 = o_aload 0 97 := rfl
theorem aX11_readArm_97 (K : Kt) : tl K (lX11_readArm) 97 = o_get 11 12 100 := rfl
theorem aX11_readArm_100 (K : Kt) : tl K (lX11_readArm) 100 = o_iload 2 101 := rfl
theorem aX11_readArm_101 (K : Kt) : tl K (lX11_readArm) 101 = o_iadd 102 := rfl
theorem aX11_readArm_102 (K : Kt) : tl K (lX11_readArm) 102 = o_aload 0 103 := rfl
set_option maxRecDepth 8000 in
theorem aX11_readArm_103 (K : Kt) : tl K (lX11_readArm) 103 = o_get 11 13 106 := rfl
set_option maxRecDepth 8000 in
theorem aX11_readArm_106 (K : Kt) : tl K (lX11_readArm) 106 = o_icmp_ge 123 109 := rfl
set_option maxRecDepth 8000 in
theorem aX11_readArm_109 (K : Kt) : tl K (lX11_readArm) 109 = o_aload 0 110 := rfl
set_option maxRecDepth 8000 in
theorem aX11_readArm_110 (K : Kt) : tl K (lX11_readArm) 110 = o_get 11 4 113 := rfl
set_option maxRecDepth 8000 in
theorem aX11_readArm_113 (K : Kt) : tl K (lX11_readArm) 113 = o_aload 0 114 := rfl
set_option maxRecDepth 8000 in
theorem aX11_readArm_114 (K : Kt) : tl K (lX11_readArm) 114 = o_get 11 12 117 := rfl
set_option maxRecDepth 8000 in
theorem aX11_readArm_117 (K : Kt) : tl K (lX11_readArm) 117 = o_iload 2 118 := rfl
set_option maxRecDepth 8000 in
theorem aX11_readArm_118 (K : Kt) : tl K (lX11_readArm) 118 = o_iadd 119 := rfl
set_option maxRecDepth 8000 in
theorem aX11_readArm_119 (K : Kt) : tl K (lX11_readArm) 119 = o_iald 120 := rfl
set_option maxRecDepth 8000 in
theorem aX11_readArm_120 (K : Kt) : tl K (lX11_readArm) 120 = o_goto 124 := rfl
set_option maxRecDepth 8000 in
theorem aX11_readArm_123 (K : Kt) : tl K (lX11_readArm) 123 = o_pushI (nI 0) 124 := rfl
set_option maxRecDepth 8000 in
theorem aX11_readArm_124 (K : Kt) : tl K (lX11_readArm) 124 = o_iast 125 := rfl
set_option maxRecDepth 8000 in
theorem aX11_readArm_125 (K : Kt) : tl K (lX11_readArm) 125 = o_iinc 2 (nI 1) 128 := rfl
set_option maxRecDepth 8000 in
theorem aX11_readArm_128 (K : Kt) : tl K (lX11_readArm) 128 = o_goto 80 := rfl
set_option maxRecDepth 8000 in
theorem aX11_readArm_131 (K : Kt) : tl K (lX11_readArm) 131 = o_aload 0 132 := rfl
set_option maxRecDepth 8000 in
theorem aX11_readArm_132 (K : Kt) : tl K (lX11_readArm) 132 = o_callV fX11_goesOn 0 11 135 := rfl
set_option maxRecDepth 8000 in
theorem aX11_readArm_135 (K : Kt) : tl K (lX11_readArm) 135 = o_aload 0 136 := rfl
set_option maxRecDepth 8000 in
theorem aX11_readArm_136 (K : Kt) : tl K (lX11_readArm) 136 = o_pushR 201 138 := rfl
set_option maxRecDepth 8000 in
theorem aX11_readArm_138 (K : Kt) : tl K (lX11_readArm) 138 = o_callV fX11_isWord 1 11 141 := rfl
set_option maxRecDepth 8000 in
theorem aX11_readArm_141 (K : Kt) : tl K (lX11_readArm) 141 = o_if_ne 159 144 := rfl
set_option maxRecDepth 8000 in
theorem aX11_readArm_144 (K : Kt) : tl K (lX11_readArm) 144 = o_aload 0 145 := rfl
set_option maxRecDepth 8000 in
theorem aX11_readArm_145 (K : Kt) : tl K (lX11_readArm) 145 = o_pushR 202 147 := rfl
set_option maxRecDepth 8000 in
theorem aX11_readArm_147 (K : Kt) : tl K (lX11_readArm) 147 = o_callV fX11_isWord 1 11 150 := rfl
set_option maxRecDepth 8000 in
theorem aX11_readArm_150 (K : Kt) : tl K (lX11_readArm) 150 = o_if_ne 159 153 := rfl
set_option maxRecDepth 8000 in
theorem aX11_readArm_153 (K : Kt) : tl K (lX11_readArm) 153 = o_aload 0 154 := rfl
set_option maxRecDepth 8000 in
theorem aX11_readArm_154 (K : Kt) : tl K (lX11_readArm) 154 = o_pushI (nI 1) 155 := rfl
set_option maxRecDepth 8000 in
theorem aX11_readArm_155 (K : Kt) : tl K (lX11_readArm) 155 = o_callV fX11_errs 1 11 158 := rfl
set_option maxRecDepth 8000 in
theorem aX11_readArm_158 (K : Kt) : tl K (lX11_readArm) 158 = o_zret K := rfl
set_option maxRecDepth 8000 in
theorem aX11_readArm_159 (K : Kt) : tl K (lX11_readArm) 159 = o_aload 0 160 := rfl
set_option maxRecDepth 8000 in
theorem aX11_readArm_160 (K : Kt) : tl K (lX11_readArm) 160 = o_get 11 8 163 := rfl
set_option maxRecDepth 8000 in
theorem aX11_readArm_163 (K : Kt) : tl K (lX11_readArm) 163 = o_pushI (nI 6) 165 := rfl
set_option maxRecDepth 8000 in
theorem aX11_readArm_165 (K : Kt) : tl K (lX11_readArm) 165 = o_iload 1 166 := rfl
set_option maxRecDepth 8000 in
theorem aX11_readArm_166 (K : Kt) : tl K (lX11_readArm) 166 = o_iadd 167 := rfl
set_option maxRecDepth 8000 in
theorem aX11_readArm_167 (K : Kt) : tl K (lX11_readArm) 167 = o_aload 0 168 := rfl
set_option maxRecDepth 8000 in
theorem aX11_readArm_168 (K : Kt) : tl K (lX11_readArm) 168 = o_pushR 201 170 := rfl
set_option maxRecDepth 8000 in
theorem aX11_readArm_170 (K : Kt) : tl K (lX11_readArm) 170 = o_callV fX11_isWord 1 11 173 := rfl
set_option maxRecDepth 8000 in
theorem aX11_readArm_173 (K : Kt) : tl K (lX11_readArm) 173 = o_if_eq 180 176 := rfl
set_option maxRecDepth 8000 in
theorem aX11_readArm_176 (K : Kt) : tl K (lX11_readArm) 176 = o_pushI (nI 0) 177 := rfl
set_option maxRecDepth 8000 in
theorem aX11_readArm_177 (K : Kt) : tl K (lX11_readArm) 177 = o_goto 181 := rfl
set_option maxRecDepth 8000 in
theorem aX11_readArm_180 (K : Kt) : tl K (lX11_readArm) 180 = o_pushI (nI 1) 181 := rfl
set_option maxRecDepth 8000 in
theorem aX11_readArm_181 (K : Kt) : tl K (lX11_readArm) 181 = o_iast 182 := rfl
set_option maxRecDepth 8000 in
theorem aX11_readArm_182 (K : Kt) : tl K (lX11_readArm) 182 = o_aload 0 183 := rfl
set_option maxRecDepth 8000 in
theorem aX11_readArm_183 (K : Kt) : tl K (lX11_readArm) 183 = o_callV fX11_goesOn 0 11 186 := rfl
set_option maxRecDepth 8000 in
theorem aX11_readArm_186 (K : Kt) : tl K (lX11_readArm) 186 = o_aload 0 187 := rfl
set_option maxRecDepth 8000 in
theorem aX11_readArm_187 (K : Kt) : tl K (lX11_readArm) 187 = o_get 11 8 190 := rfl
set_option maxRecDepth 8000 in
theorem aX11_readArm_190 (K : Kt) : tl K (lX11_readArm) 190 = o_pushI (nI 0) 191 := rfl
set_option maxRecDepth 8000 in
theorem aX11_readArm_191 (K : Kt) : tl K (lX11_readArm) 191 = o_dup2 192 := rfl
set_option maxRecDepth 8000 in
theorem aX11_readArm_192 (K : Kt) : tl K (lX11_readArm) 192 = o_iald 193 := rfl
set_option maxRecDepth 8000 in
theorem aX11_readArm_193 (K : Kt) : tl K (lX11_readArm) 193 = o_pushI (nI 1) 194 := rfl
set_option maxRecDepth 8000 in
theorem aX11_readArm_194 (K : Kt) : tl K (lX11_readArm) 194 = o_iadd 195 := rfl
set_option maxRecDepth 8000 in
theorem aX11_readArm_195 (K : Kt) : tl K (lX11_readArm) 195 = o_iast 196 := rfl
set_option maxRecDepth 8000 in
theorem aX11_readArm_196 (K : Kt) : tl K (lX11_readArm) 196 = o_aload 0 197 := rfl
set_option maxRecDepth 8000 in
theorem aX11_readArm_197 (K : Kt) : tl K (lX11_readArm) 197 = o_pushI (nI 14) 199 := rfl
set_option maxRecDepth 8000 in
theorem aX11_readArm_199 (K : Kt) : tl K (lX11_readArm) 199 = o_iload 1 200 := rfl
set_option maxRecDepth 8000 in
theorem aX11_readArm_200 (K : Kt) : tl K (lX11_readArm) 200 = o_iadd 201 := rfl
set_option maxRecDepth 8000 in
theorem aX11_readArm_201 (K : Kt) : tl K (lX11_readArm) 201 = o_pushI (nI 1) 202 := rfl
set_option maxRecDepth 8000 in
theorem aX11_readArm_202 (K : Kt) : tl K (lX11_readArm) 202 = o_pushI (nI 99) 204 := rfl
set_option maxRecDepth 8000 in
theorem aX11_readArm_204 (K : Kt) : tl K (lX11_readArm) 204 = o_callV fX11_takes 3 11 207 := rfl
set_option maxRecDepth 8000 in
theorem aX11_readArm_207 (K : Kt) : tl K (lX11_readArm) 207 = o_if_eq 263 210 := rfl
set_option maxRecDepth 8000 in
theorem aX11_readArm_210 (K : Kt) : tl K (lX11_readArm) 210 = o_aload 0 211 := rfl
set_option maxRecDepth 8000 in
theorem aX11_readArm_211 (K : Kt) : tl K (lX11_readArm) 211 = o_pushI (nI 22) 213 := rfl
set_option maxRecDepth 8000 in
theorem aX11_readArm_213 (K : Kt) : tl K (lX11_readArm) 213 = o_iload 1 214 := rfl
set_option maxRecDepth 8000 in
theorem aX11_readArm_214 (K : Kt) : tl K (lX11_readArm) 214 = o_iadd 215 := rfl
set_option maxRecDepth 8000 in
theorem aX11_readArm_215 (K : Kt) : tl K (lX11_readArm) 215 = o_pushI (nI 1) 216 := rfl
set_option maxRecDepth 8000 in
theorem aX11_readArm_216 (K : Kt) : tl K (lX11_readArm) 216 = o_pushI (nI 120) 218 := rfl
set_option maxRecDepth 8000 in
theorem aX11_readArm_218 (K : Kt) : tl K (lX11_readArm) 218 = o_callV fX11_takes 3 11 221 := rfl
set_option maxRecDepth 8000 in
theorem aX11_readArm_221 (K : Kt) : tl K (lX11_readArm) 221 = o_if_eq 263 224 := rfl
set_option maxRecDepth 8000 in
theorem aX11_readArm_224 (K : Kt) : tl K (lX11_readArm) 224 = o_aload 0 225 := rfl
set_option maxRecDepth 8000 in
theorem aX11_readArm_225 (K : Kt) : tl K (lX11_readArm) 225 = o_pushI (nI 30) 227 := rfl
set_option maxRecDepth 8000 in
theorem aX11_readArm_227 (K : Kt) : tl K (lX11_readArm) 227 = o_iload 1 228 := rfl
set_option maxRecDepth 8000 in
theorem aX11_readArm_228 (K : Kt) : tl K (lX11_readArm) 228 = o_iadd 229 := rfl
set_option maxRecDepth 8000 in
theorem aX11_readArm_229 (K : Kt) : tl K (lX11_readArm) 229 = o_pushI (nI 0) 230 := rfl
set_option maxRecDepth 8000 in
theorem aX11_readArm_230 (K : Kt) : tl K (lX11_readArm) 230 = o_aload 0 231 := rfl
set_option maxRecDepth 8000 in
theorem aX11_readArm_231 (K : Kt) : tl K (lX11_readArm) 231 = o_get 11 8 234 := rfl
set_option maxRecDepth 8000 in
theorem aX11_readArm_234 (K : Kt) : tl K (lX11_readArm) 234 = o_pushI (nI 22) 236 := rfl
set_option maxRecDepth 8000 in
theorem aX11_readArm_236 (K : Kt) : tl K (lX11_readArm) 236 = o_iload 1 237 := rfl
set_option maxRecDepth 8000 in
theorem aX11_readArm_237 (K : Kt) : tl K (lX11_readArm) 237 = o_iadd 238 := rfl
set_option maxRecDepth 8000 in
theorem aX11_readArm_238 (K : Kt) : tl K (lX11_readArm) 238 = o_iald 239 := rfl
set_option maxRecDepth 8000 in
theorem aX11_readArm_239 (K : Kt) : tl K (lX11_readArm) 239 = o_callV fX11_takes 3 11 242 := rfl
set_option maxRecDepth 8000 in
theorem aX11_readArm_242 (K : Kt) : tl K (lX11_readArm) 242 = o_if_eq 263 245 := rfl
set_option maxRecDepth 8000 in
theorem aX11_readArm_245 (K : Kt) : tl K (lX11_readArm) 245 = o_aload 0 246 := rfl
set_option maxRecDepth 8000 in
theorem aX11_readArm_246 (K : Kt) : tl K (lX11_readArm) 246 = o_pushI (nI 38) 248 := rfl
set_option maxRecDepth 8000 in
theorem aX11_readArm_248 (K : Kt) : tl K (lX11_readArm) 248 = o_iload 1 249 := rfl
set_option maxRecDepth 8000 in
theorem aX11_readArm_249 (K : Kt) : tl K (lX11_readArm) 249 = o_iadd 250 := rfl
set_option maxRecDepth 8000 in
theorem aX11_readArm_250 (K : Kt) : tl K (lX11_readArm) 250 = o_pushI (nI 0) 251 := rfl
set_option maxRecDepth 8000 in
theorem aX11_readArm_251 (K : Kt) : tl K (lX11_readArm) 251 = o_pushI (nI 9) 253 := rfl
set_option maxRecDepth 8000 in
theorem aX11_readArm_253 (K : Kt) : tl K (lX11_readArm) 253 = o_callV fX11_takes 3 11 256 := rfl
set_option maxRecDepth 8000 in
theorem aX11_readArm_256 (K : Kt) : tl K (lX11_readArm) 256 = o_if_eq 263 259 := rfl
set_option maxRecDepth 8000 in
theorem aX11_readArm_259 (K : Kt) : tl K (lX11_readArm) 259 = o_pushI (nI 1) 260 := rfl
set_option maxRecDepth 8000 in
theorem aX11_readArm_260 (K : Kt) : tl K (lX11_readArm) 260 = o_goto 264 := rfl
set_option maxRecDepth 8000 in
theorem aX11_readArm_263 (K : Kt) : tl K (lX11_readArm) 263 = o_pushI (nI 0) 264 := rfl
set_option maxRecDepth 8000 in
theorem aX11_readArm_264 (K : Kt) : tl K (lX11_readArm) 264 = o_zret K := rfl
theorem eX11_readGame {As L : List Value} {w : Wd} {K : Kt} (hw : wds As ≤ 2) (hL : ent 2 As = L) (h : RR (tl K lX11_readGame) 0 L [] w) : fX11_readGame As w K := ⟨hw, by rw [hL]; exact h⟩
theorem nX11_readGame : MonoF fX11_readGame := mono_f 2 lX11_readGame
theorem aX11_readGame_0 (K : Kt) : tl K (lX11_readGame) 0 = o_aload 0 1 := rfl
theorem aX11_readGame_1 (K : Kt) : tl K (lX11_readGame) 1 = o_get 11 8 4 := rfl
theorem aX11_readGame_4 (K : Kt) : tl K (lX11_readGame) 4 = o_pushI (nI 1) 5 := rfl
theorem aX11_readGame_5 (K : Kt) : tl K (lX11_readGame) 5 = o_iald 6 := rfl
theorem aX11_readGame_6 (K : Kt) : tl K (lX11_readGame) 6 = o_istore 1 7 := rfl
theorem aX11_readGame_7 (K : Kt) : tl K (lX11_readGame) 7 = o_iload 1 8 := rfl
theorem aX11_readGame_8 (K : Kt) : tl K (lX11_readGame) 8 = o_pushI (nI 20) 10 := rfl
theorem aX11_readGame_10 (K : Kt) : tl K (lX11_readGame) 10 = o_icmp_ne 19 13 := rfl
theorem aX11_readGame_13 (K : Kt) : tl K (lX11_readGame) 13 = o_aload 0 14 := rfl
theorem aX11_readGame_14 (K : Kt) : tl K (lX11_readGame) 14 = o_pushI (nI 4) 15 := rfl
theorem aX11_readGame_15 (K : Kt) : tl K (lX11_readGame) 15 = o_callV fX11_errs 1 11 18 := rfl
theorem aX11_readGame_18 (K : Kt) : tl K (lX11_readGame) 18 = o_zret K := rfl
theorem aX11_readGame_19 (K : Kt) : tl K (lX11_readGame) 19 = o_aload 0 20 := rfl
theorem aX11_readGame_20 (K : Kt) : tl K (lX11_readGame) 20 = o_callV fX11_goesOn 0 11 23 := rfl
theorem aX11_readGame_23 (K : Kt) : tl K (lX11_readGame) 23 = o_aload 0 24 := rfl
theorem aX11_readGame_24 (K : Kt) : tl K (lX11_readGame) 24 = o_get 11 8 27 := rfl
theorem aX11_readGame_27 (K : Kt) : tl K (lX11_readGame) 27 = o_pushI (nI 1) 28 := rfl
theorem aX11_readGame_28 (K : Kt) : tl K (lX11_readGame) 28 = o_dup2 29 := rfl
theorem aX11_readGame_29 (K : Kt) : tl K (lX11_readGame) 29 = o_iald 30 := rfl
theorem aX11_readGame_30 (K : Kt) : tl K (lX11_readGame) 30 = o_pushI (nI 1) 31 := rfl
theorem aX11_readGame_31 (K : Kt) : tl K (lX11_readGame) 31 = o_iadd 32 := rfl
theorem aX11_readGame_32 (K : Kt) : tl K (lX11_readGame) 32 = o_iast 33 := rfl
theorem aX11_readGame_33 (K : Kt) : tl K (lX11_readGame) 33 = o_aload 0 34 := rfl
theorem aX11_readGame_34 (K : Kt) : tl K (lX11_readGame) 34 = o_pushI (nI 46) 36 := rfl
theorem aX11_readGame_36 (K : Kt) : tl K (lX11_readGame) 36 = o_iload 1 37 := rfl
theorem aX11_readGame_37 (K : Kt) : tl K (lX11_readGame) 37 = o_iadd 38 := rfl
theorem aX11_readGame_38 (K : Kt) : tl K (lX11_readGame) 38 = o_iload 1 39 := rfl
theorem aX11_readGame_39 (K : Kt) : tl K (lX11_readGame) 39 = o_if_ne 46 42 := rfl
theorem aX11_readGame_42 (K : Kt) : tl K (lX11_readGame) 42 = o_pushI (nI 0) 43 := rfl
theorem aX11_readGame_43 (K : Kt) : tl K (lX11_readGame) 43 = o_goto 59 := rfl
theorem aX11_readGame_46 (K : Kt) : tl K (lX11_readGame) 46 = o_aload 0 47 := rfl
theorem aX11_readGame_47 (K : Kt) : tl K (lX11_readGame) 47 = o_get 11 8 50 := rfl
theorem aX11_readGame_50 (K : Kt) : tl K (lX11_readGame) 50 = o_pushI (nI 46) 52 := rfl
theorem aX11_readGame_52 (K : Kt) : tl K (lX11_readGame) 52 = o_iload 1 53 := rfl
theorem aX11_readGame_53 (K : Kt) : tl K (lX11_readGame) 53 = o_iadd 54 := rfl
theorem aX11_readGame_54 (K : Kt) : tl K (lX11_readGame) 54 = o_pushI (nI 1) 55 := rfl
theorem aX11_readGame_55 (K : Kt) : tl K (lX11_readGame) 55 = o_isub 56 := rfl
theorem aX11_readGame_56 (K : Kt) : tl K (lX11_readGame) 56 = o_iald 57 := rfl
theorem aX11_readGame_57 (K : Kt) : tl K (lX11_readGame) 57 = o_pushI (nI 1) 58 := rfl
theorem aX11_readGame_58 (K : Kt) : tl K (lX11_readGame) 58 = o_iadd 59 := rfl
theorem aX11_readGame_59 (K : Kt) : tl K (lX11_readGame) 59 = o_pushI (nI 59) 61 := rfl
theorem aX11_readGame_61 (K : Kt) : tl K (lX11_readGame) 61 = o_callV fX11_takes 3 11 64 := rfl
theorem aX11_readGame_64 (K : Kt) : tl K (lX11_readGame) 64 = o_if_eq 100 67 := rfl
theorem aX11_readGame_67 (K : Kt) : tl K (lX11_readGame) 67 = o_aload 0 68 := rfl
theorem aX11_readGame_68 (K : Kt) : tl K (lX11_readGame) 68 = o_pushI (nI 66) 70 := rfl
theorem aX11_readGame_70 (K : Kt) : tl K (lX11_readGame) 70 = o_iload 1 71 := rfl
theorem aX11_readGame_71 (K : Kt) : tl K (lX11_readGame) 71 = o_iadd 72 := rfl
theorem aX11_readGame_72 (K : Kt) : tl K (lX11_readGame) 72 = o_pushI (nI 0) 73 := rfl
theorem aX11_readGame_73 (K : Kt) : tl K (lX11_readGame) 73 = o_pushI (nI 9) 75 := rfl
theorem aX11_readGame_75 (K : Kt) : tl K (lX11_readGame) 75 = o_callV fX11_takes 3 11 78 := rfl
theorem aX11_readGame_78 (K : Kt) : tl K (lX11_readGame) 78 = o_if_eq 100 81 := rfl
theorem aX11_readGame_81 (K : Kt) : tl K (lX11_readGame) 81 = o_aload 0 82 := rfl
theorem aX11_readGame_82 (K : Kt) : tl K (lX11_readGame) 82 = o_pushI (nI 86) 84 := rfl
theorem aX11_readGame_84 (K : Kt) : tl K (lX11_readGame) 84 = o_iload 1 85 := rfl
theorem aX11_readGame_85 (K : Kt) : tl K (lX11_readGame) 85 = o_iadd 86 := rfl
theorem aX11_readGame_86 (K : Kt) : tl K (lX11_readGame) 86 = o_pushI (nI 1) 87 := rfl
theorem aX11_readGame_87 (K : Kt) : tl K (lX11_readGame) 87 = o_pushI (nI 200) 90 := rfl
theorem aX11_readGame_90 (K : Kt) : tl K (lX11_readGame) 90 = o_callV fX11_takes 3 11 93 := rfl
theorem aX11_readGame_93 (K : Kt) : tl K (lX11_readGame) 93 = o_if_eq 100 96 := rfl
theorem aX11_readGame_96 (K : Kt) : tl K (lX11_readGame) 96 = o_pushI (nI 1) 97 := rfl
theorem aX11_readGame_97 (K : Kt) : tl K (lX11_readGame) 97 = o_goto 101 := rfl
set_option maxRecDepth 8000 in
theorem aX11_readGame_100 (K : Kt) : tl K (lX11_readGame) 100 = o_pushI (nI 0) 101 := rfl
set_option maxRecDepth 8000 in
theorem aX11_readGame_101 (K : Kt) : tl K (lX11_readGame) 101 = o_zret K := rfl
theorem eX11_readRest {As L : List Value} {w : Wd} {K : Kt} (hw : wds As ≤ 2) (hL : ent 2 As = L) (h : RR (tl K lX11_readRest) 0 L [] w) : fX11_readRest As w K := ⟨hw, by rw [hL]; exact h⟩
theorem nX11_readRest : MonoF fX11_readRest := mono_f 2 lX11_readRest
theorem aX11_readRest_0 (K : Kt) : tl K (lX11_readRest) 0 = o_aload 0 1 := rfl
theorem aX11_readRest_1 (K : Kt) : tl K (lX11_readRest) 1 = o_get 11 8 4 := rfl
theorem aX11_readRest_4 (K : Kt) : tl K (lX11_readRest) 4 = o_pushI (nI 2) 5 := rfl
theorem aX11_readRest_5 (K : Kt) : tl K (lX11_readRest) 5 = o_iald 6 := rfl
theorem aX11_readRest_6 (K : Kt) : tl K (lX11_readRest) 6 = o_istore 1 7 := rfl
theorem aX11_readRest_7 (K : Kt) : tl K (lX11_readRest) 7 = o_iload 1 8 := rfl
theorem aX11_readRest_8 (K : Kt) : tl K (lX11_readRest) 8 = o_pushI (nI 5) 9 := rfl
theorem aX11_readRest_9 (K : Kt) : tl K (lX11_readRest) 9 = o_icmp_ne 18 12 := rfl
theorem aX11_readRest_12 (K : Kt) : tl K (lX11_readRest) 12 = o_aload 0 13 := rfl
theorem aX11_readRest_13 (K : Kt) : tl K (lX11_readRest) 13 = o_pushI (nI 4) 14 := rfl
theorem aX11_readRest_14 (K : Kt) : tl K (lX11_readRest) 14 = o_callV fX11_errs 1 11 17 := rfl
theorem aX11_readRest_17 (K : Kt) : tl K (lX11_readRest) 17 = o_zret K := rfl
theorem aX11_readRest_18 (K : Kt) : tl K (lX11_readRest) 18 = o_aload 0 19 := rfl
theorem aX11_readRest_19 (K : Kt) : tl K (lX11_readRest) 19 = o_callV fX11_goesOn 0 11 22 := rfl
theorem aX11_readRest_22 (K : Kt) : tl K (lX11_readRest) 22 = o_aload 0 23 := rfl
theorem aX11_readRest_23 (K : Kt) : tl K (lX11_readRest) 23 = o_get 11 8 26 := rfl
theorem aX11_readRest_26 (K : Kt) : tl K (lX11_readRest) 26 = o_pushI (nI 2) 27 := rfl
theorem aX11_readRest_27 (K : Kt) : tl K (lX11_readRest) 27 = o_dup2 28 := rfl
theorem aX11_readRest_28 (K : Kt) : tl K (lX11_readRest) 28 = o_iald 29 := rfl
theorem aX11_readRest_29 (K : Kt) : tl K (lX11_readRest) 29 = o_pushI (nI 1) 30 := rfl
theorem aX11_readRest_30 (K : Kt) : tl K (lX11_readRest) 30 = o_iadd 31 := rfl
theorem aX11_readRest_31 (K : Kt) : tl K (lX11_readRest) 31 = o_iast 32 := rfl
theorem aX11_readRest_32 (K : Kt) : tl K (lX11_readRest) 32 = o_aload 0 33 := rfl
theorem aX11_readRest_33 (K : Kt) : tl K (lX11_readRest) 33 = o_pushI (nI 246) 36 := rfl
theorem aX11_readRest_36 (K : Kt) : tl K (lX11_readRest) 36 = o_iload 1 37 := rfl
theorem aX11_readRest_37 (K : Kt) : tl K (lX11_readRest) 37 = o_iadd 38 := rfl
theorem aX11_readRest_38 (K : Kt) : tl K (lX11_readRest) 38 = o_iload 1 39 := rfl
theorem aX11_readRest_39 (K : Kt) : tl K (lX11_readRest) 39 = o_if_ne 46 42 := rfl
theorem aX11_readRest_42 (K : Kt) : tl K (lX11_readRest) 42 = o_pushI (nI 1) 43 := rfl
theorem aX11_readRest_43 (K : Kt) : tl K (lX11_readRest) 43 = o_goto 60 := rfl
theorem aX11_readRest_46 (K : Kt) : tl K (lX11_readRest) 46 = o_aload 0 47 := rfl
theorem aX11_readRest_47 (K : Kt) : tl K (lX11_readRest) 47 = o_get 11 8 50 := rfl
theorem aX11_readRest_50 (K : Kt) : tl K (lX11_readRest) 50 = o_pushI (nI 246) 53 := rfl
theorem aX11_readRest_53 (K : Kt) : tl K (lX11_readRest) 53 = o_iload 1 54 := rfl
theorem aX11_readRest_54 (K : Kt) : tl K (lX11_readRest) 54 = o_iadd 55 := rfl
theorem aX11_readRest_55 (K : Kt) : tl K (lX11_readRest) 55 = o_pushI (nI 1) 56 := rfl
theorem aX11_readRest_56 (K : Kt) : tl K (lX11_readRest) 56 = o_isub 57 := rfl
theorem aX11_readRest_57 (K : Kt) : tl K (lX11_readRest) 57 = o_iald 58 := rfl
theorem aX11_readRest_58 (K : Kt) : tl K (lX11_readRest) 58 = o_pushI (nI 1) 59 := rfl
theorem aX11_readRest_59 (K : Kt) : tl K (lX11_readRest) 59 = o_iadd 60 := rfl
theorem aX11_readRest_60 (K : Kt) : tl K (lX11_readRest) 60 = o_pushI (nI 120) 62 := rfl
theorem aX11_readRest_62 (K : Kt) : tl K (lX11_readRest) 62 = o_callV fX11_takes 3 11 65 := rfl
theorem aX11_readRest_65 (K : Kt) : tl K (lX11_readRest) 65 = o_if_eq 87 68 := rfl
theorem aX11_readRest_68 (K : Kt) : tl K (lX11_readRest) 68 = o_aload 0 69 := rfl
theorem aX11_readRest_69 (K : Kt) : tl K (lX11_readRest) 69 = o_pushI (nI 251) 72 := rfl
theorem aX11_readRest_72 (K : Kt) : tl K (lX11_readRest) 72 = o_iload 1 73 := rfl
theorem aX11_readRest_73 (K : Kt) : tl K (lX11_readRest) 73 = o_iadd 74 := rfl
theorem aX11_readRest_74 (K : Kt) : tl K (lX11_readRest) 74 = o_pushI (nI 0) 75 := rfl
theorem aX11_readRest_75 (K : Kt) : tl K (lX11_readRest) 75 = o_pushI (nI 9) 77 := rfl
theorem aX11_readRest_77 (K : Kt) : tl K (lX11_readRest) 77 = o_callV fX11_takes 3 11 80 := rfl
theorem aX11_readRest_80 (K : Kt) : tl K (lX11_readRest) 80 = o_if_eq 87 83 := rfl
theorem aX11_readRest_83 (K : Kt) : tl K (lX11_readRest) 83 = o_pushI (nI 1) 84 := rfl
theorem aX11_readRest_84 (K : Kt) : tl K (lX11_readRest) 84 = o_goto 88 := rfl
theorem aX11_readRest_87 (K : Kt) : tl K (lX11_readRest) 87 = o_pushI (nI 0) 88 := rfl
theorem aX11_readRest_88 (K : Kt) : tl K (lX11_readRest) 88 = o_zret K := rfl
theorem eX11_readOnce {As L : List Value} {w : Wd} {K : Kt} (hw : wds As ≤ 4) (hL : ent 4 As = L) (h : RR (tl K lX11_readOnce) 0 L [] w) : fX11_readOnce As w K := ⟨hw, by rw [hL]; exact h⟩
theorem nX11_readOnce : MonoF fX11_readOnce := mono_f 4 lX11_readOnce
theorem aX11_readOnce_0 (K : Kt) : tl K (lX11_readOnce) 0 = o_aload 0 1 := rfl
theorem aX11_readOnce_1 (K : Kt) : tl K (lX11_readOnce) 1 = o_get 11 16 4 := rfl
theorem aX11_readOnce_4 (K : Kt) : tl K (lX11_readOnce) 4 = o_iload 1 5 := rfl
theorem aX11_readOnce_5 (K : Kt) : tl K (lX11_readOnce) 5 = o_ishr 6 := rfl
theorem aX11_readOnce_6 (K : Kt) : tl K (lX11_readOnce) 6 = o_pushI (nI 1) 7 := rfl
theorem aX11_readOnce_7 (K : Kt) : tl K (lX11_readOnce) 7 = o_iand 8 := rfl
theorem aX11_readOnce_8 (K : Kt) : tl K (lX11_readOnce) 8 = o_pushI (nI 1) 9 := rfl
theorem aX11_readOnce_9 (K : Kt) : tl K (lX11_readOnce) 9 = o_icmp_ne 18 12 := rfl
theorem aX11_readOnce_12 (K : Kt) : tl K (lX11_readOnce) 12 = o_aload 0 13 := rfl
theorem aX11_readOnce_13 (K : Kt) : tl K (lX11_readOnce) 13 = o_pushI (nI 3) 14 := rfl
theorem aX11_readOnce_14 (K : Kt) : tl K (lX11_readOnce) 14 = o_callV fX11_errs 1 11 17 := rfl
theorem aX11_readOnce_17 (K : Kt) : tl K (lX11_readOnce) 17 = o_zret K := rfl
theorem aX11_readOnce_18 (K : Kt) : tl K (lX11_readOnce) 18 = o_aload 0 19 := rfl
theorem aX11_readOnce_19 (K : Kt) : tl K (lX11_readOnce) 19 = o_dup 20 := rfl
theorem aX11_readOnce_20 (K : Kt) : tl K (lX11_readOnce) 20 = o_get 11 16 23 := rfl
theorem aX11_readOnce_23 (K : Kt) : tl K (lX11_readOnce) 23 = o_pushI (nI 1) 24 := rfl
theorem aX11_readOnce_24 (K : Kt) : tl K (lX11_readOnce) 24 = o_iload 1 25 := rfl
theorem aX11_readOnce_25 (K : Kt) : tl K (lX11_readOnce) 25 = o_ishl 26 := rfl
theorem aX11_readOnce_26 (K : Kt) : tl K (lX11_readOnce) 26 = o_ior 27 := rfl
theorem aX11_readOnce_27 (K : Kt) : tl K (lX11_readOnce) 27 = o_putI 11 16 30 := rfl
theorem aX11_readOnce_30 (K : Kt) : tl K (lX11_readOnce) 30 = o_aload 0 31 := rfl
theorem aX11_readOnce_31 (K : Kt) : tl K (lX11_readOnce) 31 = o_callV fX11_goesOn 0 11 34 := rfl
theorem aX11_readOnce_34 (K : Kt) : tl K (lX11_readOnce) 34 = o_aload 0 35 := rfl
theorem aX11_readOnce_35 (K : Kt) : tl K (lX11_readOnce) 35 = o_iload 1 36 := rfl
theorem aX11_readOnce_36 (K : Kt) : tl K (lX11_readOnce) 36 = o_iload 2 37 := rfl
theorem aX11_readOnce_37 (K : Kt) : tl K (lX11_readOnce) 37 = o_iload 3 38 := rfl
theorem aX11_readOnce_38 (K : Kt) : tl K (lX11_readOnce) 38 = o_callV fX11_takes 3 11 41 := rfl
theorem aX11_readOnce_41 (K : Kt) : tl K (lX11_readOnce) 41 = o_zret K := rfl
theorem eX11_readLine {As L : List Value} {w : Wd} {K : Kt} (hw : wds As ≤ 1) (hL : ent 1 As = L) (h : RR (tl K lX11_readLine) 0 L [] w) : fX11_readLine As w K := ⟨hw, by rw [hL]; exact h⟩
theorem nX11_readLine : MonoF fX11_readLine := mono_f 1 lX11_readLine
theorem aX11_readLine_0 (K : Kt) : tl K (lX11_readLine) 0 = o_aload 0 1 := rfl
theorem aX11_readLine_1 (K : Kt) : tl K (lX11_readLine) 1 = o_pushR 200 3 := rfl
theorem aX11_readLine_3 (K : Kt) : tl K (lX11_readLine) 3 = o_callV fX11_isWord 1 11 6 := rfl
theorem aX11_readLine_6 (K : Kt) : tl K (lX11_readLine) 6 = o_if_eq 14 9 := rfl
theorem aX11_readLine_9 (K : Kt) : tl K (lX11_readLine) 9 = o_aload 0 10 := rfl
theorem aX11_readLine_10 (K : Kt) : tl K (lX11_readLine) 10 = o_callV fX11_readArm 0 11 13 := rfl
theorem aX11_readLine_13 (K : Kt) : tl K (lX11_readLine) 13 = o_zret K := rfl
theorem aX11_readLine_14 (K : Kt) : tl K (lX11_readLine) 14 = o_aload 0 15 := rfl
theorem aX11_readLine_15 (K : Kt) : tl K (lX11_readLine) 15 = o_pushR 203 17 := rfl
theorem aX11_readLine_17 (K : Kt) : tl K (lX11_readLine) 17 = o_callV fX11_isWord 1 11 20 := rfl
theorem aX11_readLine_20 (K : Kt) : tl K (lX11_readLine) 20 = o_if_eq 28 23 := rfl
theorem aX11_readLine_23 (K : Kt) : tl K (lX11_readLine) 23 = o_aload 0 24 := rfl
theorem aX11_readLine_24 (K : Kt) : tl K (lX11_readLine) 24 = o_callV fX11_readGame 0 11 27 := rfl
theorem aX11_readLine_27 (K : Kt) : tl K (lX11_readLine) 27 = o_zret K := rfl
theorem aX11_readLine_28 (K : Kt) : tl K (lX11_readLine) 28 = o_aload 0 29 := rfl
theorem aX11_readLine_29 (K : Kt) : tl K (lX11_readLine) 29 = o_pushR 204 31 := rfl
theorem aX11_readLine_31 (K : Kt) : tl K (lX11_readLine) 31 = o_callV fX11_isWord 1 11 34 := rfl
theorem aX11_readLine_34 (K : Kt) : tl K (lX11_readLine) 34 = o_if_eq 42 37 := rfl
theorem aX11_readLine_37 (K : Kt) : tl K (lX11_readLine) 37 = o_aload 0 38 := rfl
theorem aX11_readLine_38 (K : Kt) : tl K (lX11_readLine) 38 = o_callV fX11_readRest 0 11 41 := rfl
theorem aX11_readLine_41 (K : Kt) : tl K (lX11_readLine) 41 = o_zret K := rfl
theorem aX11_readLine_42 (K : Kt) : tl K (lX11_readLine) 42 = o_aload 0 43 := rfl
theorem aX11_readLine_43 (K : Kt) : tl K (lX11_readLine) 43 = o_pushR 205 45 := rfl
theorem aX11_readLine_45 (K : Kt) : tl K (lX11_readLine) 45 = o_callV fX11_isWord 1 11 48 := rfl
theorem aX11_readLine_48 (K : Kt) : tl K (lX11_readLine) 48 = o_if_eq 61 51 := rfl
theorem aX11_readLine_51 (K : Kt) : tl K (lX11_readLine) 51 = o_aload 0 52 := rfl
theorem aX11_readLine_52 (K : Kt) : tl K (lX11_readLine) 52 = o_pushI (nI 3) 53 := rfl
theorem aX11_readLine_53 (K : Kt) : tl K (lX11_readLine) 53 = o_pushI (nI 0) 54 := rfl
theorem aX11_readLine_54 (K : Kt) : tl K (lX11_readLine) 54 = o_pushI (nI 500) 57 := rfl
theorem aX11_readLine_57 (K : Kt) : tl K (lX11_readLine) 57 = o_callV fX11_readOnce 3 11 60 := rfl
theorem aX11_readLine_60 (K : Kt) : tl K (lX11_readLine) 60 = o_zret K := rfl
theorem aX11_readLine_61 (K : Kt) : tl K (lX11_readLine) 61 = o_aload 0 62 := rfl
theorem aX11_readLine_62 (K : Kt) : tl K (lX11_readLine) 62 = o_pushR 206 64 := rfl
theorem aX11_readLine_64 (K : Kt) : tl K (lX11_readLine) 64 = o_callV fX11_isWord 1 11 67 := rfl
theorem aX11_readLine_67 (K : Kt) : tl K (lX11_readLine) 67 = o_if_eq 79 70 := rfl
theorem aX11_readLine_70 (K : Kt) : tl K (lX11_readLine) 70 = o_aload 0 71 := rfl
theorem aX11_readLine_71 (K : Kt) : tl K (lX11_readLine) 71 = o_pushI (nI 4) 72 := rfl
theorem aX11_readLine_72 (K : Kt) : tl K (lX11_readLine) 72 = o_pushI (nI 0) 73 := rfl
theorem aX11_readLine_73 (K : Kt) : tl K (lX11_readLine) 73 = o_pushI (nI 9) 75 := rfl
theorem aX11_readLine_75 (K : Kt) : tl K (lX11_readLine) 75 = o_callV fX11_readOnce 3 11 78 := rfl
theorem aX11_readLine_78 (K : Kt) : tl K (lX11_readLine) 78 = o_zret K := rfl
theorem aX11_readLine_79 (K : Kt) : tl K (lX11_readLine) 79 = o_aload 0 80 := rfl
theorem aX11_readLine_80 (K : Kt) : tl K (lX11_readLine) 80 = o_pushR 207 82 := rfl
theorem aX11_readLine_82 (K : Kt) : tl K (lX11_readLine) 82 = o_callV fX11_isWord 1 11 85 := rfl
theorem aX11_readLine_85 (K : Kt) : tl K (lX11_readLine) 85 = o_if_eq 99 88 := rfl
theorem aX11_readLine_88 (K : Kt) : tl K (lX11_readLine) 88 = o_aload 0 89 := rfl
theorem aX11_readLine_89 (K : Kt) : tl K (lX11_readLine) 89 = o_pushI (nI 5) 90 := rfl
theorem aX11_readLine_90 (K : Kt) : tl K (lX11_readLine) 90 = o_pushI (nI 1) 91 := rfl
theorem aX11_readLine_91 (K : Kt) : tl K (lX11_readLine) 91 = o_pushI (nI 60) 93 := rfl
theorem aX11_readLine_93 (K : Kt) : tl K (lX11_readLine) 93 = o_callV fX11_readOnce 3 11 96 := rfl
theorem aX11_readLine_96 (K : Kt) : tl K (lX11_readLine) 96 = o_goto 104 := rfl
theorem aX11_readLine_99 (K : Kt) : tl K (lX11_readLine) 99 = o_aload 0 100 := rfl
theorem aX11_readLine_100 (K : Kt) : tl K (lX11_readLine) 100 = o_pushI (nI 1) 101 := rfl
theorem aX11_readLine_101 (K : Kt) : tl K (lX11_readLine) 101 = o_callV fX11_errs 1 11 104 := rfl
theorem aX11_readLine_104 (K : Kt) : tl K (lX11_readLine) 104 = o_zret K := rfl
theorem eX11_readAll {As L : List Value} {w : Wd} {K : Kt} (hw : wds As ≤ 3) (hL : ent 3 As = L) (h : RR (tl K lX11_readAll) 0 L [] w) : fX11_readAll As w K := ⟨hw, by rw [hL]; exact h⟩
theorem nX11_readAll : MonoF fX11_readAll := mono_f 3 lX11_readAll
theorem aX11_readAll_0 (K : Kt) : tl K (lX11_readAll) 0 = o_aload 0 1 := rfl
theorem aX11_readAll_1 (K : Kt) : tl K (lX11_readAll) 1 = o_iload 1 2 := rfl
theorem aX11_readAll_2 (K : Kt) : tl K (lX11_readAll) 2 = o_putI 11 11 5 := rfl
theorem aX11_readAll_5 (K : Kt) : tl K (lX11_readAll) 5 = o_aload 0 6 := rfl
theorem aX11_readAll_6 (K : Kt) : tl K (lX11_readAll) 6 = o_pushI (nI 0) 7 := rfl
theorem aX11_readAll_7 (K : Kt) : tl K (lX11_readAll) 7 = o_putI 11 13 10 := rfl
theorem aX11_readAll_10 (K : Kt) : tl K (lX11_readAll) 10 = o_aload 0 11 := rfl
theorem aX11_readAll_11 (K : Kt) : tl K (lX11_readAll) 11 = o_pushI (nI 0) 12 := rfl
theorem aX11_readAll_12 (K : Kt) : tl K (lX11_readAll) 12 = o_putI 11 16 15 := rfl
theorem aX11_readAll_15 (K : Kt) : tl K (lX11_readAll) 15 = o_pushI (nI 0) 16 := rfl
theorem aX11_readAll_16 (K : Kt) : tl K (lX11_readAll) 16 = o_istore 2 17 := rfl
theorem aX11_readAll_17 (K : Kt) : tl K (lX11_readAll) 17 = o_iload 2 18 := rfl
theorem aX11_readAll_18 (K : Kt) : tl K (lX11_readAll) 18 = o_pushI (nI 256) 21 := rfl
theorem aX11_readAll_21 (K : Kt) : tl K (lX11_readAll) 21 = o_icmp_ge 47 24 := rfl
theorem aX11_readAll_24 (K : Kt) : tl K (lX11_readAll) 24 = o_aload 0 25 := rfl
theorem aX11_readAll_25 (K : Kt) : tl K (lX11_readAll) 25 = o_get 11 8 28 := rfl
theorem aX11_readAll_28 (K : Kt) : tl K (lX11_readAll) 28 = o_iload 2 29 := rfl
theorem aX11_readAll_29 (K : Kt) : tl K (lX11_readAll) 29 = o_iload 2 30 := rfl
theorem aX11_readAll_30 (K : Kt) : tl K (lX11_readAll) 30 = o_pushI (nI 5) 31 := rfl
theorem aX11_readAll_31 (K : Kt) : tl K (lX11_readAll) 31 = o_icmp_ne 39 34 := rfl
theorem aX11_readAll_34 (K : Kt) : tl K (lX11_readAll) 34 = o_pushI (nI 15) 36 := rfl
theorem aX11_readAll_36 (K : Kt) : tl K (lX11_readAll) 36 = o_goto 40 := rfl
theorem aX11_readAll_39 (K : Kt) : tl K (lX11_readAll) 39 = o_pushI (nI 0) 40 := rfl
theorem aX11_readAll_40 (K : Kt) : tl K (lX11_readAll) 40 = o_iast 41 := rfl
theorem aX11_readAll_41 (K : Kt) : tl K (lX11_readAll) 41 = o_iinc 2 (nI 1) 44 := rfl
theorem aX11_readAll_44 (K : Kt) : tl K (lX11_readAll) 44 = o_goto 17 := rfl
theorem aX11_readAll_47 (K : Kt) : tl K (lX11_readAll) 47 = o_aload 0 48 := rfl
theorem aX11_readAll_48 (K : Kt) : tl K (lX11_readAll) 48 = o_callV fX11_goesOn 0 11 51 := rfl
theorem aX11_readAll_51 (K : Kt) : tl K (lX11_readAll) 51 = o_aload 0 52 := rfl
theorem aX11_readAll_52 (K : Kt) : tl K (lX11_readAll) 52 = o_callV fX11_readLine 0 11 55 := rfl
theorem aX11_readAll_55 (K : Kt) : tl K (lX11_readAll) 55 = o_if_ne 60 58 := rfl
theorem aX11_readAll_58 (K : Kt) : tl K (lX11_readAll) 58 = o_pushI (nI 0) 59 := rfl
theorem aX11_readAll_59 (K : Kt) : tl K (lX11_readAll) 59 = o_zret K := rfl
theorem aX11_readAll_60 (K : Kt) : tl K (lX11_readAll) 60 = o_aload 0 61 := rfl
theorem aX11_readAll_61 (K : Kt) : tl K (lX11_readAll) 61 = o_get 11 14 64 := rfl
theorem aX11_readAll_64 (K : Kt) : tl K (lX11_readAll) 64 = o_pushI (nI 59) 66 := rfl
theorem aX11_readAll_66 (K : Kt) : tl K (lX11_readAll) 66 = o_icmp_ne 82 69 := rfl
theorem aX11_readAll_69 (K : Kt) : tl K (lX11_readAll) 69 = o_aload 0 70 := rfl
theorem aX11_readAll_70 (K : Kt) : tl K (lX11_readAll) 70 = o_callV fX11_goesOn 0 11 73 := rfl
theorem aX11_readAll_73 (K : Kt) : tl K (lX11_readAll) 73 = o_aload 0 74 := rfl
theorem aX11_readAll_74 (K : Kt) : tl K (lX11_readAll) 74 = o_callV fX11_readLine 0 11 77 := rfl
theorem aX11_readAll_77 (K : Kt) : tl K (lX11_readAll) 77 = o_if_ne 60 80 := rfl
theorem aX11_readAll_80 (K : Kt) : tl K (lX11_readAll) 80 = o_pushI (nI 0) 81 := rfl
theorem aX11_readAll_81 (K : Kt) : tl K (lX11_readAll) 81 = o_zret K := rfl
theorem aX11_readAll_82 (K : Kt) : tl K (lX11_readAll) 82 = o_aload 0 83 := rfl
theorem aX11_readAll_83 (K : Kt) : tl K (lX11_readAll) 83 = o_get 11 14 86 := rfl
theorem aX11_readAll_86 (K : Kt) : tl K (lX11_readAll) 86 = o_if_eq 95 89 := rfl
theorem aX11_readAll_89 (K : Kt) : tl K (lX11_readAll) 89 = o_aload 0 90 := rfl
theorem aX11_readAll_90 (K : Kt) : tl K (lX11_readAll) 90 = o_pushI (nI 1) 91 := rfl
theorem aX11_readAll_91 (K : Kt) : tl K (lX11_readAll) 91 = o_callV fX11_errs 1 11 94 := rfl
theorem aX11_readAll_94 (K : Kt) : tl K (lX11_readAll) 94 = o_zret K := rfl
theorem aX11_readAll_95 (K : Kt) : tl K (lX11_readAll) 95 = o_aload 0 96 := rfl
theorem aX11_readAll_96 (K : Kt) : tl K (lX11_readAll) 96 = o_get 11 8 99 := rfl
theorem aX11_readAll_99 (K : Kt) : tl K (lX11_readAll) 99 = o_pushI (nI 0) 100 := rfl
theorem aX11_readAll_100 (K : Kt) : tl K (lX11_readAll) 100 = o_iald 101 := rfl
theorem aX11_readAll_101 (K : Kt) : tl K (lX11_readAll) 101 = o_if_le 113 104 := rfl
theorem aX11_readAll_104 (K : Kt) : tl K (lX11_readAll) 104 = o_aload 0 105 := rfl
theorem aX11_readAll_105 (K : Kt) : tl K (lX11_readAll) 105 = o_get 11 8 108 := rfl
theorem aX11_readAll_108 (K : Kt) : tl K (lX11_readAll) 108 = o_pushI (nI 1) 109 := rfl
theorem aX11_readAll_109 (K : Kt) : tl K (lX11_readAll) 109 = o_iald 110 := rfl
theorem aX11_readAll_110 (K : Kt) : tl K (lX11_readAll) 110 = o_if_gt 121 113 := rfl
set_option maxRecDepth 8000 in
theorem aX11_readAll_113 (K : Kt) : tl K (lX11_readAll) 113 = o_aload 0 114 := rfl
set_option maxRecDepth 8000 in
theorem aX11_readAll_114 (K : Kt) : tl K (lX11_readAll) 114 = o_pushI (nI 5) 115 := rfl
set_option maxRecDepth 8000 in
theorem aX11_readAll_115 (K : Kt) : tl K (lX11_readAll) 115 = o_callV fX11_errs 1 11 118 := rfl
set_option maxRecDepth 8000 in
theorem aX11_readAll_118 (K : Kt) : tl K (lX11_readAll) 118 = o_if_eq 125 121 := rfl
set_option maxRecDepth 8000 in
theorem aX11_readAll_121 (K : Kt) : tl K (lX11_readAll) 121 = o_pushI (nI 1) 122 := rfl
set_option maxRecDepth 8000 in
theorem aX11_readAll_122 (K : Kt) : tl K (lX11_readAll) 122 = o_goto 126 := rfl
set_option maxRecDepth 8000 in
theorem aX11_readAll_125 (K : Kt) : tl K (lX11_readAll) 125 = o_pushI (nI 0) 126 := rfl
set_option maxRecDepth 8000 in
theorem aX11_readAll_126 (K : Kt) : tl K (lX11_readAll) 126 = o_zret K := rfl
theorem eX11_lays {As L : List Value} {w : Wd} {K : Kt} (hw : wds As ≤ 6) (hL : ent 6 As = L) (h : RR (tl K lX11_lays) 0 L [] w) : fX11_lays As w K := ⟨hw, by rw [hL]; exact h⟩
theorem nX11_lays : MonoF fX11_lays := mono_f 6 lX11_lays
theorem aX11_lays_0 (K : Kt) : tl K (lX11_lays) 0 = o_pushI (nI 0) 1 := rfl
theorem aX11_lays_1 (K : Kt) : tl K (lX11_lays) 1 = o_istore 5 3 := rfl
theorem aX11_lays_3 (K : Kt) : tl K (lX11_lays) 3 = o_iload 5 5 := rfl
theorem aX11_lays_5 (K : Kt) : tl K (lX11_lays) 5 = o_iload 4 7 := rfl
theorem aX11_lays_7 (K : Kt) : tl K (lX11_lays) 7 = o_icmp_ge 28 10 := rfl
theorem aX11_lays_10 (K : Kt) : tl K (lX11_lays) 10 = o_aload 0 11 := rfl
theorem aX11_lays_11 (K : Kt) : tl K (lX11_lays) 11 = o_iload 1 12 := rfl
theorem aX11_lays_12 (K : Kt) : tl K (lX11_lays) 12 = o_iload 5 14 := rfl
theorem aX11_lays_14 (K : Kt) : tl K (lX11_lays) 14 = o_iadd 15 := rfl
theorem aX11_lays_15 (K : Kt) : tl K (lX11_lays) 15 = o_aload 2 16 := rfl
theorem aX11_lays_16 (K : Kt) : tl K (lX11_lays) 16 = o_iload 3 17 := rfl
theorem aX11_lays_17 (K : Kt) : tl K (lX11_lays) 17 = o_iload 5 19 := rfl
theorem aX11_lays_19 (K : Kt) : tl K (lX11_lays) 19 = o_iadd 20 := rfl
theorem aX11_lays_20 (K : Kt) : tl K (lX11_lays) 20 = o_iald 21 := rfl
theorem aX11_lays_21 (K : Kt) : tl K (lX11_lays) 21 = o_iast 22 := rfl
theorem aX11_lays_22 (K : Kt) : tl K (lX11_lays) 22 = o_iinc 5 (nI 1) 25 := rfl
theorem aX11_lays_25 (K : Kt) : tl K (lX11_lays) 25 = o_goto 3 := rfl
theorem aX11_lays_28 (K : Kt) : tl K (lX11_lays) 28 = o_vret K := rfl
theorem eX11_text {As L : List Value} {w : Wd} {K : Kt} (hw : wds As ≤ 2) (hL : ent 2 As = L) (h : RR (tl K lX11_text) 0 L [] w) : fX11_text As w K := ⟨hw, by rw [hL]; exact h⟩
theorem nX11_text : MonoF fX11_text := mono_f 2 lX11_text
theorem aX11_text_0 (K : Kt) : tl K (lX11_text) 0 = o_aload 0 1 := rfl
theorem aX11_text_1 (K : Kt) : tl K (lX11_text) 1 = o_pushI (nI 1) 2 := rfl
theorem aX11_text_2 (K : Kt) : tl K (lX11_text) 2 = o_iload 1 3 := rfl
theorem aX11_text_3 (K : Kt) : tl K (lX11_text) 3 = o_pushI (nI 0) 4 := rfl
theorem aX11_text_4 (K : Kt) : tl K (lX11_text) 4 = o_aload 0 5 := rfl
theorem aX11_text_5 (K : Kt) : tl K (lX11_text) 5 = o_get 11 5 8 := rfl
theorem aX11_text_8 (K : Kt) : tl K (lX11_text) 8 = o_callS fX11_in 3 11 := rfl
theorem aX11_text_11 (K : Kt) : tl K (lX11_text) 11 = o_callS fX11_unless_ 2 14 := rfl
theorem aX11_text_14 (K : Kt) : tl K (lX11_text) 14 = o_callV fX11_isRefused 1 11 17 := rfl
theorem aX11_text_17 (K : Kt) : tl K (lX11_text) 17 = o_if_eq 22 20 := rfl
theorem aX11_text_20 (K : Kt) : tl K (lX11_text) 20 = o_pushI ((-1)) 21 := rfl
theorem aX11_text_21 (K : Kt) : tl K (lX11_text) 21 = o_iret K := rfl
theorem aX11_text_22 (K : Kt) : tl K (lX11_text) 22 = o_aload 0 23 := rfl
theorem aX11_text_23 (K : Kt) : tl K (lX11_text) 23 = o_pushI (nI 0) 24 := rfl
theorem aX11_text_24 (K : Kt) : tl K (lX11_text) 24 = o_putI 11 5 27 := rfl
theorem aX11_text_27 (K : Kt) : tl K (lX11_text) 27 = o_aload 0 28 := rfl
theorem aX11_text_28 (K : Kt) : tl K (lX11_text) 28 = o_pushI (nI 0) 29 := rfl
theorem aX11_text_29 (K : Kt) : tl K (lX11_text) 29 = o_putI 11 2 32 := rfl
theorem aX11_text_32 (K : Kt) : tl K (lX11_text) 32 = o_aload 0 33 := rfl
theorem aX11_text_33 (K : Kt) : tl K (lX11_text) 33 = o_iload 1 34 := rfl
theorem aX11_text_34 (K : Kt) : tl K (lX11_text) 34 = o_callV fX11_readAll 1 11 37 := rfl
theorem aX11_text_37 (K : Kt) : tl K (lX11_text) 37 = o_if_ne 62 40 := rfl
theorem aX11_text_40 (K : Kt) : tl K (lX11_text) 40 = o_aload 0 41 := rfl
theorem aX11_text_41 (K : Kt) : tl K (lX11_text) 41 = o_aload 0 42 := rfl
theorem aX11_text_42 (K : Kt) : tl K (lX11_text) 42 = o_get 11 17 45 := rfl
theorem aX11_text_45 (K : Kt) : tl K (lX11_text) 45 = o_putI 11 2 48 := rfl
theorem aX11_text_48 (K : Kt) : tl K (lX11_text) 48 = o_aload 0 49 := rfl
theorem aX11_text_49 (K : Kt) : tl K (lX11_text) 49 = o_aload 0 50 := rfl
theorem aX11_text_50 (K : Kt) : tl K (lX11_text) 50 = o_get 11 18 53 := rfl
theorem aX11_text_53 (K : Kt) : tl K (lX11_text) 53 = o_putI 11 3 56 := rfl
theorem aX11_text_56 (K : Kt) : tl K (lX11_text) 56 = o_aload 0 57 := rfl
theorem aX11_text_57 (K : Kt) : tl K (lX11_text) 57 = o_pushI (nI 4) 58 := rfl
theorem aX11_text_58 (K : Kt) : tl K (lX11_text) 58 = o_callV fX11_no 1 11 61 := rfl
theorem aX11_text_61 (K : Kt) : tl K (lX11_text) 61 = o_iret K := rfl
theorem aX11_text_62 (K : Kt) : tl K (lX11_text) 62 = o_aload 0 63 := rfl
theorem aX11_text_63 (K : Kt) : tl K (lX11_text) 63 = o_pushI (nI 1) 64 := rfl
theorem aX11_text_64 (K : Kt) : tl K (lX11_text) 64 = o_putZ 11 6 67 := rfl
theorem aX11_text_67 (K : Kt) : tl K (lX11_text) 67 = o_aload 0 68 := rfl
theorem aX11_text_68 (K : Kt) : tl K (lX11_text) 68 = o_pushI (nI 0) 69 := rfl
theorem aX11_text_69 (K : Kt) : tl K (lX11_text) 69 = o_putI 11 24 72 := rfl
theorem aX11_text_72 (K : Kt) : tl K (lX11_text) 72 = o_aload 0 73 := rfl
theorem aX11_text_73 (K : Kt) : tl K (lX11_text) 73 = o_get 11 7 76 := rfl
theorem aX11_text_76 (K : Kt) : tl K (lX11_text) 76 = o_pushI (nI 0) 77 := rfl
theorem aX11_text_77 (K : Kt) : tl K (lX11_text) 77 = o_aload 0 78 := rfl
theorem aX11_text_78 (K : Kt) : tl K (lX11_text) 78 = o_get 11 8 81 := rfl
theorem aX11_text_81 (K : Kt) : tl K (lX11_text) 81 = o_pushI (nI 0) 82 := rfl
theorem aX11_text_82 (K : Kt) : tl K (lX11_text) 82 = o_pushI (nI 256) 85 := rfl
theorem aX11_text_85 (K : Kt) : tl K (lX11_text) 85 = o_callS fX11_lays 5 88 := rfl
theorem aX11_text_88 (K : Kt) : tl K (lX11_text) 88 = o_aload 0 89 := rfl
theorem aX11_text_89 (K : Kt) : tl K (lX11_text) 89 = o_get 11 9 92 := rfl
theorem aX11_text_92 (K : Kt) : tl K (lX11_text) 92 = o_pushI (nI 0) 93 := rfl
theorem aX11_text_93 (K : Kt) : tl K (lX11_text) 93 = o_aload 0 94 := rfl
theorem aX11_text_94 (K : Kt) : tl K (lX11_text) 94 = o_get 11 10 97 := rfl
theorem aX11_text_97 (K : Kt) : tl K (lX11_text) 97 = o_pushI (nI 0) 98 := rfl
theorem aX11_text_98 (K : Kt) : tl K (lX11_text) 98 = o_pushI (nI 56) 100 := rfl
theorem aX11_text_100 (K : Kt) : tl K (lX11_text) 100 = o_callS fX11_lays 5 103 := rfl
theorem aX11_text_103 (K : Kt) : tl K (lX11_text) 103 = o_aload 0 104 := rfl
theorem aX11_text_104 (K : Kt) : tl K (lX11_text) 104 = o_get 11 7 107 := rfl
theorem aX11_text_107 (K : Kt) : tl K (lX11_text) 107 = o_pushI (nI 1) 108 := rfl
theorem aX11_text_108 (K : Kt) : tl K (lX11_text) 108 = o_iald 109 := rfl
theorem aX11_text_109 (K : Kt) : tl K (lX11_text) 109 = o_iret K := rfl
theorem eX11_fault {As L : List Value} {w : Wd} {K : Kt} (hw : wds As ≤ 1) (hL : ent 1 As = L) (h : RR (tl K lX11_fault) 0 L [] w) : fX11_fault As w K := ⟨hw, by rw [hL]; exact h⟩
theorem nX11_fault : MonoF fX11_fault := mono_f 1 lX11_fault
theorem aX11_fault_0 (K : Kt) : tl K (lX11_fault) 0 = o_aload 0 1 := rfl
theorem aX11_fault_1 (K : Kt) : tl K (lX11_fault) 1 = o_pushI (nI 0) 2 := rfl
theorem aX11_fault_2 (K : Kt) : tl K (lX11_fault) 2 = o_putI 11 0 5 := rfl
theorem aX11_fault_5 (K : Kt) : tl K (lX11_fault) 5 = o_aload 0 6 := rfl
theorem aX11_fault_6 (K : Kt) : tl K (lX11_fault) 6 = o_get 11 2 9 := rfl
theorem aX11_fault_9 (K : Kt) : tl K (lX11_fault) 9 = o_iret K := rfl
theorem eX11_where {As L : List Value} {w : Wd} {K : Kt} (hw : wds As ≤ 1) (hL : ent 1 As = L) (h : RR (tl K lX11_where) 0 L [] w) : fX11_where As w K := ⟨hw, by rw [hL]; exact h⟩
theorem nX11_where : MonoF fX11_where := mono_f 1 lX11_where
theorem aX11_where_0 (K : Kt) : tl K (lX11_where) 0 = o_aload 0 1 := rfl
theorem aX11_where_1 (K : Kt) : tl K (lX11_where) 1 = o_pushI (nI 0) 2 := rfl
theorem aX11_where_2 (K : Kt) : tl K (lX11_where) 2 = o_putI 11 0 5 := rfl
theorem aX11_where_5 (K : Kt) : tl K (lX11_where) 5 = o_aload 0 6 := rfl
theorem aX11_where_6 (K : Kt) : tl K (lX11_where) 6 = o_get 11 1 9 := rfl
theorem aX11_where_9 (K : Kt) : tl K (lX11_where) 9 = o_pushI (nI 4) 10 := rfl
theorem aX11_where_10 (K : Kt) : tl K (lX11_where) 10 = o_icmp_ne 20 13 := rfl
theorem aX11_where_13 (K : Kt) : tl K (lX11_where) 13 = o_aload 0 14 := rfl
theorem aX11_where_14 (K : Kt) : tl K (lX11_where) 14 = o_get 11 3 17 := rfl
theorem aX11_where_17 (K : Kt) : tl K (lX11_where) 17 = o_goto 21 := rfl
theorem aX11_where_20 (K : Kt) : tl K (lX11_where) 20 = o_pushI ((-1)) 21 := rfl
theorem aX11_where_21 (K : Kt) : tl K (lX11_where) 21 = o_iret K := rfl
theorem eX11_isArm {As L : List Value} {w : Wd} {K : Kt} (hw : wds As ≤ 2) (hL : ent 2 As = L) (h : RR (tl K lX11_isArm) 0 L [] w) : fX11_isArm As w K := ⟨hw, by rw [hL]; exact h⟩
theorem nX11_isArm : MonoF fX11_isArm := mono_f 2 lX11_isArm
theorem aX11_isArm_0 (K : Kt) : tl K (lX11_isArm) 0 = o_iload 1 1 := rfl
theorem aX11_isArm_1 (K : Kt) : tl K (lX11_isArm) 1 = o_pushI (nI 0) 2 := rfl
theorem aX11_isArm_2 (K : Kt) : tl K (lX11_isArm) 2 = o_aload 0 3 := rfl
theorem aX11_isArm_3 (K : Kt) : tl K (lX11_isArm) 3 = o_get 11 7 6 := rfl
theorem aX11_isArm_6 (K : Kt) : tl K (lX11_isArm) 6 = o_pushI (nI 0) 7 := rfl
theorem aX11_isArm_7 (K : Kt) : tl K (lX11_isArm) 7 = o_iald 8 := rfl
theorem aX11_isArm_8 (K : Kt) : tl K (lX11_isArm) 8 = o_pushI (nI 1) 9 := rfl
theorem aX11_isArm_9 (K : Kt) : tl K (lX11_isArm) 9 = o_isub 10 := rfl
theorem aX11_isArm_10 (K : Kt) : tl K (lX11_isArm) 10 = o_callS fX11_in 3 13 := rfl
theorem aX11_isArm_13 (K : Kt) : tl K (lX11_isArm) 13 = o_zret K := rfl
theorem eX11_isGame {As L : List Value} {w : Wd} {K : Kt} (hw : wds As ≤ 2) (hL : ent 2 As = L) (h : RR (tl K lX11_isGame) 0 L [] w) : fX11_isGame As w K := ⟨hw, by rw [hL]; exact h⟩
theorem nX11_isGame : MonoF fX11_isGame := mono_f 2 lX11_isGame
theorem aX11_isGame_0 (K : Kt) : tl K (lX11_isGame) 0 = o_iload 1 1 := rfl
theorem aX11_isGame_1 (K : Kt) : tl K (lX11_isGame) 1 = o_pushI (nI 0) 2 := rfl
theorem aX11_isGame_2 (K : Kt) : tl K (lX11_isGame) 2 = o_aload 0 3 := rfl
theorem aX11_isGame_3 (K : Kt) : tl K (lX11_isGame) 3 = o_get 11 7 6 := rfl
theorem aX11_isGame_6 (K : Kt) : tl K (lX11_isGame) 6 = o_pushI (nI 1) 7 := rfl
theorem aX11_isGame_7 (K : Kt) : tl K (lX11_isGame) 7 = o_iald 8 := rfl
theorem aX11_isGame_8 (K : Kt) : tl K (lX11_isGame) 8 = o_pushI (nI 1) 9 := rfl
theorem aX11_isGame_9 (K : Kt) : tl K (lX11_isGame) 9 = o_isub 10 := rfl
theorem aX11_isGame_10 (K : Kt) : tl K (lX11_isGame) 10 = o_callS fX11_in 3 13 := rfl
theorem aX11_isGame_13 (K : Kt) : tl K (lX11_isGame) 13 = o_zret K := rfl
theorem eX11_outingsAll {As L : List Value} {w : Wd} {K : Kt} (hw : wds As ≤ 3) (hL : ent 3 As = L) (h : RR (tl K lX11_outingsAll) 0 L [] w) : fX11_outingsAll As w K := ⟨hw, by rw [hL]; exact h⟩
theorem nX11_outingsAll : MonoF fX11_outingsAll := mono_f 3 lX11_outingsAll
theorem aX11_outingsAll_0 (K : Kt) : tl K (lX11_outingsAll) 0 = o_pushI (nI 0) 1 := rfl
theorem aX11_outingsAll_1 (K : Kt) : tl K (lX11_outingsAll) 1 = o_istore 1 2 := rfl
theorem aX11_outingsAll_2 (K : Kt) : tl K (lX11_outingsAll) 2 = o_pushI (nI 0) 3 := rfl
theorem aX11_outingsAll_3 (K : Kt) : tl K (lX11_outingsAll) 3 = o_istore 2 4 := rfl
theorem aX11_outingsAll_4 (K : Kt) : tl K (lX11_outingsAll) 4 = o_iload 2 5 := rfl
theorem aX11_outingsAll_5 (K : Kt) : tl K (lX11_outingsAll) 5 = o_aload 0 6 := rfl
theorem aX11_outingsAll_6 (K : Kt) : tl K (lX11_outingsAll) 6 = o_get 11 7 9 := rfl
theorem aX11_outingsAll_9 (K : Kt) : tl K (lX11_outingsAll) 9 = o_pushI (nI 1) 10 := rfl
theorem aX11_outingsAll_10 (K : Kt) : tl K (lX11_outingsAll) 10 = o_iald 11 := rfl
theorem aX11_outingsAll_11 (K : Kt) : tl K (lX11_outingsAll) 11 = o_icmp_ge 32 14 := rfl
theorem aX11_outingsAll_14 (K : Kt) : tl K (lX11_outingsAll) 14 = o_iload 1 15 := rfl
theorem aX11_outingsAll_15 (K : Kt) : tl K (lX11_outingsAll) 15 = o_aload 0 16 := rfl
theorem aX11_outingsAll_16 (K : Kt) : tl K (lX11_outingsAll) 16 = o_get 11 7 19 := rfl
theorem aX11_outingsAll_19 (K : Kt) : tl K (lX11_outingsAll) 19 = o_pushI (nI 106) 21 := rfl
theorem aX11_outingsAll_21 (K : Kt) : tl K (lX11_outingsAll) 21 = o_iload 2 22 := rfl
theorem aX11_outingsAll_22 (K : Kt) : tl K (lX11_outingsAll) 22 = o_iadd 23 := rfl
theorem aX11_outingsAll_23 (K : Kt) : tl K (lX11_outingsAll) 23 = o_iald 24 := rfl
theorem aX11_outingsAll_24 (K : Kt) : tl K (lX11_outingsAll) 24 = o_iadd 25 := rfl
theorem aX11_outingsAll_25 (K : Kt) : tl K (lX11_outingsAll) 25 = o_istore 1 26 := rfl
theorem aX11_outingsAll_26 (K : Kt) : tl K (lX11_outingsAll) 26 = o_iinc 2 (nI 1) 29 := rfl
theorem aX11_outingsAll_29 (K : Kt) : tl K (lX11_outingsAll) 29 = o_goto 4 := rfl
theorem aX11_outingsAll_32 (K : Kt) : tl K (lX11_outingsAll) 32 = o_iload 1 33 := rfl
theorem aX11_outingsAll_33 (K : Kt) : tl K (lX11_outingsAll) 33 = o_iret K := rfl
theorem eX11_about {As L : List Value} {w : Wd} {K : Kt} (hw : wds As ≤ 2) (hL : ent 2 As = L) (h : RR (tl K lX11_about) 0 L [] w) : fX11_about As w K := ⟨hw, by rw [hL]; exact h⟩
theorem nX11_about : MonoF fX11_about := mono_f 2 lX11_about
theorem aX11_about_0 (K : Kt) : tl K (lX11_about) 0 = o_aload 0 1 := rfl
theorem aX11_about_1 (K : Kt) : tl K (lX11_about) 1 = o_aload 0 2 := rfl
theorem aX11_about_2 (K : Kt) : tl K (lX11_about) 2 = o_get 11 6 5 := rfl
theorem aX11_about_5 (K : Kt) : tl K (lX11_about) 5 = o_if_eq 22 8 := rfl
theorem aX11_about_8 (K : Kt) : tl K (lX11_about) 8 = o_iload 1 9 := rfl
theorem aX11_about_9 (K : Kt) : tl K (lX11_about) 9 = o_pushI (nI 0) 10 := rfl
theorem aX11_about_10 (K : Kt) : tl K (lX11_about) 10 = o_pushI (nI 7) 12 := rfl
theorem aX11_about_12 (K : Kt) : tl K (lX11_about) 12 = o_callS fX11_in 3 15 := rfl
theorem aX11_about_15 (K : Kt) : tl K (lX11_about) 15 = o_if_eq 22 18 := rfl
theorem aX11_about_18 (K : Kt) : tl K (lX11_about) 18 = o_pushI (nI 1) 19 := rfl
theorem aX11_about_19 (K : Kt) : tl K (lX11_about) 19 = o_goto 23 := rfl
theorem aX11_about_22 (K : Kt) : tl K (lX11_about) 22 = o_pushI (nI 0) 23 := rfl
theorem aX11_about_23 (K : Kt) : tl K (lX11_about) 23 = o_callS fX11_unless 1 26 := rfl
theorem aX11_about_26 (K : Kt) : tl K (lX11_about) 26 = o_callV fX11_isRefused 1 11 29 := rfl
theorem aX11_about_29 (K : Kt) : tl K (lX11_about) 29 = o_if_eq 34 32 := rfl
theorem aX11_about_32 (K : Kt) : tl K (lX11_about) 32 = o_pushI ((-1)) 33 := rfl
theorem aX11_about_33 (K : Kt) : tl K (lX11_about) 33 = o_iret K := rfl
theorem aX11_about_34 (K : Kt) : tl K (lX11_about) 34 = o_iload 1 35 := rfl
theorem aX11_about_35 (K : Kt) : tl K (lX11_about) 35 = o_table 0 6 123 [76, 83, 90, 95, 102, 109, 116] := rfl
theorem aX11_about_76 (K : Kt) : tl K (lX11_about) 76 = o_aload 0 77 := rfl
theorem aX11_about_77 (K : Kt) : tl K (lX11_about) 77 = o_get 11 7 80 := rfl
theorem aX11_about_80 (K : Kt) : tl K (lX11_about) 80 = o_pushI (nI 0) 81 := rfl
theorem aX11_about_81 (K : Kt) : tl K (lX11_about) 81 = o_iald 82 := rfl
theorem aX11_about_82 (K : Kt) : tl K (lX11_about) 82 = o_iret K := rfl
theorem aX11_about_83 (K : Kt) : tl K (lX11_about) 83 = o_aload 0 84 := rfl
theorem aX11_about_84 (K : Kt) : tl K (lX11_about) 84 = o_get 11 7 87 := rfl
theorem aX11_about_87 (K : Kt) : tl K (lX11_about) 87 = o_pushI (nI 1) 88 := rfl
theorem aX11_about_88 (K : Kt) : tl K (lX11_about) 88 = o_iald 89 := rfl
theorem aX11_about_89 (K : Kt) : tl K (lX11_about) 89 = o_iret K := rfl
theorem aX11_about_90 (K : Kt) : tl K (lX11_about) 90 = o_aload 0 91 := rfl
theorem aX11_about_91 (K : Kt) : tl K (lX11_about) 91 = o_callV fX11_outingsAll 0 11 94 := rfl
theorem aX11_about_94 (K : Kt) : tl K (lX11_about) 94 = o_iret K := rfl
theorem aX11_about_95 (K : Kt) : tl K (lX11_about) 95 = o_aload 0 96 := rfl
theorem aX11_about_96 (K : Kt) : tl K (lX11_about) 96 = o_get 11 7 99 := rfl
theorem aX11_about_99 (K : Kt) : tl K (lX11_about) 99 = o_pushI (nI 3) 100 := rfl
theorem aX11_about_100 (K : Kt) : tl K (lX11_about) 100 = o_iald 101 := rfl
theorem aX11_about_101 (K : Kt) : tl K (lX11_about) 101 = o_iret K := rfl
theorem aX11_about_102 (K : Kt) : tl K (lX11_about) 102 = o_aload 0 103 := rfl
theorem aX11_about_103 (K : Kt) : tl K (lX11_about) 103 = o_get 11 7 106 := rfl
theorem aX11_about_106 (K : Kt) : tl K (lX11_about) 106 = o_pushI (nI 4) 107 := rfl
theorem aX11_about_107 (K : Kt) : tl K (lX11_about) 107 = o_iald 108 := rfl
theorem aX11_about_108 (K : Kt) : tl K (lX11_about) 108 = o_iret K := rfl
theorem aX11_about_109 (K : Kt) : tl K (lX11_about) 109 = o_aload 0 110 := rfl
theorem aX11_about_110 (K : Kt) : tl K (lX11_about) 110 = o_get 11 7 113 := rfl
theorem aX11_about_113 (K : Kt) : tl K (lX11_about) 113 = o_pushI (nI 5) 114 := rfl
theorem aX11_about_114 (K : Kt) : tl K (lX11_about) 114 = o_iald 115 := rfl
theorem aX11_about_115 (K : Kt) : tl K (lX11_about) 115 = o_iret K := rfl
theorem aX11_about_116 (K : Kt) : tl K (lX11_about) 116 = o_aload 0 117 := rfl
theorem aX11_about_117 (K : Kt) : tl K (lX11_about) 117 = o_get 11 7 120 := rfl
theorem aX11_about_120 (K : Kt) : tl K (lX11_about) 120 = o_pushI (nI 2) 121 := rfl
theorem aX11_about_121 (K : Kt) : tl K (lX11_about) 121 = o_iald 122 := rfl
theorem aX11_about_122 (K : Kt) : tl K (lX11_about) 122 = o_iret K := rfl
theorem aX11_about_123 (K : Kt) : tl K (lX11_about) 123 = o_aload 0 124 := rfl
theorem aX11_about_124 (K : Kt) : tl K (lX11_about) 124 = o_get 11 24 127 := rfl
theorem aX11_about_127 (K : Kt) : tl K (lX11_about) 127 = o_iret K := rfl
theorem eX11_pointsOf {As L : List Value} {w : Wd} {K : Kt} (hw : wds As ≤ 5) (hL : ent 5 As = L) (h : RR (tl K lX11_pointsOf) 0 L [] w) : fX11_pointsOf As w K := ⟨hw, by rw [hL]; exact h⟩
theorem nX11_pointsOf : MonoF fX11_pointsOf := mono_f 5 lX11_pointsOf
theorem aX11_pointsOf_0 (K : Kt) : tl K (lX11_pointsOf) 0 = o_aload 0 1 := rfl
theorem aX11_pointsOf_1 (K : Kt) : tl K (lX11_pointsOf) 1 = o_get 11 7 4 := rfl
theorem aX11_pointsOf_4 (K : Kt) : tl K (lX11_pointsOf) 4 = o_pushI (nI 6) 6 := rfl
theorem aX11_pointsOf_6 (K : Kt) : tl K (lX11_pointsOf) 6 = o_iload 1 7 := rfl
theorem aX11_pointsOf_7 (K : Kt) : tl K (lX11_pointsOf) 7 = o_iadd 8 := rfl
theorem aX11_pointsOf_8 (K : Kt) : tl K (lX11_pointsOf) 8 = o_iald 9 := rfl
theorem aX11_pointsOf_9 (K : Kt) : tl K (lX11_pointsOf) 9 = o_if_ne 24 12 := rfl
theorem aX11_pointsOf_12 (K : Kt) : tl K (lX11_pointsOf) 12 = o_aload 0 13 := rfl
theorem aX11_pointsOf_13 (K : Kt) : tl K (lX11_pointsOf) 13 = o_get 11 7 16 := rfl
theorem aX11_pointsOf_16 (K : Kt) : tl K (lX11_pointsOf) 16 = o_pushI (nI 66) 18 := rfl
theorem aX11_pointsOf_18 (K : Kt) : tl K (lX11_pointsOf) 18 = o_iload 2 19 := rfl
theorem aX11_pointsOf_19 (K : Kt) : tl K (lX11_pointsOf) 19 = o_iadd 20 := rfl
theorem aX11_pointsOf_20 (K : Kt) : tl K (lX11_pointsOf) 20 = o_iald 21 := rfl
theorem aX11_pointsOf_21 (K : Kt) : tl K (lX11_pointsOf) 21 = o_goto 36 := rfl
theorem aX11_pointsOf_24 (K : Kt) : tl K (lX11_pointsOf) 24 = o_pushI (nI 9) 26 := rfl
theorem aX11_pointsOf_26 (K : Kt) : tl K (lX11_pointsOf) 26 = o_aload 0 27 := rfl
theorem aX11_pointsOf_27 (K : Kt) : tl K (lX11_pointsOf) 27 = o_get 11 7 30 := rfl
theorem aX11_pointsOf_30 (K : Kt) : tl K (lX11_pointsOf) 30 = o_pushI (nI 66) 32 := rfl
theorem aX11_pointsOf_32 (K : Kt) : tl K (lX11_pointsOf) 32 = o_iload 2 33 := rfl
theorem aX11_pointsOf_33 (K : Kt) : tl K (lX11_pointsOf) 33 = o_iadd 34 := rfl
theorem aX11_pointsOf_34 (K : Kt) : tl K (lX11_pointsOf) 34 = o_iald 35 := rfl
theorem aX11_pointsOf_35 (K : Kt) : tl K (lX11_pointsOf) 35 = o_isub 36 := rfl
theorem aX11_pointsOf_36 (K : Kt) : tl K (lX11_pointsOf) 36 = o_istore 3 37 := rfl
theorem aX11_pointsOf_37 (K : Kt) : tl K (lX11_pointsOf) 37 = o_aload 0 38 := rfl
theorem aX11_pointsOf_38 (K : Kt) : tl K (lX11_pointsOf) 38 = o_get 11 7 41 := rfl
theorem aX11_pointsOf_41 (K : Kt) : tl K (lX11_pointsOf) 41 = o_pushI (nI 14) 43 := rfl
theorem aX11_pointsOf_43 (K : Kt) : tl K (lX11_pointsOf) 43 = o_iload 1 44 := rfl
theorem aX11_pointsOf_44 (K : Kt) : tl K (lX11_pointsOf) 44 = o_iadd 45 := rfl
theorem aX11_pointsOf_45 (K : Kt) : tl K (lX11_pointsOf) 45 = o_iald 46 := rfl
theorem aX11_pointsOf_46 (K : Kt) : tl K (lX11_pointsOf) 46 = o_aload 0 47 := rfl
theorem aX11_pointsOf_47 (K : Kt) : tl K (lX11_pointsOf) 47 = o_get 11 7 50 := rfl
theorem aX11_pointsOf_50 (K : Kt) : tl K (lX11_pointsOf) 50 = o_pushI (nI 4) 51 := rfl
theorem aX11_pointsOf_51 (K : Kt) : tl K (lX11_pointsOf) 51 = o_iald 52 := rfl
theorem aX11_pointsOf_52 (K : Kt) : tl K (lX11_pointsOf) 52 = o_iload 3 53 := rfl
theorem aX11_pointsOf_53 (K : Kt) : tl K (lX11_pointsOf) 53 = o_pushI (nI 9) 55 := rfl
theorem aX11_pointsOf_55 (K : Kt) : tl K (lX11_pointsOf) 55 = o_iload 3 56 := rfl
theorem aX11_pointsOf_56 (K : Kt) : tl K (lX11_pointsOf) 56 = o_isub 57 := rfl
theorem aX11_pointsOf_57 (K : Kt) : tl K (lX11_pointsOf) 57 = o_isub 58 := rfl
theorem aX11_pointsOf_58 (K : Kt) : tl K (lX11_pointsOf) 58 = o_imul 59 := rfl
theorem aX11_pointsOf_59 (K : Kt) : tl K (lX11_pointsOf) 59 = o_iadd 60 := rfl
theorem aX11_pointsOf_60 (K : Kt) : tl K (lX11_pointsOf) 60 = o_istore 4 62 := rfl
theorem aX11_pointsOf_62 (K : Kt) : tl K (lX11_pointsOf) 62 = o_iload 4 64 := rfl
theorem aX11_pointsOf_64 (K : Kt) : tl K (lX11_pointsOf) 64 = o_if_ge 71 67 := rfl
theorem aX11_pointsOf_67 (K : Kt) : tl K (lX11_pointsOf) 67 = o_pushI (nI 0) 68 := rfl
theorem aX11_pointsOf_68 (K : Kt) : tl K (lX11_pointsOf) 68 = o_goto 73 := rfl
theorem aX11_pointsOf_71 (K : Kt) : tl K (lX11_pointsOf) 71 = o_iload 4 73 := rfl
theorem aX11_pointsOf_73 (K : Kt) : tl K (lX11_pointsOf) 73 = o_iret K := rfl
theorem eX11_above {As L : List Value} {w : Wd} {K : Kt} (hw : wds As ≤ 3) (hL : ent 3 As = L) (h : RR (tl K lX11_above) 0 L [] w) : fX11_above As w K := ⟨hw, by rw [hL]; exact h⟩
theorem nX11_above : MonoF fX11_above := mono_f 3 lX11_above
theorem aX11_above_0 (K : Kt) : tl K (lX11_above) 0 = o_iload 2 1 := rfl
theorem aX11_above_1 (K : Kt) : tl K (lX11_above) 1 = o_aload 0 2 := rfl
theorem aX11_above_2 (K : Kt) : tl K (lX11_above) 2 = o_get 11 7 5 := rfl
theorem aX11_above_5 (K : Kt) : tl K (lX11_above) 5 = o_pushI (nI 30) 7 := rfl
theorem aX11_above_7 (K : Kt) : tl K (lX11_above) 7 = o_iload 1 8 := rfl
theorem aX11_above_8 (K : Kt) : tl K (lX11_above) 8 = o_iadd 9 := rfl
theorem aX11_above_9 (K : Kt) : tl K (lX11_above) 9 = o_iald 10 := rfl
theorem aX11_above_10 (K : Kt) : tl K (lX11_above) 10 = o_icmp_le 27 13 := rfl
theorem aX11_above_13 (K : Kt) : tl K (lX11_above) 13 = o_iload 2 14 := rfl
theorem aX11_above_14 (K : Kt) : tl K (lX11_above) 14 = o_aload 0 15 := rfl
theorem aX11_above_15 (K : Kt) : tl K (lX11_above) 15 = o_get 11 7 18 := rfl
theorem aX11_above_18 (K : Kt) : tl K (lX11_above) 18 = o_pushI (nI 30) 20 := rfl
theorem aX11_above_20 (K : Kt) : tl K (lX11_above) 20 = o_iload 1 21 := rfl
theorem aX11_above_21 (K : Kt) : tl K (lX11_above) 21 = o_iadd 22 := rfl
theorem aX11_above_22 (K : Kt) : tl K (lX11_above) 22 = o_iald 23 := rfl
theorem aX11_above_23 (K : Kt) : tl K (lX11_above) 23 = o_isub 24 := rfl
theorem aX11_above_24 (K : Kt) : tl K (lX11_above) 24 = o_goto 28 := rfl
theorem aX11_above_27 (K : Kt) : tl K (lX11_above) 27 = o_pushI (nI 0) 28 := rfl
theorem aX11_above_28 (K : Kt) : tl K (lX11_above) 28 = o_iret K := rfl
theorem eX11_worthOf {As L : List Value} {w : Wd} {K : Kt} (hw : wds As ≤ 5) (hL : ent 5 As = L) (h : RR (tl K lX11_worthOf) 0 L [] w) : fX11_worthOf As w K := ⟨hw, by rw [hL]; exact h⟩
theorem nX11_worthOf : MonoF fX11_worthOf := mono_f 5 lX11_worthOf
theorem aX11_worthOf_0 (K : Kt) : tl K (lX11_worthOf) 0 = o_aload 0 1 := rfl
theorem aX11_worthOf_1 (K : Kt) : tl K (lX11_worthOf) 1 = o_iload 1 2 := rfl
theorem aX11_worthOf_2 (K : Kt) : tl K (lX11_worthOf) 2 = o_iload 3 3 := rfl
theorem aX11_worthOf_3 (K : Kt) : tl K (lX11_worthOf) 3 = o_callV fX11_above 2 11 6 := rfl
theorem aX11_worthOf_6 (K : Kt) : tl K (lX11_worthOf) 6 = o_istore 4 8 := rfl
theorem aX11_worthOf_8 (K : Kt) : tl K (lX11_worthOf) 8 = o_aload 0 9 := rfl
theorem aX11_worthOf_9 (K : Kt) : tl K (lX11_worthOf) 9 = o_iload 1 10 := rfl
theorem aX11_worthOf_10 (K : Kt) : tl K (lX11_worthOf) 10 = o_iload 2 11 := rfl
theorem aX11_worthOf_11 (K : Kt) : tl K (lX11_worthOf) 11 = o_callV fX11_pointsOf 2 11 14 := rfl
theorem aX11_worthOf_14 (K : Kt) : tl K (lX11_worthOf) 14 = o_iload 3 15 := rfl
theorem aX11_worthOf_15 (K : Kt) : tl K (lX11_worthOf) 15 = o_iload 4 17 := rfl
theorem aX11_worthOf_17 (K : Kt) : tl K (lX11_worthOf) 17 = o_isub 18 := rfl
theorem aX11_worthOf_18 (K : Kt) : tl K (lX11_worthOf) 18 = o_imul 19 := rfl
theorem aX11_worthOf_19 (K : Kt) : tl K (lX11_worthOf) 19 = o_aload 0 20 := rfl
theorem aX11_worthOf_20 (K : Kt) : tl K (lX11_worthOf) 20 = o_iload 1 21 := rfl
theorem aX11_worthOf_21 (K : Kt) : tl K (lX11_worthOf) 21 = o_iload 2 22 := rfl
theorem aX11_worthOf_22 (K : Kt) : tl K (lX11_worthOf) 22 = o_callV fX11_pointsOf 2 11 25 := rfl
theorem aX11_worthOf_25 (K : Kt) : tl K (lX11_worthOf) 25 = o_iload 4 27 := rfl
theorem aX11_worthOf_27 (K : Kt) : tl K (lX11_worthOf) 27 = o_imul 28 := rfl
theorem aX11_worthOf_28 (K : Kt) : tl K (lX11_worthOf) 28 = o_pushI (nI 2) 29 := rfl
theorem aX11_worthOf_29 (K : Kt) : tl K (lX11_worthOf) 29 = o_idiv 30 := rfl
theorem aX11_worthOf_30 (K : Kt) : tl K (lX11_worthOf) 30 = o_iadd 31 := rfl
theorem aX11_worthOf_31 (K : Kt) : tl K (lX11_worthOf) 31 = o_iret K := rfl
theorem eX11_riskOf {As L : List Value} {w : Wd} {K : Kt} (hw : wds As ≤ 3) (hL : ent 3 As = L) (h : RR (tl K lX11_riskOf) 0 L [] w) : fX11_riskOf As w K := ⟨hw, by rw [hL]; exact h⟩
theorem nX11_riskOf : MonoF fX11_riskOf := mono_f 3 lX11_riskOf
theorem aX11_riskOf_0 (K : Kt) : tl K (lX11_riskOf) 0 = o_aload 0 1 := rfl
theorem aX11_riskOf_1 (K : Kt) : tl K (lX11_riskOf) 1 = o_get 11 7 4 := rfl
theorem aX11_riskOf_4 (K : Kt) : tl K (lX11_riskOf) 4 = o_pushI (nI 38) 6 := rfl
theorem aX11_riskOf_6 (K : Kt) : tl K (lX11_riskOf) 6 = o_iload 1 7 := rfl
theorem aX11_riskOf_7 (K : Kt) : tl K (lX11_riskOf) 7 = o_iadd 8 := rfl
theorem aX11_riskOf_8 (K : Kt) : tl K (lX11_riskOf) 8 = o_iald 9 := rfl
theorem aX11_riskOf_9 (K : Kt) : tl K (lX11_riskOf) 9 = o_aload 0 10 := rfl
theorem aX11_riskOf_10 (K : Kt) : tl K (lX11_riskOf) 10 = o_iload 1 11 := rfl
theorem aX11_riskOf_11 (K : Kt) : tl K (lX11_riskOf) 11 = o_iload 2 12 := rfl
theorem aX11_riskOf_12 (K : Kt) : tl K (lX11_riskOf) 12 = o_callV fX11_above 2 11 15 := rfl
theorem aX11_riskOf_15 (K : Kt) : tl K (lX11_riskOf) 15 = o_imul 16 := rfl
theorem aX11_riskOf_16 (K : Kt) : tl K (lX11_riskOf) 16 = o_iret K := rfl
theorem eX11_slot {As L : List Value} {w : Wd} {K : Kt} (hw : wds As ≤ 3) (hL : ent 3 As = L) (h : RR (tl K lX11_slot) 0 L [] w) : fX11_slot As w K := ⟨hw, by rw [hL]; exact h⟩
theorem nX11_slot : MonoF fX11_slot := mono_f 3 lX11_slot
theorem aX11_slot_0 (K : Kt) : tl K (lX11_slot) 0 = o_pushI (nI 3) 1 := rfl
theorem aX11_slot_1 (K : Kt) : tl K (lX11_slot) 1 = o_iload 1 2 := rfl
theorem aX11_slot_2 (K : Kt) : tl K (lX11_slot) 2 = o_imul 3 := rfl
theorem aX11_slot_3 (K : Kt) : tl K (lX11_slot) 3 = o_iload 2 4 := rfl
theorem aX11_slot_4 (K : Kt) : tl K (lX11_slot) 4 = o_iadd 5 := rfl
theorem aX11_slot_5 (K : Kt) : tl K (lX11_slot) 5 = o_iret K := rfl
theorem eX11_who {As L : List Value} {w : Wd} {K : Kt} (hw : wds As ≤ 3) (hL : ent 3 As = L) (h : RR (tl K lX11_who) 0 L [] w) : fX11_who As w K := ⟨hw, by rw [hL]; exact h⟩
theorem nX11_who : MonoF fX11_who := mono_f 3 lX11_who
theorem aX11_who_0 (K : Kt) : tl K (lX11_who) 0 = o_aload 0 1 := rfl
theorem aX11_who_1 (K : Kt) : tl K (lX11_who) 1 = o_get 11 7 4 := rfl
theorem aX11_who_4 (K : Kt) : tl K (lX11_who) 4 = o_pushI (nI 126) 6 := rfl
theorem aX11_who_6 (K : Kt) : tl K (lX11_who) 6 = o_aload 0 7 := rfl
theorem aX11_who_7 (K : Kt) : tl K (lX11_who) 7 = o_iload 1 8 := rfl
theorem aX11_who_8 (K : Kt) : tl K (lX11_who) 8 = o_iload 2 9 := rfl
theorem aX11_who_9 (K : Kt) : tl K (lX11_who) 9 = o_callV fX11_slot 2 11 12 := rfl
theorem aX11_who_12 (K : Kt) : tl K (lX11_who) 12 = o_iadd 13 := rfl
theorem aX11_who_13 (K : Kt) : tl K (lX11_who) 13 = o_iald 14 := rfl
theorem aX11_who_14 (K : Kt) : tl K (lX11_who) 14 = o_iret K := rfl
theorem eX11_throwsAt {As L : List Value} {w : Wd} {K : Kt} (hw : wds As ≤ 3) (hL : ent 3 As = L) (h : RR (tl K lX11_throwsAt) 0 L [] w) : fX11_throwsAt As w K := ⟨hw, by rw [hL]; exact h⟩
theorem nX11_throwsAt : MonoF fX11_throwsAt := mono_f 3 lX11_throwsAt
theorem aX11_throwsAt_0 (K : Kt) : tl K (lX11_throwsAt) 0 = o_aload 0 1 := rfl
theorem aX11_throwsAt_1 (K : Kt) : tl K (lX11_throwsAt) 1 = o_get 11 7 4 := rfl
theorem aX11_throwsAt_4 (K : Kt) : tl K (lX11_throwsAt) 4 = o_pushI (nI 186) 7 := rfl
theorem aX11_throwsAt_7 (K : Kt) : tl K (lX11_throwsAt) 7 = o_aload 0 8 := rfl
theorem aX11_throwsAt_8 (K : Kt) : tl K (lX11_throwsAt) 8 = o_iload 1 9 := rfl
theorem aX11_throwsAt_9 (K : Kt) : tl K (lX11_throwsAt) 9 = o_iload 2 10 := rfl
theorem aX11_throwsAt_10 (K : Kt) : tl K (lX11_throwsAt) 10 = o_callV fX11_slot 2 11 13 := rfl
theorem aX11_throwsAt_13 (K : Kt) : tl K (lX11_throwsAt) 13 = o_iadd 14 := rfl
theorem aX11_throwsAt_14 (K : Kt) : tl K (lX11_throwsAt) 14 = o_iald 15 := rfl
theorem aX11_throwsAt_15 (K : Kt) : tl K (lX11_throwsAt) 15 = o_iret K := rfl
theorem eX11_leftOf {As L : List Value} {w : Wd} {K : Kt} (hw : wds As ≤ 4) (hL : ent 4 As = L) (h : RR (tl K lX11_leftOf) 0 L [] w) : fX11_leftOf As w K := ⟨hw, by rw [hL]; exact h⟩
theorem nX11_leftOf : MonoF fX11_leftOf := mono_f 4 lX11_leftOf
theorem aX11_leftOf_0 (K : Kt) : tl K (lX11_leftOf) 0 = o_aload 0 1 := rfl
theorem aX11_leftOf_1 (K : Kt) : tl K (lX11_leftOf) 1 = o_get 11 7 4 := rfl
theorem aX11_leftOf_4 (K : Kt) : tl K (lX11_leftOf) 4 = o_pushI (nI 86) 6 := rfl
theorem aX11_leftOf_6 (K : Kt) : tl K (lX11_leftOf) 6 = o_iload 1 7 := rfl
theorem aX11_leftOf_7 (K : Kt) : tl K (lX11_leftOf) 7 = o_iadd 8 := rfl
theorem aX11_leftOf_8 (K : Kt) : tl K (lX11_leftOf) 8 = o_iald 9 := rfl
theorem aX11_leftOf_9 (K : Kt) : tl K (lX11_leftOf) 9 = o_istore 2 10 := rfl
theorem aX11_leftOf_10 (K : Kt) : tl K (lX11_leftOf) 10 = o_pushI (nI 0) 11 := rfl
theorem aX11_leftOf_11 (K : Kt) : tl K (lX11_leftOf) 11 = o_istore 3 12 := rfl
theorem aX11_leftOf_12 (K : Kt) : tl K (lX11_leftOf) 12 = o_iload 3 13 := rfl
theorem aX11_leftOf_13 (K : Kt) : tl K (lX11_leftOf) 13 = o_aload 0 14 := rfl
theorem aX11_leftOf_14 (K : Kt) : tl K (lX11_leftOf) 14 = o_get 11 7 17 := rfl
theorem aX11_leftOf_17 (K : Kt) : tl K (lX11_leftOf) 17 = o_pushI (nI 106) 19 := rfl
theorem aX11_leftOf_19 (K : Kt) : tl K (lX11_leftOf) 19 = o_iload 1 20 := rfl
theorem aX11_leftOf_20 (K : Kt) : tl K (lX11_leftOf) 20 = o_iadd 21 := rfl
theorem aX11_leftOf_21 (K : Kt) : tl K (lX11_leftOf) 21 = o_iald 22 := rfl
theorem aX11_leftOf_22 (K : Kt) : tl K (lX11_leftOf) 22 = o_icmp_ge 40 25 := rfl
theorem aX11_leftOf_25 (K : Kt) : tl K (lX11_leftOf) 25 = o_iload 2 26 := rfl
theorem aX11_leftOf_26 (K : Kt) : tl K (lX11_leftOf) 26 = o_aload 0 27 := rfl
theorem aX11_leftOf_27 (K : Kt) : tl K (lX11_leftOf) 27 = o_iload 1 28 := rfl
theorem aX11_leftOf_28 (K : Kt) : tl K (lX11_leftOf) 28 = o_iload 3 29 := rfl
theorem aX11_leftOf_29 (K : Kt) : tl K (lX11_leftOf) 29 = o_callV fX11_throwsAt 2 11 32 := rfl
theorem aX11_leftOf_32 (K : Kt) : tl K (lX11_leftOf) 32 = o_isub 33 := rfl
theorem aX11_leftOf_33 (K : Kt) : tl K (lX11_leftOf) 33 = o_istore 2 34 := rfl
theorem aX11_leftOf_34 (K : Kt) : tl K (lX11_leftOf) 34 = o_iinc 3 (nI 1) 37 := rfl
theorem aX11_leftOf_37 (K : Kt) : tl K (lX11_leftOf) 37 = o_goto 12 := rfl
theorem aX11_leftOf_40 (K : Kt) : tl K (lX11_leftOf) 40 = o_iload 2 41 := rfl
theorem aX11_leftOf_41 (K : Kt) : tl K (lX11_leftOf) 41 = o_iret K := rfl
theorem eX11_valueOf {As L : List Value} {w : Wd} {K : Kt} (hw : wds As ≤ 4) (hL : ent 4 As = L) (h : RR (tl K lX11_valueOf) 0 L [] w) : fX11_valueOf As w K := ⟨hw, by rw [hL]; exact h⟩
theorem nX11_valueOf : MonoF fX11_valueOf := mono_f 4 lX11_valueOf
theorem aX11_valueOf_0 (K : Kt) : tl K (lX11_valueOf) 0 = o_pushI (nI 0) 1 := rfl
theorem aX11_valueOf_1 (K : Kt) : tl K (lX11_valueOf) 1 = o_istore 2 2 := rfl
theorem aX11_valueOf_2 (K : Kt) : tl K (lX11_valueOf) 2 = o_pushI (nI 0) 3 := rfl
theorem aX11_valueOf_3 (K : Kt) : tl K (lX11_valueOf) 3 = o_istore 3 4 := rfl
theorem aX11_valueOf_4 (K : Kt) : tl K (lX11_valueOf) 4 = o_iload 3 5 := rfl
theorem aX11_valueOf_5 (K : Kt) : tl K (lX11_valueOf) 5 = o_aload 0 6 := rfl
theorem aX11_valueOf_6 (K : Kt) : tl K (lX11_valueOf) 6 = o_get 11 7 9 := rfl
theorem aX11_valueOf_9 (K : Kt) : tl K (lX11_valueOf) 9 = o_pushI (nI 106) 11 := rfl
theorem aX11_valueOf_11 (K : Kt) : tl K (lX11_valueOf) 11 = o_iload 1 12 := rfl
theorem aX11_valueOf_12 (K : Kt) : tl K (lX11_valueOf) 12 = o_iadd 13 := rfl
theorem aX11_valueOf_13 (K : Kt) : tl K (lX11_valueOf) 13 = o_iald 14 := rfl
theorem aX11_valueOf_14 (K : Kt) : tl K (lX11_valueOf) 14 = o_icmp_ge 43 17 := rfl
theorem aX11_valueOf_17 (K : Kt) : tl K (lX11_valueOf) 17 = o_iload 2 18 := rfl
theorem aX11_valueOf_18 (K : Kt) : tl K (lX11_valueOf) 18 = o_aload 0 19 := rfl
theorem aX11_valueOf_19 (K : Kt) : tl K (lX11_valueOf) 19 = o_aload 0 20 := rfl
theorem aX11_valueOf_20 (K : Kt) : tl K (lX11_valueOf) 20 = o_iload 1 21 := rfl
theorem aX11_valueOf_21 (K : Kt) : tl K (lX11_valueOf) 21 = o_iload 3 22 := rfl
theorem aX11_valueOf_22 (K : Kt) : tl K (lX11_valueOf) 22 = o_callV fX11_who 2 11 25 := rfl
theorem aX11_valueOf_25 (K : Kt) : tl K (lX11_valueOf) 25 = o_iload 1 26 := rfl
theorem aX11_valueOf_26 (K : Kt) : tl K (lX11_valueOf) 26 = o_aload 0 27 := rfl
theorem aX11_valueOf_27 (K : Kt) : tl K (lX11_valueOf) 27 = o_iload 1 28 := rfl
theorem aX11_valueOf_28 (K : Kt) : tl K (lX11_valueOf) 28 = o_iload 3 29 := rfl
theorem aX11_valueOf_29 (K : Kt) : tl K (lX11_valueOf) 29 = o_callV fX11_throwsAt 2 11 32 := rfl
theorem aX11_valueOf_32 (K : Kt) : tl K (lX11_valueOf) 32 = o_callV fX11_worthOf 3 11 35 := rfl
theorem aX11_valueOf_35 (K : Kt) : tl K (lX11_valueOf) 35 = o_iadd 36 := rfl
theorem aX11_valueOf_36 (K : Kt) : tl K (lX11_valueOf) 36 = o_istore 2 37 := rfl
theorem aX11_valueOf_37 (K : Kt) : tl K (lX11_valueOf) 37 = o_iinc 3 (nI 1) 40 := rfl
theorem aX11_valueOf_40 (K : Kt) : tl K (lX11_valueOf) 40 = o_goto 4 := rfl
theorem aX11_valueOf_43 (K : Kt) : tl K (lX11_valueOf) 43 = o_iload 2 44 := rfl
theorem aX11_valueOf_44 (K : Kt) : tl K (lX11_valueOf) 44 = o_iret K := rfl
theorem eX11_isIn {As L : List Value} {w : Wd} {K : Kt} (hw : wds As ≤ 5) (hL : ent 5 As = L) (h : RR (tl K lX11_isIn) 0 L [] w) : fX11_isIn As w K := ⟨hw, by rw [hL]; exact h⟩
theorem nX11_isIn : MonoF fX11_isIn := mono_f 5 lX11_isIn
theorem aX11_isIn_0 (K : Kt) : tl K (lX11_isIn) 0 = o_pushI (nI 0) 1 := rfl
theorem aX11_isIn_1 (K : Kt) : tl K (lX11_isIn) 1 = o_istore 3 2 := rfl
theorem aX11_isIn_2 (K : Kt) : tl K (lX11_isIn) 2 = o_pushI (nI 0) 3 := rfl
theorem aX11_isIn_3 (K : Kt) : tl K (lX11_isIn) 3 = o_istore 4 5 := rfl
theorem aX11_isIn_5 (K : Kt) : tl K (lX11_isIn) 5 = o_iload 4 7 := rfl
theorem aX11_isIn_7 (K : Kt) : tl K (lX11_isIn) 7 = o_aload 0 8 := rfl
theorem aX11_isIn_8 (K : Kt) : tl K (lX11_isIn) 8 = o_get 11 7 11 := rfl
theorem aX11_isIn_11 (K : Kt) : tl K (lX11_isIn) 11 = o_pushI (nI 106) 13 := rfl
theorem aX11_isIn_13 (K : Kt) : tl K (lX11_isIn) 13 = o_iload 2 14 := rfl
theorem aX11_isIn_14 (K : Kt) : tl K (lX11_isIn) 14 = o_iadd 15 := rfl
theorem aX11_isIn_15 (K : Kt) : tl K (lX11_isIn) 15 = o_iald 16 := rfl
theorem aX11_isIn_16 (K : Kt) : tl K (lX11_isIn) 16 = o_icmp_ge 46 19 := rfl
theorem aX11_isIn_19 (K : Kt) : tl K (lX11_isIn) 19 = o_iload 3 20 := rfl
theorem aX11_isIn_20 (K : Kt) : tl K (lX11_isIn) 20 = o_if_ne 34 23 := rfl
theorem aX11_isIn_23 (K : Kt) : tl K (lX11_isIn) 23 = o_aload 0 24 := rfl
theorem aX11_isIn_24 (K : Kt) : tl K (lX11_isIn) 24 = o_iload 2 25 := rfl
theorem aX11_isIn_25 (K : Kt) : tl K (lX11_isIn) 25 = o_iload 4 27 := rfl
theorem aX11_isIn_27 (K : Kt) : tl K (lX11_isIn) 27 = o_callV fX11_who 2 11 30 := rfl
theorem aX11_isIn_30 (K : Kt) : tl K (lX11_isIn) 30 = o_iload 1 31 := rfl
theorem aX11_isIn_31 (K : Kt) : tl K (lX11_isIn) 31 = o_icmp_ne 38 34 := rfl
theorem aX11_isIn_34 (K : Kt) : tl K (lX11_isIn) 34 = o_pushI (nI 1) 35 := rfl
theorem aX11_isIn_35 (K : Kt) : tl K (lX11_isIn) 35 = o_goto 39 := rfl
theorem aX11_isIn_38 (K : Kt) : tl K (lX11_isIn) 38 = o_pushI (nI 0) 39 := rfl
theorem aX11_isIn_39 (K : Kt) : tl K (lX11_isIn) 39 = o_istore 3 40 := rfl
theorem aX11_isIn_40 (K : Kt) : tl K (lX11_isIn) 40 = o_iinc 4 (nI 1) 43 := rfl
theorem aX11_isIn_43 (K : Kt) : tl K (lX11_isIn) 43 = o_goto 5 := rfl
theorem aX11_isIn_46 (K : Kt) : tl K (lX11_isIn) 46 = o_iload 3 47 := rfl
theorem aX11_isIn_47 (K : Kt) : tl K (lX11_isIn) 47 = o_zret K := rfl
theorem eX11_sumOf {As L : List Value} {w : Wd} {K : Kt} (hw : wds As ≤ 7) (hL : ent 7 As = L) (h : RR (tl K lX11_sumOf) 0 L [] w) : fX11_sumOf As w K := ⟨hw, by rw [hL]; exact h⟩
theorem nX11_sumOf : MonoF fX11_sumOf := mono_f 7 lX11_sumOf
theorem aX11_sumOf_0 (K : Kt) : tl K (lX11_sumOf) 0 = o_pushI (nI 0) 1 := rfl
theorem aX11_sumOf_1 (K : Kt) : tl K (lX11_sumOf) 1 = o_istore 3 2 := rfl
theorem aX11_sumOf_2 (K : Kt) : tl K (lX11_sumOf) 2 = o_pushI (nI 0) 3 := rfl
theorem aX11_sumOf_3 (K : Kt) : tl K (lX11_sumOf) 3 = o_istore 4 5 := rfl
theorem aX11_sumOf_5 (K : Kt) : tl K (lX11_sumOf) 5 = o_iload 4 7 := rfl
theorem aX11_sumOf_7 (K : Kt) : tl K (lX11_sumOf) 7 = o_aload 0 8 := rfl
theorem aX11_sumOf_8 (K : Kt) : tl K (lX11_sumOf) 8 = o_get 11 7 11 := rfl
theorem aX11_sumOf_11 (K : Kt) : tl K (lX11_sumOf) 11 = o_pushI (nI 1) 12 := rfl
theorem aX11_sumOf_12 (K : Kt) : tl K (lX11_sumOf) 12 = o_iald 13 := rfl
theorem aX11_sumOf_13 (K : Kt) : tl K (lX11_sumOf) 13 = o_icmp_ge 117 16 := rfl
theorem aX11_sumOf_16 (K : Kt) : tl K (lX11_sumOf) 16 = o_pushI (nI 0) 17 := rfl
theorem aX11_sumOf_17 (K : Kt) : tl K (lX11_sumOf) 17 = o_istore 5 19 := rfl
theorem aX11_sumOf_19 (K : Kt) : tl K (lX11_sumOf) 19 = o_iload 5 21 := rfl
theorem aX11_sumOf_21 (K : Kt) : tl K (lX11_sumOf) 21 = o_aload 0 22 := rfl
theorem aX11_sumOf_22 (K : Kt) : tl K (lX11_sumOf) 22 = o_get 11 7 25 := rfl
theorem aX11_sumOf_25 (K : Kt) : tl K (lX11_sumOf) 25 = o_pushI (nI 106) 27 := rfl
theorem aX11_sumOf_27 (K : Kt) : tl K (lX11_sumOf) 27 = o_iload 4 29 := rfl
theorem aX11_sumOf_29 (K : Kt) : tl K (lX11_sumOf) 29 = o_iadd 30 := rfl
theorem aX11_sumOf_30 (K : Kt) : tl K (lX11_sumOf) 30 = o_iald 31 := rfl
theorem aX11_sumOf_31 (K : Kt) : tl K (lX11_sumOf) 31 = o_icmp_ge 111 34 := rfl
theorem aX11_sumOf_34 (K : Kt) : tl K (lX11_sumOf) 34 = o_aload 0 35 := rfl
theorem aX11_sumOf_35 (K : Kt) : tl K (lX11_sumOf) 35 = o_iload 4 37 := rfl
theorem aX11_sumOf_37 (K : Kt) : tl K (lX11_sumOf) 37 = o_iload 5 39 := rfl
theorem aX11_sumOf_39 (K : Kt) : tl K (lX11_sumOf) 39 = o_callV fX11_throwsAt 2 11 42 := rfl
theorem aX11_sumOf_42 (K : Kt) : tl K (lX11_sumOf) 42 = o_istore 6 44 := rfl
theorem aX11_sumOf_44 (K : Kt) : tl K (lX11_sumOf) 44 = o_iload 3 45 := rfl
theorem aX11_sumOf_45 (K : Kt) : tl K (lX11_sumOf) 45 = o_aload 0 46 := rfl
theorem aX11_sumOf_46 (K : Kt) : tl K (lX11_sumOf) 46 = o_iload 4 48 := rfl
theorem aX11_sumOf_48 (K : Kt) : tl K (lX11_sumOf) 48 = o_iload 5 50 := rfl
theorem aX11_sumOf_50 (K : Kt) : tl K (lX11_sumOf) 50 = o_callV fX11_who 2 11 53 := rfl
theorem aX11_sumOf_53 (K : Kt) : tl K (lX11_sumOf) 53 = o_iload 1 54 := rfl
theorem aX11_sumOf_54 (K : Kt) : tl K (lX11_sumOf) 54 = o_icmp_eq 61 57 := rfl
theorem aX11_sumOf_57 (K : Kt) : tl K (lX11_sumOf) 57 = o_pushI (nI 0) 58 := rfl
theorem aX11_sumOf_58 (K : Kt) : tl K (lX11_sumOf) 58 = o_goto 103 := rfl
theorem aX11_sumOf_61 (K : Kt) : tl K (lX11_sumOf) 61 = o_iload 2 62 := rfl
theorem aX11_sumOf_62 (K : Kt) : tl K (lX11_sumOf) 62 = o_if_ne 70 65 := rfl
theorem aX11_sumOf_65 (K : Kt) : tl K (lX11_sumOf) 65 = o_iload 6 67 := rfl
theorem aX11_sumOf_67 (K : Kt) : tl K (lX11_sumOf) 67 = o_goto 103 := rfl
theorem aX11_sumOf_70 (K : Kt) : tl K (lX11_sumOf) 70 = o_iload 2 71 := rfl
theorem aX11_sumOf_71 (K : Kt) : tl K (lX11_sumOf) 71 = o_pushI (nI 1) 72 := rfl
theorem aX11_sumOf_72 (K : Kt) : tl K (lX11_sumOf) 72 = o_icmp_ne 79 75 := rfl
theorem aX11_sumOf_75 (K : Kt) : tl K (lX11_sumOf) 75 = o_pushI (nI 1) 76 := rfl
theorem aX11_sumOf_76 (K : Kt) : tl K (lX11_sumOf) 76 = o_goto 103 := rfl
theorem aX11_sumOf_79 (K : Kt) : tl K (lX11_sumOf) 79 = o_iload 2 80 := rfl
theorem aX11_sumOf_80 (K : Kt) : tl K (lX11_sumOf) 80 = o_pushI (nI 2) 81 := rfl
theorem aX11_sumOf_81 (K : Kt) : tl K (lX11_sumOf) 81 = o_icmp_ne 96 84 := rfl
theorem aX11_sumOf_84 (K : Kt) : tl K (lX11_sumOf) 84 = o_aload 0 85 := rfl
theorem aX11_sumOf_85 (K : Kt) : tl K (lX11_sumOf) 85 = o_iload 1 86 := rfl
theorem aX11_sumOf_86 (K : Kt) : tl K (lX11_sumOf) 86 = o_iload 4 88 := rfl
theorem aX11_sumOf_88 (K : Kt) : tl K (lX11_sumOf) 88 = o_iload 6 90 := rfl
theorem aX11_sumOf_90 (K : Kt) : tl K (lX11_sumOf) 90 = o_callV fX11_worthOf 3 11 93 := rfl
theorem aX11_sumOf_93 (K : Kt) : tl K (lX11_sumOf) 93 = o_goto 103 := rfl
theorem aX11_sumOf_96 (K : Kt) : tl K (lX11_sumOf) 96 = o_aload 0 97 := rfl
theorem aX11_sumOf_97 (K : Kt) : tl K (lX11_sumOf) 97 = o_iload 1 98 := rfl
theorem aX11_sumOf_98 (K : Kt) : tl K (lX11_sumOf) 98 = o_iload 6 100 := rfl
theorem aX11_sumOf_100 (K : Kt) : tl K (lX11_sumOf) 100 = o_callV fX11_riskOf 2 11 103 := rfl
theorem aX11_sumOf_103 (K : Kt) : tl K (lX11_sumOf) 103 = o_iadd 104 := rfl
theorem aX11_sumOf_104 (K : Kt) : tl K (lX11_sumOf) 104 = o_istore 3 105 := rfl
theorem aX11_sumOf_105 (K : Kt) : tl K (lX11_sumOf) 105 = o_iinc 5 (nI 1) 108 := rfl
theorem aX11_sumOf_108 (K : Kt) : tl K (lX11_sumOf) 108 = o_goto 19 := rfl
theorem aX11_sumOf_111 (K : Kt) : tl K (lX11_sumOf) 111 = o_iinc 4 (nI 1) 114 := rfl
set_option maxRecDepth 8000 in
theorem aX11_sumOf_114 (K : Kt) : tl K (lX11_sumOf) 114 = o_goto 5 := rfl
set_option maxRecDepth 8000 in
theorem aX11_sumOf_117 (K : Kt) : tl K (lX11_sumOf) 117 = o_iload 3 118 := rfl
set_option maxRecDepth 8000 in
theorem aX11_sumOf_118 (K : Kt) : tl K (lX11_sumOf) 118 = o_iret K := rfl
theorem eX11_arm {As L : List Value} {w : Wd} {K : Kt} (hw : wds As ≤ 3) (hL : ent 3 As = L) (h : RR (tl K lX11_arm) 0 L [] w) : fX11_arm As w K := ⟨hw, by rw [hL]; exact h⟩
theorem nX11_arm : MonoF fX11_arm := mono_f 3 lX11_arm
theorem aX11_arm_0 (K : Kt) : tl K (lX11_arm) 0 = o_aload 0 1 := rfl
theorem aX11_arm_1 (K : Kt) : tl K (lX11_arm) 1 = o_aload 0 2 := rfl
theorem aX11_arm_2 (K : Kt) : tl K (lX11_arm) 2 = o_iload 1 3 := rfl
theorem aX11_arm_3 (K : Kt) : tl K (lX11_arm) 3 = o_callV fX11_isArm 1 11 6 := rfl
theorem aX11_arm_6 (K : Kt) : tl K (lX11_arm) 6 = o_if_eq 23 9 := rfl
theorem aX11_arm_9 (K : Kt) : tl K (lX11_arm) 9 = o_iload 2 10 := rfl
theorem aX11_arm_10 (K : Kt) : tl K (lX11_arm) 10 = o_pushI (nI 0) 11 := rfl
theorem aX11_arm_11 (K : Kt) : tl K (lX11_arm) 11 = o_pushI (nI 7) 13 := rfl
theorem aX11_arm_13 (K : Kt) : tl K (lX11_arm) 13 = o_callS fX11_in 3 16 := rfl
theorem aX11_arm_16 (K : Kt) : tl K (lX11_arm) 16 = o_if_eq 23 19 := rfl
theorem aX11_arm_19 (K : Kt) : tl K (lX11_arm) 19 = o_pushI (nI 1) 20 := rfl
theorem aX11_arm_20 (K : Kt) : tl K (lX11_arm) 20 = o_goto 24 := rfl
theorem aX11_arm_23 (K : Kt) : tl K (lX11_arm) 23 = o_pushI (nI 0) 24 := rfl
theorem aX11_arm_24 (K : Kt) : tl K (lX11_arm) 24 = o_callS fX11_unless 1 27 := rfl
theorem aX11_arm_27 (K : Kt) : tl K (lX11_arm) 27 = o_callV fX11_isRefused 1 11 30 := rfl
theorem aX11_arm_30 (K : Kt) : tl K (lX11_arm) 30 = o_if_eq 35 33 := rfl
theorem aX11_arm_33 (K : Kt) : tl K (lX11_arm) 33 = o_pushI ((-1)) 34 := rfl
theorem aX11_arm_34 (K : Kt) : tl K (lX11_arm) 34 = o_iret K := rfl
theorem aX11_arm_35 (K : Kt) : tl K (lX11_arm) 35 = o_iload 2 36 := rfl
theorem aX11_arm_36 (K : Kt) : tl K (lX11_arm) 36 = o_pushI (nI 5) 37 := rfl
theorem aX11_arm_37 (K : Kt) : tl K (lX11_arm) 37 = o_icmp_ge 57 40 := rfl
theorem aX11_arm_40 (K : Kt) : tl K (lX11_arm) 40 = o_aload 0 41 := rfl
theorem aX11_arm_41 (K : Kt) : tl K (lX11_arm) 41 = o_get 11 7 44 := rfl
theorem aX11_arm_44 (K : Kt) : tl K (lX11_arm) 44 = o_pushI (nI 6) 46 := rfl
theorem aX11_arm_46 (K : Kt) : tl K (lX11_arm) 46 = o_pushI (nI 8) 48 := rfl
theorem aX11_arm_48 (K : Kt) : tl K (lX11_arm) 48 = o_iload 2 49 := rfl
theorem aX11_arm_49 (K : Kt) : tl K (lX11_arm) 49 = o_imul 50 := rfl
theorem aX11_arm_50 (K : Kt) : tl K (lX11_arm) 50 = o_iadd 51 := rfl
theorem aX11_arm_51 (K : Kt) : tl K (lX11_arm) 51 = o_iload 1 52 := rfl
theorem aX11_arm_52 (K : Kt) : tl K (lX11_arm) 52 = o_iadd 53 := rfl
theorem aX11_arm_53 (K : Kt) : tl K (lX11_arm) 53 = o_iald 54 := rfl
theorem aX11_arm_54 (K : Kt) : tl K (lX11_arm) 54 = o_goto 65 := rfl
theorem aX11_arm_57 (K : Kt) : tl K (lX11_arm) 57 = o_aload 0 58 := rfl
theorem aX11_arm_58 (K : Kt) : tl K (lX11_arm) 58 = o_iload 1 59 := rfl
theorem aX11_arm_59 (K : Kt) : tl K (lX11_arm) 59 = o_iload 2 60 := rfl
theorem aX11_arm_60 (K : Kt) : tl K (lX11_arm) 60 = o_pushI (nI 5) 61 := rfl
theorem aX11_arm_61 (K : Kt) : tl K (lX11_arm) 61 = o_isub 62 := rfl
theorem aX11_arm_62 (K : Kt) : tl K (lX11_arm) 62 = o_callV fX11_sumOf 2 11 65 := rfl
theorem aX11_arm_65 (K : Kt) : tl K (lX11_arm) 65 = o_iret K := rfl
theorem eX11_game {As L : List Value} {w : Wd} {K : Kt} (hw : wds As ≤ 3) (hL : ent 3 As = L) (h : RR (tl K lX11_game) 0 L [] w) : fX11_game As w K := ⟨hw, by rw [hL]; exact h⟩
theorem nX11_game : MonoF fX11_game := mono_f 3 lX11_game
theorem aX11_game_0 (K : Kt) : tl K (lX11_game) 0 = o_aload 0 1 := rfl
theorem aX11_game_1 (K : Kt) : tl K (lX11_game) 1 = o_aload 0 2 := rfl
theorem aX11_game_2 (K : Kt) : tl K (lX11_game) 2 = o_iload 1 3 := rfl
theorem aX11_game_3 (K : Kt) : tl K (lX11_game) 3 = o_callV fX11_isGame 1 11 6 := rfl
theorem aX11_game_6 (K : Kt) : tl K (lX11_game) 6 = o_if_eq 22 9 := rfl
theorem aX11_game_9 (K : Kt) : tl K (lX11_game) 9 = o_iload 2 10 := rfl
theorem aX11_game_10 (K : Kt) : tl K (lX11_game) 10 = o_pushI (nI 0) 11 := rfl
theorem aX11_game_11 (K : Kt) : tl K (lX11_game) 11 = o_pushI (nI 5) 12 := rfl
theorem aX11_game_12 (K : Kt) : tl K (lX11_game) 12 = o_callS fX11_in 3 15 := rfl
theorem aX11_game_15 (K : Kt) : tl K (lX11_game) 15 = o_if_eq 22 18 := rfl
theorem aX11_game_18 (K : Kt) : tl K (lX11_game) 18 = o_pushI (nI 1) 19 := rfl
theorem aX11_game_19 (K : Kt) : tl K (lX11_game) 19 = o_goto 23 := rfl
theorem aX11_game_22 (K : Kt) : tl K (lX11_game) 22 = o_pushI (nI 0) 23 := rfl
theorem aX11_game_23 (K : Kt) : tl K (lX11_game) 23 = o_callS fX11_unless 1 26 := rfl
theorem aX11_game_26 (K : Kt) : tl K (lX11_game) 26 = o_callV fX11_isRefused 1 11 29 := rfl
theorem aX11_game_29 (K : Kt) : tl K (lX11_game) 29 = o_if_eq 34 32 := rfl
theorem aX11_game_32 (K : Kt) : tl K (lX11_game) 32 = o_pushI ((-1)) 33 := rfl
theorem aX11_game_33 (K : Kt) : tl K (lX11_game) 33 = o_iret K := rfl
theorem aX11_game_34 (K : Kt) : tl K (lX11_game) 34 = o_iload 2 35 := rfl
theorem aX11_game_35 (K : Kt) : tl K (lX11_game) 35 = o_table 0 4 114 [68, 78, 88, 98, 108] := rfl
theorem aX11_game_68 (K : Kt) : tl K (lX11_game) 68 = o_aload 0 69 := rfl
theorem aX11_game_69 (K : Kt) : tl K (lX11_game) 69 = o_get 11 7 72 := rfl
theorem aX11_game_72 (K : Kt) : tl K (lX11_game) 72 = o_pushI (nI 46) 74 := rfl
theorem aX11_game_74 (K : Kt) : tl K (lX11_game) 74 = o_iload 1 75 := rfl
theorem aX11_game_75 (K : Kt) : tl K (lX11_game) 75 = o_iadd 76 := rfl
theorem aX11_game_76 (K : Kt) : tl K (lX11_game) 76 = o_iald 77 := rfl
theorem aX11_game_77 (K : Kt) : tl K (lX11_game) 77 = o_iret K := rfl
theorem aX11_game_78 (K : Kt) : tl K (lX11_game) 78 = o_aload 0 79 := rfl
theorem aX11_game_79 (K : Kt) : tl K (lX11_game) 79 = o_get 11 7 82 := rfl
theorem aX11_game_82 (K : Kt) : tl K (lX11_game) 82 = o_pushI (nI 66) 84 := rfl
theorem aX11_game_84 (K : Kt) : tl K (lX11_game) 84 = o_iload 1 85 := rfl
theorem aX11_game_85 (K : Kt) : tl K (lX11_game) 85 = o_iadd 86 := rfl
theorem aX11_game_86 (K : Kt) : tl K (lX11_game) 86 = o_iald 87 := rfl
theorem aX11_game_87 (K : Kt) : tl K (lX11_game) 87 = o_iret K := rfl
theorem aX11_game_88 (K : Kt) : tl K (lX11_game) 88 = o_aload 0 89 := rfl
theorem aX11_game_89 (K : Kt) : tl K (lX11_game) 89 = o_get 11 7 92 := rfl
theorem aX11_game_92 (K : Kt) : tl K (lX11_game) 92 = o_pushI (nI 86) 94 := rfl
theorem aX11_game_94 (K : Kt) : tl K (lX11_game) 94 = o_iload 1 95 := rfl
theorem aX11_game_95 (K : Kt) : tl K (lX11_game) 95 = o_iadd 96 := rfl
theorem aX11_game_96 (K : Kt) : tl K (lX11_game) 96 = o_iald 97 := rfl
theorem aX11_game_97 (K : Kt) : tl K (lX11_game) 97 = o_iret K := rfl
theorem aX11_game_98 (K : Kt) : tl K (lX11_game) 98 = o_aload 0 99 := rfl
theorem aX11_game_99 (K : Kt) : tl K (lX11_game) 99 = o_get 11 7 102 := rfl
theorem aX11_game_102 (K : Kt) : tl K (lX11_game) 102 = o_pushI (nI 106) 104 := rfl
theorem aX11_game_104 (K : Kt) : tl K (lX11_game) 104 = o_iload 1 105 := rfl
theorem aX11_game_105 (K : Kt) : tl K (lX11_game) 105 = o_iadd 106 := rfl
theorem aX11_game_106 (K : Kt) : tl K (lX11_game) 106 = o_iald 107 := rfl
theorem aX11_game_107 (K : Kt) : tl K (lX11_game) 107 = o_iret K := rfl
theorem aX11_game_108 (K : Kt) : tl K (lX11_game) 108 = o_aload 0 109 := rfl
theorem aX11_game_109 (K : Kt) : tl K (lX11_game) 109 = o_iload 1 110 := rfl
theorem aX11_game_110 (K : Kt) : tl K (lX11_game) 110 = o_callV fX11_leftOf 1 11 113 := rfl
theorem aX11_game_113 (K : Kt) : tl K (lX11_game) 113 = o_iret K := rfl
theorem aX11_game_114 (K : Kt) : tl K (lX11_game) 114 = o_aload 0 115 := rfl
theorem aX11_game_115 (K : Kt) : tl K (lX11_game) 115 = o_iload 1 116 := rfl
theorem aX11_game_116 (K : Kt) : tl K (lX11_game) 116 = o_callV fX11_valueOf 1 11 119 := rfl
theorem aX11_game_119 (K : Kt) : tl K (lX11_game) 119 = o_iret K := rfl
theorem eX11_restOf {As L : List Value} {w : Wd} {K : Kt} (hw : wds As ≤ 4) (hL : ent 4 As = L) (h : RR (tl K lX11_restOf) 0 L [] w) : fX11_restOf As w K := ⟨hw, by rw [hL]; exact h⟩
theorem nX11_restOf : MonoF fX11_restOf := mono_f 4 lX11_restOf
theorem aX11_restOf_0 (K : Kt) : tl K (lX11_restOf) 0 = o_pushI (nI 0) 1 := rfl
theorem aX11_restOf_1 (K : Kt) : tl K (lX11_restOf) 1 = o_istore 2 2 := rfl
theorem aX11_restOf_2 (K : Kt) : tl K (lX11_restOf) 2 = o_pushI (nI 0) 3 := rfl
theorem aX11_restOf_3 (K : Kt) : tl K (lX11_restOf) 3 = o_istore 3 4 := rfl
theorem aX11_restOf_4 (K : Kt) : tl K (lX11_restOf) 4 = o_iload 3 5 := rfl
theorem aX11_restOf_5 (K : Kt) : tl K (lX11_restOf) 5 = o_aload 0 6 := rfl
theorem aX11_restOf_6 (K : Kt) : tl K (lX11_restOf) 6 = o_get 11 7 9 := rfl
theorem aX11_restOf_9 (K : Kt) : tl K (lX11_restOf) 9 = o_pushI (nI 2) 10 := rfl
theorem aX11_restOf_10 (K : Kt) : tl K (lX11_restOf) 10 = o_iald 11 := rfl
theorem aX11_restOf_11 (K : Kt) : tl K (lX11_restOf) 11 = o_icmp_ge 49 14 := rfl
theorem aX11_restOf_14 (K : Kt) : tl K (lX11_restOf) 14 = o_aload 0 15 := rfl
theorem aX11_restOf_15 (K : Kt) : tl K (lX11_restOf) 15 = o_get 11 7 18 := rfl
theorem aX11_restOf_18 (K : Kt) : tl K (lX11_restOf) 18 = o_pushI (nI 246) 21 := rfl
theorem aX11_restOf_21 (K : Kt) : tl K (lX11_restOf) 21 = o_iload 3 22 := rfl
theorem aX11_restOf_22 (K : Kt) : tl K (lX11_restOf) 22 = o_iadd 23 := rfl
theorem aX11_restOf_23 (K : Kt) : tl K (lX11_restOf) 23 = o_iald 24 := rfl
theorem aX11_restOf_24 (K : Kt) : tl K (lX11_restOf) 24 = o_iload 1 25 := rfl
theorem aX11_restOf_25 (K : Kt) : tl K (lX11_restOf) 25 = o_icmp_gt 41 28 := rfl
theorem aX11_restOf_28 (K : Kt) : tl K (lX11_restOf) 28 = o_aload 0 29 := rfl
theorem aX11_restOf_29 (K : Kt) : tl K (lX11_restOf) 29 = o_get 11 7 32 := rfl
theorem aX11_restOf_32 (K : Kt) : tl K (lX11_restOf) 32 = o_pushI (nI 251) 35 := rfl
theorem aX11_restOf_35 (K : Kt) : tl K (lX11_restOf) 35 = o_iload 3 36 := rfl
theorem aX11_restOf_36 (K : Kt) : tl K (lX11_restOf) 36 = o_iadd 37 := rfl
theorem aX11_restOf_37 (K : Kt) : tl K (lX11_restOf) 37 = o_iald 38 := rfl
theorem aX11_restOf_38 (K : Kt) : tl K (lX11_restOf) 38 = o_goto 42 := rfl
theorem aX11_restOf_41 (K : Kt) : tl K (lX11_restOf) 41 = o_iload 2 42 := rfl
theorem aX11_restOf_42 (K : Kt) : tl K (lX11_restOf) 42 = o_istore 2 43 := rfl
theorem aX11_restOf_43 (K : Kt) : tl K (lX11_restOf) 43 = o_iinc 3 (nI 1) 46 := rfl
theorem aX11_restOf_46 (K : Kt) : tl K (lX11_restOf) 46 = o_goto 4 := rfl
theorem aX11_restOf_49 (K : Kt) : tl K (lX11_restOf) 49 = o_iload 2 50 := rfl
theorem aX11_restOf_50 (K : Kt) : tl K (lX11_restOf) 50 = o_iret K := rfl
theorem eX11_rest {As L : List Value} {w : Wd} {K : Kt} (hw : wds As ≤ 2) (hL : ent 2 As = L) (h : RR (tl K lX11_rest) 0 L [] w) : fX11_rest As w K := ⟨hw, by rw [hL]; exact h⟩
theorem nX11_rest : MonoF fX11_rest := mono_f 2 lX11_rest
theorem aX11_rest_0 (K : Kt) : tl K (lX11_rest) 0 = o_aload 0 1 := rfl
theorem aX11_rest_1 (K : Kt) : tl K (lX11_rest) 1 = o_aload 0 2 := rfl
theorem aX11_rest_2 (K : Kt) : tl K (lX11_rest) 2 = o_get 11 6 5 := rfl
theorem aX11_rest_5 (K : Kt) : tl K (lX11_rest) 5 = o_iload 1 6 := rfl
theorem aX11_rest_6 (K : Kt) : tl K (lX11_rest) 6 = o_pushI (nI 0) 7 := rfl
theorem aX11_rest_7 (K : Kt) : tl K (lX11_rest) 7 = o_pushI (nI 200) 10 := rfl
theorem aX11_rest_10 (K : Kt) : tl K (lX11_rest) 10 = o_callS fX11_in 3 13 := rfl
theorem aX11_rest_13 (K : Kt) : tl K (lX11_rest) 13 = o_callS fX11_unless_ 2 16 := rfl
theorem aX11_rest_16 (K : Kt) : tl K (lX11_rest) 16 = o_callV fX11_isRefused 1 11 19 := rfl
theorem aX11_rest_19 (K : Kt) : tl K (lX11_rest) 19 = o_if_eq 26 22 := rfl
theorem aX11_rest_22 (K : Kt) : tl K (lX11_rest) 22 = o_pushI ((-1)) 23 := rfl
theorem aX11_rest_23 (K : Kt) : tl K (lX11_rest) 23 = o_goto 31 := rfl
theorem aX11_rest_26 (K : Kt) : tl K (lX11_rest) 26 = o_aload 0 27 := rfl
theorem aX11_rest_27 (K : Kt) : tl K (lX11_rest) 27 = o_iload 1 28 := rfl
theorem aX11_rest_28 (K : Kt) : tl K (lX11_rest) 28 = o_callV fX11_restOf 1 11 31 := rfl
theorem aX11_rest_31 (K : Kt) : tl K (lX11_rest) 31 = o_iret K := rfl
theorem eX11_laysDays {As L : List Value} {w : Wd} {K : Kt} (hw : wds As ≤ 6) (hL : ent 6 As = L) (h : RR (tl K lX11_laysDays) 0 L [] w) : fX11_laysDays As w K := ⟨hw, by rw [hL]; exact h⟩
theorem nX11_laysDays : MonoF fX11_laysDays := mono_f 6 lX11_laysDays
theorem aX11_laysDays_0 (K : Kt) : tl K (lX11_laysDays) 0 = o_pushI (nI 0) 1 := rfl
theorem aX11_laysDays_1 (K : Kt) : tl K (lX11_laysDays) 1 = o_istore 4 3 := rfl
theorem aX11_laysDays_3 (K : Kt) : tl K (lX11_laysDays) 3 = o_iload 4 5 := rfl
theorem aX11_laysDays_5 (K : Kt) : tl K (lX11_laysDays) 5 = o_pushI (nI 60) 7 := rfl
theorem aX11_laysDays_7 (K : Kt) : tl K (lX11_laysDays) 7 = o_icmp_ge 24 10 := rfl
theorem aX11_laysDays_10 (K : Kt) : tl K (lX11_laysDays) 10 = o_aload 0 11 := rfl
theorem aX11_laysDays_11 (K : Kt) : tl K (lX11_laysDays) 11 = o_get 11 19 14 := rfl
theorem aX11_laysDays_14 (K : Kt) : tl K (lX11_laysDays) 14 = o_iload 4 16 := rfl
theorem aX11_laysDays_16 (K : Kt) : tl K (lX11_laysDays) 16 = o_pushI (nI 0) 17 := rfl
theorem aX11_laysDays_17 (K : Kt) : tl K (lX11_laysDays) 17 = o_iast 18 := rfl
theorem aX11_laysDays_18 (K : Kt) : tl K (lX11_laysDays) 18 = o_iinc 4 (nI 1) 21 := rfl
theorem aX11_laysDays_21 (K : Kt) : tl K (lX11_laysDays) 21 = o_goto 3 := rfl
theorem aX11_laysDays_24 (K : Kt) : tl K (lX11_laysDays) 24 = o_pushI (nI 0) 25 := rfl
theorem aX11_laysDays_25 (K : Kt) : tl K (lX11_laysDays) 25 = o_istore 4 27 := rfl
theorem aX11_laysDays_27 (K : Kt) : tl K (lX11_laysDays) 27 = o_iload 4 29 := rfl
theorem aX11_laysDays_29 (K : Kt) : tl K (lX11_laysDays) 29 = o_aload 0 30 := rfl
theorem aX11_laysDays_30 (K : Kt) : tl K (lX11_laysDays) 30 = o_get 11 7 33 := rfl
theorem aX11_laysDays_33 (K : Kt) : tl K (lX11_laysDays) 33 = o_pushI (nI 1) 34 := rfl
theorem aX11_laysDays_34 (K : Kt) : tl K (lX11_laysDays) 34 = o_iald 35 := rfl
theorem aX11_laysDays_35 (K : Kt) : tl K (lX11_laysDays) 35 = o_icmp_ge 124 38 := rfl
theorem aX11_laysDays_38 (K : Kt) : tl K (lX11_laysDays) 38 = o_pushI (nI 0) 39 := rfl
theorem aX11_laysDays_39 (K : Kt) : tl K (lX11_laysDays) 39 = o_istore 5 41 := rfl
theorem aX11_laysDays_41 (K : Kt) : tl K (lX11_laysDays) 41 = o_iload 5 43 := rfl
theorem aX11_laysDays_43 (K : Kt) : tl K (lX11_laysDays) 43 = o_aload 0 44 := rfl
theorem aX11_laysDays_44 (K : Kt) : tl K (lX11_laysDays) 44 = o_get 11 7 47 := rfl
theorem aX11_laysDays_47 (K : Kt) : tl K (lX11_laysDays) 47 = o_pushI (nI 106) 49 := rfl
theorem aX11_laysDays_49 (K : Kt) : tl K (lX11_laysDays) 49 = o_iload 4 51 := rfl
theorem aX11_laysDays_51 (K : Kt) : tl K (lX11_laysDays) 51 = o_iadd 52 := rfl
theorem aX11_laysDays_52 (K : Kt) : tl K (lX11_laysDays) 52 = o_iald 53 := rfl
theorem aX11_laysDays_53 (K : Kt) : tl K (lX11_laysDays) 53 = o_icmp_ge 118 56 := rfl
theorem aX11_laysDays_56 (K : Kt) : tl K (lX11_laysDays) 56 = o_iload 4 58 := rfl
theorem aX11_laysDays_58 (K : Kt) : tl K (lX11_laysDays) 58 = o_iload 2 59 := rfl
theorem aX11_laysDays_59 (K : Kt) : tl K (lX11_laysDays) 59 = o_iload 2 60 := rfl
theorem aX11_laysDays_60 (K : Kt) : tl K (lX11_laysDays) 60 = o_iload 3 61 := rfl
theorem aX11_laysDays_61 (K : Kt) : tl K (lX11_laysDays) 61 = o_iadd 62 := rfl
theorem aX11_laysDays_62 (K : Kt) : tl K (lX11_laysDays) 62 = o_pushI (nI 1) 63 := rfl
theorem aX11_laysDays_63 (K : Kt) : tl K (lX11_laysDays) 63 = o_isub 64 := rfl
theorem aX11_laysDays_64 (K : Kt) : tl K (lX11_laysDays) 64 = o_callS fX11_in 3 67 := rfl
theorem aX11_laysDays_67 (K : Kt) : tl K (lX11_laysDays) 67 = o_if_ne 118 70 := rfl
theorem aX11_laysDays_70 (K : Kt) : tl K (lX11_laysDays) 70 = o_aload 0 71 := rfl
theorem aX11_laysDays_71 (K : Kt) : tl K (lX11_laysDays) 71 = o_get 11 19 74 := rfl
theorem aX11_laysDays_74 (K : Kt) : tl K (lX11_laysDays) 74 = o_aload 0 75 := rfl
theorem aX11_laysDays_75 (K : Kt) : tl K (lX11_laysDays) 75 = o_get 11 7 78 := rfl
theorem aX11_laysDays_78 (K : Kt) : tl K (lX11_laysDays) 78 = o_pushI (nI 46) 80 := rfl
theorem aX11_laysDays_80 (K : Kt) : tl K (lX11_laysDays) 80 = o_iload 4 82 := rfl
theorem aX11_laysDays_82 (K : Kt) : tl K (lX11_laysDays) 82 = o_iadd 83 := rfl
theorem aX11_laysDays_83 (K : Kt) : tl K (lX11_laysDays) 83 = o_iald 84 := rfl
theorem aX11_laysDays_84 (K : Kt) : tl K (lX11_laysDays) 84 = o_dup2 85 := rfl
theorem aX11_laysDays_85 (K : Kt) : tl K (lX11_laysDays) 85 = o_iald 86 := rfl
theorem aX11_laysDays_86 (K : Kt) : tl K (lX11_laysDays) 86 = o_aload 0 87 := rfl
theorem aX11_laysDays_87 (K : Kt) : tl K (lX11_laysDays) 87 = o_iload 4 89 := rfl
theorem aX11_laysDays_89 (K : Kt) : tl K (lX11_laysDays) 89 = o_iload 5 91 := rfl
theorem aX11_laysDays_91 (K : Kt) : tl K (lX11_laysDays) 91 = o_callV fX11_who 2 11 94 := rfl
theorem aX11_laysDays_94 (K : Kt) : tl K (lX11_laysDays) 94 = o_iload 1 95 := rfl
theorem aX11_laysDays_95 (K : Kt) : tl K (lX11_laysDays) 95 = o_icmp_ne 109 98 := rfl
theorem aX11_laysDays_98 (K : Kt) : tl K (lX11_laysDays) 98 = o_aload 0 99 := rfl
theorem aX11_laysDays_99 (K : Kt) : tl K (lX11_laysDays) 99 = o_iload 4 101 := rfl
theorem aX11_laysDays_101 (K : Kt) : tl K (lX11_laysDays) 101 = o_iload 5 103 := rfl
theorem aX11_laysDays_103 (K : Kt) : tl K (lX11_laysDays) 103 = o_callV fX11_throwsAt 2 11 106 := rfl
theorem aX11_laysDays_106 (K : Kt) : tl K (lX11_laysDays) 106 = o_goto 110 := rfl
theorem aX11_laysDays_109 (K : Kt) : tl K (lX11_laysDays) 109 = o_pushI (nI 0) 110 := rfl
set_option maxRecDepth 8000 in
theorem aX11_laysDays_110 (K : Kt) : tl K (lX11_laysDays) 110 = o_iadd 111 := rfl
set_option maxRecDepth 8000 in
theorem aX11_laysDays_111 (K : Kt) : tl K (lX11_laysDays) 111 = o_iast 112 := rfl
set_option maxRecDepth 8000 in
theorem aX11_laysDays_112 (K : Kt) : tl K (lX11_laysDays) 112 = o_iinc 5 (nI 1) 115 := rfl
set_option maxRecDepth 8000 in
theorem aX11_laysDays_115 (K : Kt) : tl K (lX11_laysDays) 115 = o_goto 41 := rfl
set_option maxRecDepth 8000 in
theorem aX11_laysDays_118 (K : Kt) : tl K (lX11_laysDays) 118 = o_iinc 4 (nI 1) 121 := rfl
set_option maxRecDepth 8000 in
theorem aX11_laysDays_121 (K : Kt) : tl K (lX11_laysDays) 121 = o_goto 27 := rfl
set_option maxRecDepth 8000 in
theorem aX11_laysDays_124 (K : Kt) : tl K (lX11_laysDays) 124 = o_vret K := rfl
theorem eX11_lately {As L : List Value} {w : Wd} {K : Kt} (hw : wds As ≤ 4) (hL : ent 4 As = L) (h : RR (tl K lX11_lately) 0 L [] w) : fX11_lately As w K := ⟨hw, by rw [hL]; exact h⟩
theorem nX11_lately : MonoF fX11_lately := mono_f 4 lX11_lately
theorem aX11_lately_0 (K : Kt) : tl K (lX11_lately) 0 = o_pushI (nI 0) 1 := rfl
theorem aX11_lately_1 (K : Kt) : tl K (lX11_lately) 1 = o_istore 2 2 := rfl
theorem aX11_lately_2 (K : Kt) : tl K (lX11_lately) 2 = o_iload 1 3 := rfl
theorem aX11_lately_3 (K : Kt) : tl K (lX11_lately) 3 = o_pushI (nI 7) 5 := rfl
theorem aX11_lately_5 (K : Kt) : tl K (lX11_lately) 5 = o_isub 6 := rfl
theorem aX11_lately_6 (K : Kt) : tl K (lX11_lately) 6 = o_pushI (nI 1) 7 := rfl
theorem aX11_lately_7 (K : Kt) : tl K (lX11_lately) 7 = o_iadd 8 := rfl
theorem aX11_lately_8 (K : Kt) : tl K (lX11_lately) 8 = o_istore 3 9 := rfl
theorem aX11_lately_9 (K : Kt) : tl K (lX11_lately) 9 = o_iload 3 10 := rfl
theorem aX11_lately_10 (K : Kt) : tl K (lX11_lately) 10 = o_iload 1 11 := rfl
theorem aX11_lately_11 (K : Kt) : tl K (lX11_lately) 11 = o_icmp_gt 43 14 := rfl
theorem aX11_lately_14 (K : Kt) : tl K (lX11_lately) 14 = o_iload 2 15 := rfl
theorem aX11_lately_15 (K : Kt) : tl K (lX11_lately) 15 = o_iload 3 16 := rfl
theorem aX11_lately_16 (K : Kt) : tl K (lX11_lately) 16 = o_pushI (nI 0) 17 := rfl
theorem aX11_lately_17 (K : Kt) : tl K (lX11_lately) 17 = o_pushI (nI 59) 19 := rfl
theorem aX11_lately_19 (K : Kt) : tl K (lX11_lately) 19 = o_callS fX11_in 3 22 := rfl
theorem aX11_lately_22 (K : Kt) : tl K (lX11_lately) 22 = o_if_eq 34 25 := rfl
theorem aX11_lately_25 (K : Kt) : tl K (lX11_lately) 25 = o_aload 0 26 := rfl
theorem aX11_lately_26 (K : Kt) : tl K (lX11_lately) 26 = o_get 11 19 29 := rfl
theorem aX11_lately_29 (K : Kt) : tl K (lX11_lately) 29 = o_iload 3 30 := rfl
theorem aX11_lately_30 (K : Kt) : tl K (lX11_lately) 30 = o_iald 31 := rfl
theorem aX11_lately_31 (K : Kt) : tl K (lX11_lately) 31 = o_goto 35 := rfl
theorem aX11_lately_34 (K : Kt) : tl K (lX11_lately) 34 = o_pushI (nI 0) 35 := rfl
theorem aX11_lately_35 (K : Kt) : tl K (lX11_lately) 35 = o_iadd 36 := rfl
theorem aX11_lately_36 (K : Kt) : tl K (lX11_lately) 36 = o_istore 2 37 := rfl
theorem aX11_lately_37 (K : Kt) : tl K (lX11_lately) 37 = o_iinc 3 (nI 1) 40 := rfl
theorem aX11_lately_40 (K : Kt) : tl K (lX11_lately) 40 = o_goto 9 := rfl
theorem aX11_lately_43 (K : Kt) : tl K (lX11_lately) 43 = o_iload 2 44 := rfl
theorem aX11_lately_44 (K : Kt) : tl K (lX11_lately) 44 = o_iret K := rfl
theorem eX11_isAllowed {As L : List Value} {w : Wd} {K : Kt} (hw : wds As ≤ 7) (hL : ent 7 As = L) (h : RR (tl K lX11_isAllowed) 0 L [] w) : fX11_isAllowed As w K := ⟨hw, by rw [hL]; exact h⟩
theorem nX11_isAllowed : MonoF fX11_isAllowed := mono_f 7 lX11_isAllowed
theorem aX11_isAllowed_0 (K : Kt) : tl K (lX11_isAllowed) 0 = o_iload 3 1 := rfl
theorem aX11_isAllowed_1 (K : Kt) : tl K (lX11_isAllowed) 1 = o_aload 0 2 := rfl
theorem aX11_isAllowed_2 (K : Kt) : tl K (lX11_isAllowed) 2 = o_get 11 7 5 := rfl
theorem aX11_isAllowed_5 (K : Kt) : tl K (lX11_isAllowed) 5 = o_pushI (nI 22) 7 := rfl
theorem aX11_isAllowed_7 (K : Kt) : tl K (lX11_isAllowed) 7 = o_iload 1 8 := rfl
theorem aX11_isAllowed_8 (K : Kt) : tl K (lX11_isAllowed) 8 = o_iadd 9 := rfl
theorem aX11_isAllowed_9 (K : Kt) : tl K (lX11_isAllowed) 9 = o_iald 10 := rfl
theorem aX11_isAllowed_10 (K : Kt) : tl K (lX11_isAllowed) 10 = o_icmp_le 15 13 := rfl
theorem aX11_isAllowed_13 (K : Kt) : tl K (lX11_isAllowed) 13 = o_pushI (nI 0) 14 := rfl
theorem aX11_isAllowed_14 (K : Kt) : tl K (lX11_isAllowed) 14 = o_zret K := rfl
theorem aX11_isAllowed_15 (K : Kt) : tl K (lX11_isAllowed) 15 = o_pushI (nI 0) 16 := rfl
theorem aX11_isAllowed_16 (K : Kt) : tl K (lX11_isAllowed) 16 = o_istore 4 18 := rfl
theorem aX11_isAllowed_18 (K : Kt) : tl K (lX11_isAllowed) 18 = o_iload 4 20 := rfl
theorem aX11_isAllowed_20 (K : Kt) : tl K (lX11_isAllowed) 20 = o_pushI (nI 60) 22 := rfl
theorem aX11_isAllowed_22 (K : Kt) : tl K (lX11_isAllowed) 22 = o_icmp_ge 88 25 := rfl
theorem aX11_isAllowed_25 (K : Kt) : tl K (lX11_isAllowed) 25 = o_aload 0 26 := rfl
theorem aX11_isAllowed_26 (K : Kt) : tl K (lX11_isAllowed) 26 = o_get 11 19 29 := rfl
theorem aX11_isAllowed_29 (K : Kt) : tl K (lX11_isAllowed) 29 = o_iload 4 31 := rfl
theorem aX11_isAllowed_31 (K : Kt) : tl K (lX11_isAllowed) 31 = o_iald 32 := rfl
theorem aX11_isAllowed_32 (K : Kt) : tl K (lX11_isAllowed) 32 = o_if_le 82 35 := rfl
theorem aX11_isAllowed_35 (K : Kt) : tl K (lX11_isAllowed) 35 = o_iload 4 37 := rfl
theorem aX11_isAllowed_37 (K : Kt) : tl K (lX11_isAllowed) 37 = o_iload 2 38 := rfl
theorem aX11_isAllowed_38 (K : Kt) : tl K (lX11_isAllowed) 38 = o_icmp_eq 82 41 := rfl
theorem aX11_isAllowed_41 (K : Kt) : tl K (lX11_isAllowed) 41 = o_iload 4 43 := rfl
theorem aX11_isAllowed_43 (K : Kt) : tl K (lX11_isAllowed) 43 = o_iload 2 44 := rfl
theorem aX11_isAllowed_44 (K : Kt) : tl K (lX11_isAllowed) 44 = o_icmp_ge 68 47 := rfl
theorem aX11_isAllowed_47 (K : Kt) : tl K (lX11_isAllowed) 47 = o_iload 2 48 := rfl
theorem aX11_isAllowed_48 (K : Kt) : tl K (lX11_isAllowed) 48 = o_iload 4 50 := rfl
theorem aX11_isAllowed_50 (K : Kt) : tl K (lX11_isAllowed) 50 = o_isub 51 := rfl
theorem aX11_isAllowed_51 (K : Kt) : tl K (lX11_isAllowed) 51 = o_aload 0 52 := rfl
theorem aX11_isAllowed_52 (K : Kt) : tl K (lX11_isAllowed) 52 = o_aload 0 53 := rfl
theorem aX11_isAllowed_53 (K : Kt) : tl K (lX11_isAllowed) 53 = o_get 11 19 56 := rfl
theorem aX11_isAllowed_56 (K : Kt) : tl K (lX11_isAllowed) 56 = o_iload 4 58 := rfl
theorem aX11_isAllowed_58 (K : Kt) : tl K (lX11_isAllowed) 58 = o_iald 59 := rfl
theorem aX11_isAllowed_59 (K : Kt) : tl K (lX11_isAllowed) 59 = o_callV fX11_restOf 1 11 62 := rfl
theorem aX11_isAllowed_62 (K : Kt) : tl K (lX11_isAllowed) 62 = o_icmp_gt 82 65 := rfl
theorem aX11_isAllowed_65 (K : Kt) : tl K (lX11_isAllowed) 65 = o_goto 80 := rfl
theorem aX11_isAllowed_68 (K : Kt) : tl K (lX11_isAllowed) 68 = o_iload 4 70 := rfl
theorem aX11_isAllowed_70 (K : Kt) : tl K (lX11_isAllowed) 70 = o_iload 2 71 := rfl
theorem aX11_isAllowed_71 (K : Kt) : tl K (lX11_isAllowed) 71 = o_isub 72 := rfl
theorem aX11_isAllowed_72 (K : Kt) : tl K (lX11_isAllowed) 72 = o_aload 0 73 := rfl
theorem aX11_isAllowed_73 (K : Kt) : tl K (lX11_isAllowed) 73 = o_iload 3 74 := rfl
theorem aX11_isAllowed_74 (K : Kt) : tl K (lX11_isAllowed) 74 = o_callV fX11_restOf 1 11 77 := rfl
theorem aX11_isAllowed_77 (K : Kt) : tl K (lX11_isAllowed) 77 = o_icmp_gt 82 80 := rfl
theorem aX11_isAllowed_80 (K : Kt) : tl K (lX11_isAllowed) 80 = o_pushI (nI 0) 81 := rfl
theorem aX11_isAllowed_81 (K : Kt) : tl K (lX11_isAllowed) 81 = o_zret K := rfl
theorem aX11_isAllowed_82 (K : Kt) : tl K (lX11_isAllowed) 82 = o_iinc 4 (nI 1) 85 := rfl
theorem aX11_isAllowed_85 (K : Kt) : tl K (lX11_isAllowed) 85 = o_goto 18 := rfl
theorem aX11_isAllowed_88 (K : Kt) : tl K (lX11_isAllowed) 88 = o_aload 0 89 := rfl
theorem aX11_isAllowed_89 (K : Kt) : tl K (lX11_isAllowed) 89 = o_get 11 19 92 := rfl
theorem aX11_isAllowed_92 (K : Kt) : tl K (lX11_isAllowed) 92 = o_iload 2 93 := rfl
theorem aX11_isAllowed_93 (K : Kt) : tl K (lX11_isAllowed) 93 = o_iald 94 := rfl
theorem aX11_isAllowed_94 (K : Kt) : tl K (lX11_isAllowed) 94 = o_istore 4 96 := rfl
theorem aX11_isAllowed_96 (K : Kt) : tl K (lX11_isAllowed) 96 = o_aload 0 97 := rfl
theorem aX11_isAllowed_97 (K : Kt) : tl K (lX11_isAllowed) 97 = o_get 11 19 100 := rfl
theorem aX11_isAllowed_100 (K : Kt) : tl K (lX11_isAllowed) 100 = o_iload 2 101 := rfl
theorem aX11_isAllowed_101 (K : Kt) : tl K (lX11_isAllowed) 101 = o_iload 3 102 := rfl
theorem aX11_isAllowed_102 (K : Kt) : tl K (lX11_isAllowed) 102 = o_iast 103 := rfl
theorem aX11_isAllowed_103 (K : Kt) : tl K (lX11_isAllowed) 103 = o_pushI (nI 1) 104 := rfl
theorem aX11_isAllowed_104 (K : Kt) : tl K (lX11_isAllowed) 104 = o_istore 5 106 := rfl
theorem aX11_isAllowed_106 (K : Kt) : tl K (lX11_isAllowed) 106 = o_iload 2 107 := rfl
set_option maxRecDepth 8000 in
theorem aX11_isAllowed_107 (K : Kt) : tl K (lX11_isAllowed) 107 = o_istore 6 109 := rfl
set_option maxRecDepth 8000 in
theorem aX11_isAllowed_109 (K : Kt) : tl K (lX11_isAllowed) 109 = o_iload 6 111 := rfl
set_option maxRecDepth 8000 in
theorem aX11_isAllowed_111 (K : Kt) : tl K (lX11_isAllowed) 111 = o_iload 2 112 := rfl
set_option maxRecDepth 8000 in
theorem aX11_isAllowed_112 (K : Kt) : tl K (lX11_isAllowed) 112 = o_pushI (nI 7) 114 := rfl
set_option maxRecDepth 8000 in
theorem aX11_isAllowed_114 (K : Kt) : tl K (lX11_isAllowed) 114 = o_iadd 115 := rfl
set_option maxRecDepth 8000 in
theorem aX11_isAllowed_115 (K : Kt) : tl K (lX11_isAllowed) 115 = o_icmp_ge 160 118 := rfl
set_option maxRecDepth 8000 in
theorem aX11_isAllowed_118 (K : Kt) : tl K (lX11_isAllowed) 118 = o_aload 0 119 := rfl
set_option maxRecDepth 8000 in
theorem aX11_isAllowed_119 (K : Kt) : tl K (lX11_isAllowed) 119 = o_get 11 7 122 := rfl
set_option maxRecDepth 8000 in
theorem aX11_isAllowed_122 (K : Kt) : tl K (lX11_isAllowed) 122 = o_pushI (nI 3) 123 := rfl
set_option maxRecDepth 8000 in
theorem aX11_isAllowed_123 (K : Kt) : tl K (lX11_isAllowed) 123 = o_iald 124 := rfl
set_option maxRecDepth 8000 in
theorem aX11_isAllowed_124 (K : Kt) : tl K (lX11_isAllowed) 124 = o_if_le 160 127 := rfl
set_option maxRecDepth 8000 in
theorem aX11_isAllowed_127 (K : Kt) : tl K (lX11_isAllowed) 127 = o_iload 5 129 := rfl
set_option maxRecDepth 8000 in
theorem aX11_isAllowed_129 (K : Kt) : tl K (lX11_isAllowed) 129 = o_if_eq 151 132 := rfl
set_option maxRecDepth 8000 in
theorem aX11_isAllowed_132 (K : Kt) : tl K (lX11_isAllowed) 132 = o_aload 0 133 := rfl
set_option maxRecDepth 8000 in
theorem aX11_isAllowed_133 (K : Kt) : tl K (lX11_isAllowed) 133 = o_iload 6 135 := rfl
set_option maxRecDepth 8000 in
theorem aX11_isAllowed_135 (K : Kt) : tl K (lX11_isAllowed) 135 = o_callV fX11_lately 1 11 138 := rfl
set_option maxRecDepth 8000 in
theorem aX11_isAllowed_138 (K : Kt) : tl K (lX11_isAllowed) 138 = o_aload 0 139 := rfl
set_option maxRecDepth 8000 in
theorem aX11_isAllowed_139 (K : Kt) : tl K (lX11_isAllowed) 139 = o_get 11 7 142 := rfl
set_option maxRecDepth 8000 in
theorem aX11_isAllowed_142 (K : Kt) : tl K (lX11_isAllowed) 142 = o_pushI (nI 3) 143 := rfl
set_option maxRecDepth 8000 in
theorem aX11_isAllowed_143 (K : Kt) : tl K (lX11_isAllowed) 143 = o_iald 144 := rfl
set_option maxRecDepth 8000 in
theorem aX11_isAllowed_144 (K : Kt) : tl K (lX11_isAllowed) 144 = o_icmp_gt 151 147 := rfl
set_option maxRecDepth 8000 in
theorem aX11_isAllowed_147 (K : Kt) : tl K (lX11_isAllowed) 147 = o_pushI (nI 1) 148 := rfl
set_option maxRecDepth 8000 in
theorem aX11_isAllowed_148 (K : Kt) : tl K (lX11_isAllowed) 148 = o_goto 152 := rfl
set_option maxRecDepth 8000 in
theorem aX11_isAllowed_151 (K : Kt) : tl K (lX11_isAllowed) 151 = o_pushI (nI 0) 152 := rfl
set_option maxRecDepth 8000 in
theorem aX11_isAllowed_152 (K : Kt) : tl K (lX11_isAllowed) 152 = o_istore 5 154 := rfl
set_option maxRecDepth 8000 in
theorem aX11_isAllowed_154 (K : Kt) : tl K (lX11_isAllowed) 154 = o_iinc 6 (nI 1) 157 := rfl
set_option maxRecDepth 8000 in
theorem aX11_isAllowed_157 (K : Kt) : tl K (lX11_isAllowed) 157 = o_goto 109 := rfl
set_option maxRecDepth 8000 in
theorem aX11_isAllowed_160 (K : Kt) : tl K (lX11_isAllowed) 160 = o_aload 0 161 := rfl
set_option maxRecDepth 8000 in
theorem aX11_isAllowed_161 (K : Kt) : tl K (lX11_isAllowed) 161 = o_get 11 19 164 := rfl
set_option maxRecDepth 8000 in
theorem aX11_isAllowed_164 (K : Kt) : tl K (lX11_isAllowed) 164 = o_iload 2 165 := rfl
set_option maxRecDepth 8000 in
theorem aX11_isAllowed_165 (K : Kt) : tl K (lX11_isAllowed) 165 = o_iload 4 167 := rfl
set_option maxRecDepth 8000 in
theorem aX11_isAllowed_167 (K : Kt) : tl K (lX11_isAllowed) 167 = o_iast 168 := rfl
set_option maxRecDepth 8000 in
theorem aX11_isAllowed_168 (K : Kt) : tl K (lX11_isAllowed) 168 = o_iload 5 170 := rfl
set_option maxRecDepth 8000 in
theorem aX11_isAllowed_170 (K : Kt) : tl K (lX11_isAllowed) 170 = o_zret K := rfl
theorem eX11_mostUpTo {As L : List Value} {w : Wd} {K : Kt} (hw : wds As ≤ 5) (hL : ent 5 As = L) (h : RR (tl K lX11_mostUpTo) 0 L [] w) : fX11_mostUpTo As w K := ⟨hw, by rw [hL]; exact h⟩
theorem nX11_mostUpTo : MonoF fX11_mostUpTo := mono_f 5 lX11_mostUpTo
theorem aX11_mostUpTo_0 (K : Kt) : tl K (lX11_mostUpTo) 0 = o_aload 0 1 := rfl
theorem aX11_mostUpTo_1 (K : Kt) : tl K (lX11_mostUpTo) 1 = o_iload 1 2 := rfl
theorem aX11_mostUpTo_2 (K : Kt) : tl K (lX11_mostUpTo) 2 = o_iload 2 3 := rfl
theorem aX11_mostUpTo_3 (K : Kt) : tl K (lX11_mostUpTo) 3 = o_pushI (nI 1) 4 := rfl
theorem aX11_mostUpTo_4 (K : Kt) : tl K (lX11_mostUpTo) 4 = o_callV fX11_laysDays 3 11 7 := rfl
theorem aX11_mostUpTo_7 (K : Kt) : tl K (lX11_mostUpTo) 7 = o_iload 3 8 := rfl
theorem aX11_mostUpTo_8 (K : Kt) : tl K (lX11_mostUpTo) 8 = o_aload 0 9 := rfl
theorem aX11_mostUpTo_9 (K : Kt) : tl K (lX11_mostUpTo) 9 = o_get 11 7 12 := rfl
theorem aX11_mostUpTo_12 (K : Kt) : tl K (lX11_mostUpTo) 12 = o_pushI (nI 22) 14 := rfl
theorem aX11_mostUpTo_14 (K : Kt) : tl K (lX11_mostUpTo) 14 = o_iload 1 15 := rfl
theorem aX11_mostUpTo_15 (K : Kt) : tl K (lX11_mostUpTo) 15 = o_iadd 16 := rfl
theorem aX11_mostUpTo_16 (K : Kt) : tl K (lX11_mostUpTo) 16 = o_iald 17 := rfl
theorem aX11_mostUpTo_17 (K : Kt) : tl K (lX11_mostUpTo) 17 = o_callS fX11_lesser 2 20 := rfl
theorem aX11_mostUpTo_20 (K : Kt) : tl K (lX11_mostUpTo) 20 = o_istore 4 22 := rfl
theorem aX11_mostUpTo_22 (K : Kt) : tl K (lX11_mostUpTo) 22 = o_iload 4 24 := rfl
theorem aX11_mostUpTo_24 (K : Kt) : tl K (lX11_mostUpTo) 24 = o_if_le 52 27 := rfl
theorem aX11_mostUpTo_27 (K : Kt) : tl K (lX11_mostUpTo) 27 = o_aload 0 28 := rfl
theorem aX11_mostUpTo_28 (K : Kt) : tl K (lX11_mostUpTo) 28 = o_iload 1 29 := rfl
theorem aX11_mostUpTo_29 (K : Kt) : tl K (lX11_mostUpTo) 29 = o_aload 0 30 := rfl
theorem aX11_mostUpTo_30 (K : Kt) : tl K (lX11_mostUpTo) 30 = o_get 11 7 33 := rfl
theorem aX11_mostUpTo_33 (K : Kt) : tl K (lX11_mostUpTo) 33 = o_pushI (nI 46) 35 := rfl
theorem aX11_mostUpTo_35 (K : Kt) : tl K (lX11_mostUpTo) 35 = o_iload 2 36 := rfl
theorem aX11_mostUpTo_36 (K : Kt) : tl K (lX11_mostUpTo) 36 = o_iadd 37 := rfl
theorem aX11_mostUpTo_37 (K : Kt) : tl K (lX11_mostUpTo) 37 = o_iald 38 := rfl
theorem aX11_mostUpTo_38 (K : Kt) : tl K (lX11_mostUpTo) 38 = o_iload 4 40 := rfl
theorem aX11_mostUpTo_40 (K : Kt) : tl K (lX11_mostUpTo) 40 = o_callV fX11_isAllowed 3 11 43 := rfl
theorem aX11_mostUpTo_43 (K : Kt) : tl K (lX11_mostUpTo) 43 = o_if_ne 52 46 := rfl
theorem aX11_mostUpTo_46 (K : Kt) : tl K (lX11_mostUpTo) 46 = o_iinc 4 ((-1)) 49 := rfl
theorem aX11_mostUpTo_49 (K : Kt) : tl K (lX11_mostUpTo) 49 = o_goto 22 := rfl
theorem aX11_mostUpTo_52 (K : Kt) : tl K (lX11_mostUpTo) 52 = o_iload 4 54 := rfl
theorem aX11_mostUpTo_54 (K : Kt) : tl K (lX11_mostUpTo) 54 = o_if_ge 61 57 := rfl
theorem aX11_mostUpTo_57 (K : Kt) : tl K (lX11_mostUpTo) 57 = o_pushI (nI 0) 58 := rfl
theorem aX11_mostUpTo_58 (K : Kt) : tl K (lX11_mostUpTo) 58 = o_goto 63 := rfl
theorem aX11_mostUpTo_61 (K : Kt) : tl K (lX11_mostUpTo) 61 = o_iload 4 63 := rfl
theorem aX11_mostUpTo_63 (K : Kt) : tl K (lX11_mostUpTo) 63 = o_iret K := rfl
theorem eX11_mostOf {As L : List Value} {w : Wd} {K : Kt} (hw : wds As ≤ 3) (hL : ent 3 As = L) (h : RR (tl K lX11_mostOf) 0 L [] w) : fX11_mostOf As w K := ⟨hw, by rw [hL]; exact h⟩
theorem nX11_mostOf : MonoF fX11_mostOf := mono_f 3 lX11_mostOf
theorem aX11_mostOf_0 (K : Kt) : tl K (lX11_mostOf) 0 = o_aload 0 1 := rfl
theorem aX11_mostOf_1 (K : Kt) : tl K (lX11_mostOf) 1 = o_iload 1 2 := rfl
theorem aX11_mostOf_2 (K : Kt) : tl K (lX11_mostOf) 2 = o_iload 2 3 := rfl
theorem aX11_mostOf_3 (K : Kt) : tl K (lX11_mostOf) 3 = o_callV fX11_isIn 2 11 6 := rfl
theorem aX11_mostOf_6 (K : Kt) : tl K (lX11_mostOf) 6 = o_if_ne 22 9 := rfl
theorem aX11_mostOf_9 (K : Kt) : tl K (lX11_mostOf) 9 = o_aload 0 10 := rfl
theorem aX11_mostOf_10 (K : Kt) : tl K (lX11_mostOf) 10 = o_get 11 7 13 := rfl
theorem aX11_mostOf_13 (K : Kt) : tl K (lX11_mostOf) 13 = o_pushI (nI 106) 15 := rfl
theorem aX11_mostOf_15 (K : Kt) : tl K (lX11_mostOf) 15 = o_iload 2 16 := rfl
theorem aX11_mostOf_16 (K : Kt) : tl K (lX11_mostOf) 16 = o_iadd 17 := rfl
theorem aX11_mostOf_17 (K : Kt) : tl K (lX11_mostOf) 17 = o_iald 18 := rfl
theorem aX11_mostOf_18 (K : Kt) : tl K (lX11_mostOf) 18 = o_pushI (nI 3) 19 := rfl
theorem aX11_mostOf_19 (K : Kt) : tl K (lX11_mostOf) 19 = o_icmp_ne 26 22 := rfl
theorem aX11_mostOf_22 (K : Kt) : tl K (lX11_mostOf) 22 = o_pushI (nI 0) 23 := rfl
theorem aX11_mostOf_23 (K : Kt) : tl K (lX11_mostOf) 23 = o_goto 37 := rfl
theorem aX11_mostOf_26 (K : Kt) : tl K (lX11_mostOf) 26 = o_aload 0 27 := rfl
theorem aX11_mostOf_27 (K : Kt) : tl K (lX11_mostOf) 27 = o_iload 1 28 := rfl
theorem aX11_mostOf_28 (K : Kt) : tl K (lX11_mostOf) 28 = o_iload 2 29 := rfl
theorem aX11_mostOf_29 (K : Kt) : tl K (lX11_mostOf) 29 = o_aload 0 30 := rfl
theorem aX11_mostOf_30 (K : Kt) : tl K (lX11_mostOf) 30 = o_iload 2 31 := rfl
theorem aX11_mostOf_31 (K : Kt) : tl K (lX11_mostOf) 31 = o_callV fX11_leftOf 1 11 34 := rfl
theorem aX11_mostOf_34 (K : Kt) : tl K (lX11_mostOf) 34 = o_callV fX11_mostUpTo 3 11 37 := rfl
theorem aX11_mostOf_37 (K : Kt) : tl K (lX11_mostOf) 37 = o_iret K := rfl
theorem eX11_isAllowedAt {As L : List Value} {w : Wd} {K : Kt} (hw : wds As ≤ 3) (hL : ent 3 As = L) (h : RR (tl K lX11_isAllowedAt) 0 L [] w) : fX11_isAllowedAt As w K := ⟨hw, by rw [hL]; exact h⟩
theorem nX11_isAllowedAt : MonoF fX11_isAllowedAt := mono_f 3 lX11_isAllowedAt
theorem aX11_isAllowedAt_0 (K : Kt) : tl K (lX11_isAllowedAt) 0 = o_aload 0 1 := rfl
theorem aX11_isAllowedAt_1 (K : Kt) : tl K (lX11_isAllowedAt) 1 = o_aload 0 2 := rfl
theorem aX11_isAllowedAt_2 (K : Kt) : tl K (lX11_isAllowedAt) 2 = o_iload 1 3 := rfl
theorem aX11_isAllowedAt_3 (K : Kt) : tl K (lX11_isAllowedAt) 3 = o_iload 2 4 := rfl
theorem aX11_isAllowedAt_4 (K : Kt) : tl K (lX11_isAllowedAt) 4 = o_callV fX11_who 2 11 7 := rfl
theorem aX11_isAllowedAt_7 (K : Kt) : tl K (lX11_isAllowedAt) 7 = o_iload 1 8 := rfl
theorem aX11_isAllowedAt_8 (K : Kt) : tl K (lX11_isAllowedAt) 8 = o_pushI (nI 1) 9 := rfl
theorem aX11_isAllowedAt_9 (K : Kt) : tl K (lX11_isAllowedAt) 9 = o_callV fX11_laysDays 3 11 12 := rfl
theorem aX11_isAllowedAt_12 (K : Kt) : tl K (lX11_isAllowedAt) 12 = o_aload 0 13 := rfl
theorem aX11_isAllowedAt_13 (K : Kt) : tl K (lX11_isAllowedAt) 13 = o_aload 0 14 := rfl
theorem aX11_isAllowedAt_14 (K : Kt) : tl K (lX11_isAllowedAt) 14 = o_iload 1 15 := rfl
theorem aX11_isAllowedAt_15 (K : Kt) : tl K (lX11_isAllowedAt) 15 = o_iload 2 16 := rfl
theorem aX11_isAllowedAt_16 (K : Kt) : tl K (lX11_isAllowedAt) 16 = o_callV fX11_who 2 11 19 := rfl
theorem aX11_isAllowedAt_19 (K : Kt) : tl K (lX11_isAllowedAt) 19 = o_aload 0 20 := rfl
theorem aX11_isAllowedAt_20 (K : Kt) : tl K (lX11_isAllowedAt) 20 = o_get 11 7 23 := rfl
theorem aX11_isAllowedAt_23 (K : Kt) : tl K (lX11_isAllowedAt) 23 = o_pushI (nI 46) 25 := rfl
theorem aX11_isAllowedAt_25 (K : Kt) : tl K (lX11_isAllowedAt) 25 = o_iload 1 26 := rfl
theorem aX11_isAllowedAt_26 (K : Kt) : tl K (lX11_isAllowedAt) 26 = o_iadd 27 := rfl
theorem aX11_isAllowedAt_27 (K : Kt) : tl K (lX11_isAllowedAt) 27 = o_iald 28 := rfl
theorem aX11_isAllowedAt_28 (K : Kt) : tl K (lX11_isAllowedAt) 28 = o_aload 0 29 := rfl
theorem aX11_isAllowedAt_29 (K : Kt) : tl K (lX11_isAllowedAt) 29 = o_iload 1 30 := rfl
theorem aX11_isAllowedAt_30 (K : Kt) : tl K (lX11_isAllowedAt) 30 = o_iload 2 31 := rfl
theorem aX11_isAllowedAt_31 (K : Kt) : tl K (lX11_isAllowedAt) 31 = o_callV fX11_throwsAt 2 11 34 := rfl
theorem aX11_isAllowedAt_34 (K : Kt) : tl K (lX11_isAllowedAt) 34 = o_callV fX11_isAllowed 3 11 37 := rfl
theorem aX11_isAllowedAt_37 (K : Kt) : tl K (lX11_isAllowedAt) 37 = o_zret K := rfl
theorem eX11_outing {As L : List Value} {w : Wd} {K : Kt} (hw : wds As ≤ 6) (hL : ent 6 As = L) (h : RR (tl K lX11_outing) 0 L [] w) : fX11_outing As w K := ⟨hw, by rw [hL]; exact h⟩
theorem nX11_outing : MonoF fX11_outing := mono_f 6 lX11_outing
theorem aX11_outing_0 (K : Kt) : tl K (lX11_outing) 0 = o_aload 0 1 := rfl
theorem aX11_outing_1 (K : Kt) : tl K (lX11_outing) 1 = o_aload 0 2 := rfl
theorem aX11_outing_2 (K : Kt) : tl K (lX11_outing) 2 = o_iload 1 3 := rfl
theorem aX11_outing_3 (K : Kt) : tl K (lX11_outing) 3 = o_callV fX11_isGame 1 11 6 := rfl
theorem aX11_outing_6 (K : Kt) : tl K (lX11_outing) 6 = o_if_eq 41 9 := rfl
theorem aX11_outing_9 (K : Kt) : tl K (lX11_outing) 9 = o_iload 2 10 := rfl
theorem aX11_outing_10 (K : Kt) : tl K (lX11_outing) 10 = o_pushI (nI 0) 11 := rfl
theorem aX11_outing_11 (K : Kt) : tl K (lX11_outing) 11 = o_aload 0 12 := rfl
theorem aX11_outing_12 (K : Kt) : tl K (lX11_outing) 12 = o_get 11 7 15 := rfl
theorem aX11_outing_15 (K : Kt) : tl K (lX11_outing) 15 = o_pushI (nI 106) 17 := rfl
theorem aX11_outing_17 (K : Kt) : tl K (lX11_outing) 17 = o_iload 1 18 := rfl
theorem aX11_outing_18 (K : Kt) : tl K (lX11_outing) 18 = o_iadd 19 := rfl
theorem aX11_outing_19 (K : Kt) : tl K (lX11_outing) 19 = o_iald 20 := rfl
theorem aX11_outing_20 (K : Kt) : tl K (lX11_outing) 20 = o_pushI (nI 1) 21 := rfl
theorem aX11_outing_21 (K : Kt) : tl K (lX11_outing) 21 = o_isub 22 := rfl
theorem aX11_outing_22 (K : Kt) : tl K (lX11_outing) 22 = o_callS fX11_in 3 25 := rfl
theorem aX11_outing_25 (K : Kt) : tl K (lX11_outing) 25 = o_if_eq 41 28 := rfl
theorem aX11_outing_28 (K : Kt) : tl K (lX11_outing) 28 = o_iload 3 29 := rfl
theorem aX11_outing_29 (K : Kt) : tl K (lX11_outing) 29 = o_pushI (nI 0) 30 := rfl
theorem aX11_outing_30 (K : Kt) : tl K (lX11_outing) 30 = o_pushI (nI 4) 31 := rfl
theorem aX11_outing_31 (K : Kt) : tl K (lX11_outing) 31 = o_callS fX11_in 3 34 := rfl
theorem aX11_outing_34 (K : Kt) : tl K (lX11_outing) 34 = o_if_eq 41 37 := rfl
theorem aX11_outing_37 (K : Kt) : tl K (lX11_outing) 37 = o_pushI (nI 1) 38 := rfl
theorem aX11_outing_38 (K : Kt) : tl K (lX11_outing) 38 = o_goto 42 := rfl
theorem aX11_outing_41 (K : Kt) : tl K (lX11_outing) 41 = o_pushI (nI 0) 42 := rfl
theorem aX11_outing_42 (K : Kt) : tl K (lX11_outing) 42 = o_callS fX11_unless 1 45 := rfl
theorem aX11_outing_45 (K : Kt) : tl K (lX11_outing) 45 = o_callV fX11_isRefused 1 11 48 := rfl
theorem aX11_outing_48 (K : Kt) : tl K (lX11_outing) 48 = o_if_eq 53 51 := rfl
theorem aX11_outing_51 (K : Kt) : tl K (lX11_outing) 51 = o_pushI ((-1)) 52 := rfl
theorem aX11_outing_52 (K : Kt) : tl K (lX11_outing) 52 = o_iret K := rfl
theorem aX11_outing_53 (K : Kt) : tl K (lX11_outing) 53 = o_aload 0 54 := rfl
theorem aX11_outing_54 (K : Kt) : tl K (lX11_outing) 54 = o_iload 1 55 := rfl
theorem aX11_outing_55 (K : Kt) : tl K (lX11_outing) 55 = o_iload 2 56 := rfl
theorem aX11_outing_56 (K : Kt) : tl K (lX11_outing) 56 = o_callV fX11_who 2 11 59 := rfl
theorem aX11_outing_59 (K : Kt) : tl K (lX11_outing) 59 = o_istore 4 61 := rfl
theorem aX11_outing_61 (K : Kt) : tl K (lX11_outing) 61 = o_aload 0 62 := rfl
theorem aX11_outing_62 (K : Kt) : tl K (lX11_outing) 62 = o_iload 1 63 := rfl
theorem aX11_outing_63 (K : Kt) : tl K (lX11_outing) 63 = o_iload 2 64 := rfl
theorem aX11_outing_64 (K : Kt) : tl K (lX11_outing) 64 = o_callV fX11_throwsAt 2 11 67 := rfl
theorem aX11_outing_67 (K : Kt) : tl K (lX11_outing) 67 = o_istore 5 69 := rfl
theorem aX11_outing_69 (K : Kt) : tl K (lX11_outing) 69 = o_iload 3 70 := rfl
theorem aX11_outing_70 (K : Kt) : tl K (lX11_outing) 70 = o_table 0 3 125 [100, 103, 106, 116] := rfl
theorem aX11_outing_100 (K : Kt) : tl K (lX11_outing) 100 = o_iload 4 102 := rfl
theorem aX11_outing_102 (K : Kt) : tl K (lX11_outing) 102 = o_iret K := rfl
theorem aX11_outing_103 (K : Kt) : tl K (lX11_outing) 103 = o_iload 5 105 := rfl
theorem aX11_outing_105 (K : Kt) : tl K (lX11_outing) 105 = o_iret K := rfl
theorem aX11_outing_106 (K : Kt) : tl K (lX11_outing) 106 = o_aload 0 107 := rfl
theorem aX11_outing_107 (K : Kt) : tl K (lX11_outing) 107 = o_iload 4 109 := rfl
theorem aX11_outing_109 (K : Kt) : tl K (lX11_outing) 109 = o_iload 1 110 := rfl
theorem aX11_outing_110 (K : Kt) : tl K (lX11_outing) 110 = o_iload 5 112 := rfl
theorem aX11_outing_112 (K : Kt) : tl K (lX11_outing) 112 = o_callV fX11_worthOf 3 11 115 := rfl
theorem aX11_outing_115 (K : Kt) : tl K (lX11_outing) 115 = o_iret K := rfl
theorem aX11_outing_116 (K : Kt) : tl K (lX11_outing) 116 = o_aload 0 117 := rfl
theorem aX11_outing_117 (K : Kt) : tl K (lX11_outing) 117 = o_iload 4 119 := rfl
theorem aX11_outing_119 (K : Kt) : tl K (lX11_outing) 119 = o_iload 5 121 := rfl
theorem aX11_outing_121 (K : Kt) : tl K (lX11_outing) 121 = o_callV fX11_riskOf 2 11 124 := rfl
theorem aX11_outing_124 (K : Kt) : tl K (lX11_outing) 124 = o_iret K := rfl
theorem aX11_outing_125 (K : Kt) : tl K (lX11_outing) 125 = o_aload 0 126 := rfl
theorem aX11_outing_126 (K : Kt) : tl K (lX11_outing) 126 = o_iload 1 127 := rfl
theorem aX11_outing_127 (K : Kt) : tl K (lX11_outing) 127 = o_iload 2 128 := rfl
theorem aX11_outing_128 (K : Kt) : tl K (lX11_outing) 128 = o_callV fX11_isAllowedAt 2 11 131 := rfl
set_option maxRecDepth 8000 in
theorem aX11_outing_131 (K : Kt) : tl K (lX11_outing) 131 = o_if_eq 138 134 := rfl
set_option maxRecDepth 8000 in
theorem aX11_outing_134 (K : Kt) : tl K (lX11_outing) 134 = o_pushI (nI 1) 135 := rfl
set_option maxRecDepth 8000 in
theorem aX11_outing_135 (K : Kt) : tl K (lX11_outing) 135 = o_goto 139 := rfl
set_option maxRecDepth 8000 in
theorem aX11_outing_138 (K : Kt) : tl K (lX11_outing) 138 = o_pushI (nI 0) 139 := rfl
set_option maxRecDepth 8000 in
theorem aX11_outing_139 (K : Kt) : tl K (lX11_outing) 139 = o_iret K := rfl
theorem eX11_value {As L : List Value} {w : Wd} {K : Kt} (hw : wds As ≤ 3) (hL : ent 3 As = L) (h : RR (tl K lX11_value) 0 L [] w) : fX11_value As w K := ⟨hw, by rw [hL]; exact h⟩
theorem nX11_value : MonoF fX11_value := mono_f 3 lX11_value
theorem aX11_value_0 (K : Kt) : tl K (lX11_value) 0 = o_aload 0 1 := rfl
theorem aX11_value_1 (K : Kt) : tl K (lX11_value) 1 = o_aload 0 2 := rfl
theorem aX11_value_2 (K : Kt) : tl K (lX11_value) 2 = o_get 11 6 5 := rfl
theorem aX11_value_5 (K : Kt) : tl K (lX11_value) 5 = o_callS fX11_unless 1 8 := rfl
theorem aX11_value_8 (K : Kt) : tl K (lX11_value) 8 = o_callV fX11_isRefused 1 11 11 := rfl
theorem aX11_value_11 (K : Kt) : tl K (lX11_value) 11 = o_if_eq 16 14 := rfl
theorem aX11_value_14 (K : Kt) : tl K (lX11_value) 14 = o_pushI ((-1)) 15 := rfl
theorem aX11_value_15 (K : Kt) : tl K (lX11_value) 15 = o_iret K := rfl
theorem aX11_value_16 (K : Kt) : tl K (lX11_value) 16 = o_pushI (nI 0) 17 := rfl
theorem aX11_value_17 (K : Kt) : tl K (lX11_value) 17 = o_istore 1 18 := rfl
theorem aX11_value_18 (K : Kt) : tl K (lX11_value) 18 = o_pushI (nI 0) 19 := rfl
theorem aX11_value_19 (K : Kt) : tl K (lX11_value) 19 = o_istore 2 20 := rfl
theorem aX11_value_20 (K : Kt) : tl K (lX11_value) 20 = o_iload 2 21 := rfl
theorem aX11_value_21 (K : Kt) : tl K (lX11_value) 21 = o_aload 0 22 := rfl
theorem aX11_value_22 (K : Kt) : tl K (lX11_value) 22 = o_get 11 7 25 := rfl
theorem aX11_value_25 (K : Kt) : tl K (lX11_value) 25 = o_pushI (nI 1) 26 := rfl
theorem aX11_value_26 (K : Kt) : tl K (lX11_value) 26 = o_iald 27 := rfl
theorem aX11_value_27 (K : Kt) : tl K (lX11_value) 27 = o_icmp_ge 44 30 := rfl
theorem aX11_value_30 (K : Kt) : tl K (lX11_value) 30 = o_iload 1 31 := rfl
theorem aX11_value_31 (K : Kt) : tl K (lX11_value) 31 = o_aload 0 32 := rfl
theorem aX11_value_32 (K : Kt) : tl K (lX11_value) 32 = o_iload 2 33 := rfl
theorem aX11_value_33 (K : Kt) : tl K (lX11_value) 33 = o_callV fX11_valueOf 1 11 36 := rfl
theorem aX11_value_36 (K : Kt) : tl K (lX11_value) 36 = o_iadd 37 := rfl
theorem aX11_value_37 (K : Kt) : tl K (lX11_value) 37 = o_istore 1 38 := rfl
theorem aX11_value_38 (K : Kt) : tl K (lX11_value) 38 = o_iinc 2 (nI 1) 41 := rfl
theorem aX11_value_41 (K : Kt) : tl K (lX11_value) 41 = o_goto 20 := rfl
theorem aX11_value_44 (K : Kt) : tl K (lX11_value) 44 = o_iload 1 45 := rfl
theorem aX11_value_45 (K : Kt) : tl K (lX11_value) 45 = o_iret K := rfl
