theorem eX11_points {As L : List Value} {w : Wd} {K : Kt} (hw : wds As ≤ 3) (hL : ent 3 As = L) (h : RR (tl K lX11_points) 0 L [] w) : fX11_points As w K := ⟨hw, by rw [hL]; exact h⟩
theorem nX11_points : MonoF fX11_points := mono_f 3 lX11_points
theorem aX11_points_0 (K : Kt) : tl K (lX11_points) 0 = o_aload 0 1 := rfl
theorem aX11_points_1 (K : Kt) : tl K (lX11_points) 1 = o_aload 0 2 := rfl
theorem aX11_points_2 (K : Kt) : tl K (lX11_points) 2 = o_iload 1 3 := rfl
theorem aX11_points_3 (K : Kt) : tl K (lX11_points) 3 = o_callV fX11_isArm 1 11 6 := rfl
theorem aX11_points_6 (K : Kt) : tl K (lX11_points) 6 = o_if_eq 21 9 := rfl
theorem aX11_points_9 (K : Kt) : tl K (lX11_points) 9 = o_aload 0 10 := rfl
theorem aX11_points_10 (K : Kt) : tl K (lX11_points) 10 = o_iload 2 11 := rfl
theorem aX11_points_11 (K : Kt) : tl K (lX11_points) 11 = o_callV fX11_isGame 1 11 14 := rfl
theorem aX11_points_14 (K : Kt) : tl K (lX11_points) 14 = o_if_eq 21 17 := rfl
theorem aX11_points_17 (K : Kt) : tl K (lX11_points) 17 = o_pushI (nI 1) 18 := rfl
theorem aX11_points_18 (K : Kt) : tl K (lX11_points) 18 = o_goto 22 := rfl
theorem aX11_points_21 (K : Kt) : tl K (lX11_points) 21 = o_pushI (nI 0) 22 := rfl
theorem aX11_points_22 (K : Kt) : tl K (lX11_points) 22 = o_callS fX11_unless 1 25 := rfl
theorem aX11_points_25 (K : Kt) : tl K (lX11_points) 25 = o_callV fX11_isRefused 1 11 28 := rfl
theorem aX11_points_28 (K : Kt) : tl K (lX11_points) 28 = o_if_eq 35 31 := rfl
theorem aX11_points_31 (K : Kt) : tl K (lX11_points) 31 = o_pushI ((-1)) 32 := rfl
theorem aX11_points_32 (K : Kt) : tl K (lX11_points) 32 = o_goto 41 := rfl
theorem aX11_points_35 (K : Kt) : tl K (lX11_points) 35 = o_aload 0 36 := rfl
theorem aX11_points_36 (K : Kt) : tl K (lX11_points) 36 = o_iload 1 37 := rfl
theorem aX11_points_37 (K : Kt) : tl K (lX11_points) 37 = o_iload 2 38 := rfl
theorem aX11_points_38 (K : Kt) : tl K (lX11_points) 38 = o_callV fX11_pointsOf 2 11 41 := rfl
theorem aX11_points_41 (K : Kt) : tl K (lX11_points) 41 = o_iret K := rfl
theorem eX11_worth {As L : List Value} {w : Wd} {K : Kt} (hw : wds As ≤ 4) (hL : ent 4 As = L) (h : RR (tl K lX11_worth) 0 L [] w) : fX11_worth As w K := ⟨hw, by rw [hL]; exact h⟩
theorem nX11_worth : MonoF fX11_worth := mono_f 4 lX11_worth
theorem aX11_worth_0 (K : Kt) : tl K (lX11_worth) 0 = o_aload 0 1 := rfl
theorem aX11_worth_1 (K : Kt) : tl K (lX11_worth) 1 = o_aload 0 2 := rfl
theorem aX11_worth_2 (K : Kt) : tl K (lX11_worth) 2 = o_iload 1 3 := rfl
theorem aX11_worth_3 (K : Kt) : tl K (lX11_worth) 3 = o_callV fX11_isArm 1 11 6 := rfl
theorem aX11_worth_6 (K : Kt) : tl K (lX11_worth) 6 = o_if_eq 21 9 := rfl
theorem aX11_worth_9 (K : Kt) : tl K (lX11_worth) 9 = o_aload 0 10 := rfl
theorem aX11_worth_10 (K : Kt) : tl K (lX11_worth) 10 = o_iload 2 11 := rfl
theorem aX11_worth_11 (K : Kt) : tl K (lX11_worth) 11 = o_callV fX11_isGame 1 11 14 := rfl
theorem aX11_worth_14 (K : Kt) : tl K (lX11_worth) 14 = o_if_eq 21 17 := rfl
theorem aX11_worth_17 (K : Kt) : tl K (lX11_worth) 17 = o_pushI (nI 1) 18 := rfl
theorem aX11_worth_18 (K : Kt) : tl K (lX11_worth) 18 = o_goto 22 := rfl
theorem aX11_worth_21 (K : Kt) : tl K (lX11_worth) 21 = o_pushI (nI 0) 22 := rfl
theorem aX11_worth_22 (K : Kt) : tl K (lX11_worth) 22 = o_iload 3 23 := rfl
theorem aX11_worth_23 (K : Kt) : tl K (lX11_worth) 23 = o_pushI (nI 0) 24 := rfl
theorem aX11_worth_24 (K : Kt) : tl K (lX11_worth) 24 = o_pushI (nI 200) 27 := rfl
theorem aX11_worth_27 (K : Kt) : tl K (lX11_worth) 27 = o_callS fX11_in 3 30 := rfl
theorem aX11_worth_30 (K : Kt) : tl K (lX11_worth) 30 = o_callS fX11_unless_ 2 33 := rfl
theorem aX11_worth_33 (K : Kt) : tl K (lX11_worth) 33 = o_callV fX11_isRefused 1 11 36 := rfl
theorem aX11_worth_36 (K : Kt) : tl K (lX11_worth) 36 = o_if_eq 43 39 := rfl
theorem aX11_worth_39 (K : Kt) : tl K (lX11_worth) 39 = o_pushI ((-1)) 40 := rfl
theorem aX11_worth_40 (K : Kt) : tl K (lX11_worth) 40 = o_goto 50 := rfl
theorem aX11_worth_43 (K : Kt) : tl K (lX11_worth) 43 = o_aload 0 44 := rfl
theorem aX11_worth_44 (K : Kt) : tl K (lX11_worth) 44 = o_iload 1 45 := rfl
theorem aX11_worth_45 (K : Kt) : tl K (lX11_worth) 45 = o_iload 2 46 := rfl
theorem aX11_worth_46 (K : Kt) : tl K (lX11_worth) 46 = o_iload 3 47 := rfl
theorem aX11_worth_47 (K : Kt) : tl K (lX11_worth) 47 = o_callV fX11_worthOf 3 11 50 := rfl
theorem aX11_worth_50 (K : Kt) : tl K (lX11_worth) 50 = o_iret K := rfl
theorem eX11_most {As L : List Value} {w : Wd} {K : Kt} (hw : wds As ≤ 3) (hL : ent 3 As = L) (h : RR (tl K lX11_most) 0 L [] w) : fX11_most As w K := ⟨hw, by rw [hL]; exact h⟩
theorem nX11_most : MonoF fX11_most := mono_f 3 lX11_most
theorem aX11_most_0 (K : Kt) : tl K (lX11_most) 0 = o_aload 0 1 := rfl
theorem aX11_most_1 (K : Kt) : tl K (lX11_most) 1 = o_aload 0 2 := rfl
theorem aX11_most_2 (K : Kt) : tl K (lX11_most) 2 = o_iload 1 3 := rfl
theorem aX11_most_3 (K : Kt) : tl K (lX11_most) 3 = o_callV fX11_isArm 1 11 6 := rfl
theorem aX11_most_6 (K : Kt) : tl K (lX11_most) 6 = o_if_eq 21 9 := rfl
theorem aX11_most_9 (K : Kt) : tl K (lX11_most) 9 = o_aload 0 10 := rfl
theorem aX11_most_10 (K : Kt) : tl K (lX11_most) 10 = o_iload 2 11 := rfl
theorem aX11_most_11 (K : Kt) : tl K (lX11_most) 11 = o_callV fX11_isGame 1 11 14 := rfl
theorem aX11_most_14 (K : Kt) : tl K (lX11_most) 14 = o_if_eq 21 17 := rfl
theorem aX11_most_17 (K : Kt) : tl K (lX11_most) 17 = o_pushI (nI 1) 18 := rfl
theorem aX11_most_18 (K : Kt) : tl K (lX11_most) 18 = o_goto 22 := rfl
theorem aX11_most_21 (K : Kt) : tl K (lX11_most) 21 = o_pushI (nI 0) 22 := rfl
theorem aX11_most_22 (K : Kt) : tl K (lX11_most) 22 = o_callS fX11_unless 1 25 := rfl
theorem aX11_most_25 (K : Kt) : tl K (lX11_most) 25 = o_callV fX11_isRefused 1 11 28 := rfl
theorem aX11_most_28 (K : Kt) : tl K (lX11_most) 28 = o_if_eq 35 31 := rfl
theorem aX11_most_31 (K : Kt) : tl K (lX11_most) 31 = o_pushI ((-1)) 32 := rfl
theorem aX11_most_32 (K : Kt) : tl K (lX11_most) 32 = o_goto 41 := rfl
theorem aX11_most_35 (K : Kt) : tl K (lX11_most) 35 = o_aload 0 36 := rfl
theorem aX11_most_36 (K : Kt) : tl K (lX11_most) 36 = o_iload 1 37 := rfl
theorem aX11_most_37 (K : Kt) : tl K (lX11_most) 37 = o_iload 2 38 := rfl
theorem aX11_most_38 (K : Kt) : tl K (lX11_most) 38 = o_callV fX11_mostOf 2 11 41 := rfl
theorem aX11_most_41 (K : Kt) : tl K (lX11_most) 41 = o_iret K := rfl
theorem eX11_when {As L : List Value} {w : Wd} {K : Kt} (hw : wds As ≤ 5) (hL : ent 5 As = L) (h : RR (tl K lX11_when) 0 L [] w) : fX11_when As w K := ⟨hw, by rw [hL]; exact h⟩
theorem nX11_when : MonoF fX11_when := mono_f 5 lX11_when
theorem aX11_when_0 (K : Kt) : tl K (lX11_when) 0 = o_aload 0 1 := rfl
theorem aX11_when_1 (K : Kt) : tl K (lX11_when) 1 = o_aload 0 2 := rfl
theorem aX11_when_2 (K : Kt) : tl K (lX11_when) 2 = o_iload 1 3 := rfl
theorem aX11_when_3 (K : Kt) : tl K (lX11_when) 3 = o_callV fX11_isArm 1 11 6 := rfl
theorem aX11_when_6 (K : Kt) : tl K (lX11_when) 6 = o_if_eq 21 9 := rfl
theorem aX11_when_9 (K : Kt) : tl K (lX11_when) 9 = o_aload 0 10 := rfl
theorem aX11_when_10 (K : Kt) : tl K (lX11_when) 10 = o_iload 2 11 := rfl
theorem aX11_when_11 (K : Kt) : tl K (lX11_when) 11 = o_callV fX11_isGame 1 11 14 := rfl
theorem aX11_when_14 (K : Kt) : tl K (lX11_when) 14 = o_if_eq 21 17 := rfl
theorem aX11_when_17 (K : Kt) : tl K (lX11_when) 17 = o_pushI (nI 1) 18 := rfl
theorem aX11_when_18 (K : Kt) : tl K (lX11_when) 18 = o_goto 22 := rfl
theorem aX11_when_21 (K : Kt) : tl K (lX11_when) 21 = o_pushI (nI 0) 22 := rfl
theorem aX11_when_22 (K : Kt) : tl K (lX11_when) 22 = o_iload 3 23 := rfl
theorem aX11_when_23 (K : Kt) : tl K (lX11_when) 23 = o_pushI (nI 1) 24 := rfl
theorem aX11_when_24 (K : Kt) : tl K (lX11_when) 24 = o_pushI (nI 120) 26 := rfl
theorem aX11_when_26 (K : Kt) : tl K (lX11_when) 26 = o_callS fX11_in 3 29 := rfl
theorem aX11_when_29 (K : Kt) : tl K (lX11_when) 29 = o_callS fX11_unless_ 2 32 := rfl
theorem aX11_when_32 (K : Kt) : tl K (lX11_when) 32 = o_callV fX11_isRefused 1 11 35 := rfl
theorem aX11_when_35 (K : Kt) : tl K (lX11_when) 35 = o_if_eq 40 38 := rfl
theorem aX11_when_38 (K : Kt) : tl K (lX11_when) 38 = o_pushI ((-1)) 39 := rfl
theorem aX11_when_39 (K : Kt) : tl K (lX11_when) 39 = o_iret K := rfl
theorem aX11_when_40 (K : Kt) : tl K (lX11_when) 40 = o_iload 2 41 := rfl
theorem aX11_when_41 (K : Kt) : tl K (lX11_when) 41 = o_istore 4 43 := rfl
theorem aX11_when_43 (K : Kt) : tl K (lX11_when) 43 = o_iload 4 45 := rfl
theorem aX11_when_45 (K : Kt) : tl K (lX11_when) 45 = o_aload 0 46 := rfl
theorem aX11_when_46 (K : Kt) : tl K (lX11_when) 46 = o_get 11 7 49 := rfl
theorem aX11_when_49 (K : Kt) : tl K (lX11_when) 49 = o_pushI (nI 1) 50 := rfl
theorem aX11_when_50 (K : Kt) : tl K (lX11_when) 50 = o_iald 51 := rfl
theorem aX11_when_51 (K : Kt) : tl K (lX11_when) 51 = o_icmp_ge 74 54 := rfl
theorem aX11_when_54 (K : Kt) : tl K (lX11_when) 54 = o_aload 0 55 := rfl
theorem aX11_when_55 (K : Kt) : tl K (lX11_when) 55 = o_iload 1 56 := rfl
theorem aX11_when_56 (K : Kt) : tl K (lX11_when) 56 = o_iload 4 58 := rfl
theorem aX11_when_58 (K : Kt) : tl K (lX11_when) 58 = o_callV fX11_mostOf 2 11 61 := rfl
theorem aX11_when_61 (K : Kt) : tl K (lX11_when) 61 = o_iload 3 62 := rfl
theorem aX11_when_62 (K : Kt) : tl K (lX11_when) 62 = o_icmp_lt 68 65 := rfl
theorem aX11_when_65 (K : Kt) : tl K (lX11_when) 65 = o_iload 4 67 := rfl
theorem aX11_when_67 (K : Kt) : tl K (lX11_when) 67 = o_iret K := rfl
theorem aX11_when_68 (K : Kt) : tl K (lX11_when) 68 = o_iinc 4 (nI 1) 71 := rfl
theorem aX11_when_71 (K : Kt) : tl K (lX11_when) 71 = o_goto 43 := rfl
theorem aX11_when_74 (K : Kt) : tl K (lX11_when) 74 = o_pushI ((-2)) 76 := rfl
theorem aX11_when_76 (K : Kt) : tl K (lX11_when) 76 = o_iret K := rfl
theorem eX11_fullOf {As L : List Value} {w : Wd} {K : Kt} (hw : wds As ≤ 3) (hL : ent 3 As = L) (h : RR (tl K lX11_fullOf) 0 L [] w) : fX11_fullOf As w K := ⟨hw, by rw [hL]; exact h⟩
theorem nX11_fullOf : MonoF fX11_fullOf := mono_f 3 lX11_fullOf
theorem aX11_fullOf_0 (K : Kt) : tl K (lX11_fullOf) 0 = o_aload 0 1 := rfl
theorem aX11_fullOf_1 (K : Kt) : tl K (lX11_fullOf) 1 = o_get 11 7 4 := rfl
theorem aX11_fullOf_4 (K : Kt) : tl K (lX11_fullOf) 4 = o_pushI (nI 22) 6 := rfl
theorem aX11_fullOf_6 (K : Kt) : tl K (lX11_fullOf) 6 = o_iload 1 7 := rfl
theorem aX11_fullOf_7 (K : Kt) : tl K (lX11_fullOf) 7 = o_iadd 8 := rfl
theorem aX11_fullOf_8 (K : Kt) : tl K (lX11_fullOf) 8 = o_iald 9 := rfl
theorem aX11_fullOf_9 (K : Kt) : tl K (lX11_fullOf) 9 = o_aload 0 10 := rfl
theorem aX11_fullOf_10 (K : Kt) : tl K (lX11_fullOf) 10 = o_get 11 7 13 := rfl
theorem aX11_fullOf_13 (K : Kt) : tl K (lX11_fullOf) 13 = o_pushI (nI 86) 15 := rfl
theorem aX11_fullOf_15 (K : Kt) : tl K (lX11_fullOf) 15 = o_iload 2 16 := rfl
theorem aX11_fullOf_16 (K : Kt) : tl K (lX11_fullOf) 16 = o_iadd 17 := rfl
theorem aX11_fullOf_17 (K : Kt) : tl K (lX11_fullOf) 17 = o_iald 18 := rfl
theorem aX11_fullOf_18 (K : Kt) : tl K (lX11_fullOf) 18 = o_callS fX11_lesser 2 21 := rfl
theorem aX11_fullOf_21 (K : Kt) : tl K (lX11_fullOf) 21 = o_iret K := rfl
theorem eX11_clash {As L : List Value} {w : Wd} {K : Kt} (hw : wds As ≤ 7) (hL : ent 7 As = L) (h : RR (tl K lX11_clash) 0 L [] w) : fX11_clash As w K := ⟨hw, by rw [hL]; exact h⟩
theorem nX11_clash : MonoF fX11_clash := mono_f 7 lX11_clash
theorem aX11_clash_0 (K : Kt) : tl K (lX11_clash) 0 = o_aload 0 1 := rfl
theorem aX11_clash_1 (K : Kt) : tl K (lX11_clash) 1 = o_aload 0 2 := rfl
theorem aX11_clash_2 (K : Kt) : tl K (lX11_clash) 2 = o_iload 1 3 := rfl
theorem aX11_clash_3 (K : Kt) : tl K (lX11_clash) 3 = o_callV fX11_isArm 1 11 6 := rfl
theorem aX11_clash_6 (K : Kt) : tl K (lX11_clash) 6 = o_if_eq 21 9 := rfl
theorem aX11_clash_9 (K : Kt) : tl K (lX11_clash) 9 = o_aload 0 10 := rfl
theorem aX11_clash_10 (K : Kt) : tl K (lX11_clash) 10 = o_iload 2 11 := rfl
theorem aX11_clash_11 (K : Kt) : tl K (lX11_clash) 11 = o_callV fX11_isGame 1 11 14 := rfl
theorem aX11_clash_14 (K : Kt) : tl K (lX11_clash) 14 = o_if_eq 21 17 := rfl
theorem aX11_clash_17 (K : Kt) : tl K (lX11_clash) 17 = o_pushI (nI 1) 18 := rfl
theorem aX11_clash_18 (K : Kt) : tl K (lX11_clash) 18 = o_goto 22 := rfl
theorem aX11_clash_21 (K : Kt) : tl K (lX11_clash) 21 = o_pushI (nI 0) 22 := rfl
theorem aX11_clash_22 (K : Kt) : tl K (lX11_clash) 22 = o_iload 3 23 := rfl
theorem aX11_clash_23 (K : Kt) : tl K (lX11_clash) 23 = o_pushI (nI 1) 24 := rfl
theorem aX11_clash_24 (K : Kt) : tl K (lX11_clash) 24 = o_pushI (nI 120) 26 := rfl
theorem aX11_clash_26 (K : Kt) : tl K (lX11_clash) 26 = o_callS fX11_in 3 29 := rfl
theorem aX11_clash_29 (K : Kt) : tl K (lX11_clash) 29 = o_callS fX11_unless_ 2 32 := rfl
theorem aX11_clash_32 (K : Kt) : tl K (lX11_clash) 32 = o_callV fX11_isRefused 1 11 35 := rfl
theorem aX11_clash_35 (K : Kt) : tl K (lX11_clash) 35 = o_if_eq 40 38 := rfl
theorem aX11_clash_38 (K : Kt) : tl K (lX11_clash) 38 = o_pushI ((-1)) 39 := rfl
theorem aX11_clash_39 (K : Kt) : tl K (lX11_clash) 39 = o_iret K := rfl
theorem aX11_clash_40 (K : Kt) : tl K (lX11_clash) 40 = o_aload 0 41 := rfl
theorem aX11_clash_41 (K : Kt) : tl K (lX11_clash) 41 = o_iload 1 42 := rfl
theorem aX11_clash_42 (K : Kt) : tl K (lX11_clash) 42 = o_iload 2 43 := rfl
theorem aX11_clash_43 (K : Kt) : tl K (lX11_clash) 43 = o_pushI (nI 1) 44 := rfl
theorem aX11_clash_44 (K : Kt) : tl K (lX11_clash) 44 = o_callV fX11_laysDays 3 11 47 := rfl
theorem aX11_clash_47 (K : Kt) : tl K (lX11_clash) 47 = o_aload 0 48 := rfl
theorem aX11_clash_48 (K : Kt) : tl K (lX11_clash) 48 = o_get 11 7 51 := rfl
theorem aX11_clash_51 (K : Kt) : tl K (lX11_clash) 51 = o_pushI (nI 46) 53 := rfl
theorem aX11_clash_53 (K : Kt) : tl K (lX11_clash) 53 = o_iload 2 54 := rfl
theorem aX11_clash_54 (K : Kt) : tl K (lX11_clash) 54 = o_iadd 55 := rfl
theorem aX11_clash_55 (K : Kt) : tl K (lX11_clash) 55 = o_iald 56 := rfl
theorem aX11_clash_56 (K : Kt) : tl K (lX11_clash) 56 = o_istore 4 58 := rfl
theorem aX11_clash_58 (K : Kt) : tl K (lX11_clash) 58 = o_iload 3 59 := rfl
theorem aX11_clash_59 (K : Kt) : tl K (lX11_clash) 59 = o_aload 0 60 := rfl
theorem aX11_clash_60 (K : Kt) : tl K (lX11_clash) 60 = o_get 11 7 63 := rfl
theorem aX11_clash_63 (K : Kt) : tl K (lX11_clash) 63 = o_pushI (nI 22) 65 := rfl
theorem aX11_clash_65 (K : Kt) : tl K (lX11_clash) 65 = o_iload 1 66 := rfl
theorem aX11_clash_66 (K : Kt) : tl K (lX11_clash) 66 = o_iadd 67 := rfl
theorem aX11_clash_67 (K : Kt) : tl K (lX11_clash) 67 = o_iald 68 := rfl
theorem aX11_clash_68 (K : Kt) : tl K (lX11_clash) 68 = o_icmp_le 75 71 := rfl
theorem aX11_clash_71 (K : Kt) : tl K (lX11_clash) 71 = o_pushI (nI 1) 72 := rfl
theorem aX11_clash_72 (K : Kt) : tl K (lX11_clash) 72 = o_goto 76 := rfl
theorem aX11_clash_75 (K : Kt) : tl K (lX11_clash) 75 = o_pushI (nI 0) 76 := rfl
theorem aX11_clash_76 (K : Kt) : tl K (lX11_clash) 76 = o_istore 5 78 := rfl
theorem aX11_clash_78 (K : Kt) : tl K (lX11_clash) 78 = o_pushI (nI 0) 79 := rfl
theorem aX11_clash_79 (K : Kt) : tl K (lX11_clash) 79 = o_istore 6 81 := rfl
theorem aX11_clash_81 (K : Kt) : tl K (lX11_clash) 81 = o_iload 6 83 := rfl
theorem aX11_clash_83 (K : Kt) : tl K (lX11_clash) 83 = o_pushI (nI 60) 85 := rfl
theorem aX11_clash_85 (K : Kt) : tl K (lX11_clash) 85 = o_icmp_ge 180 88 := rfl
theorem aX11_clash_88 (K : Kt) : tl K (lX11_clash) 88 = o_iload 5 90 := rfl
theorem aX11_clash_90 (K : Kt) : tl K (lX11_clash) 90 = o_iload 6 92 := rfl
theorem aX11_clash_92 (K : Kt) : tl K (lX11_clash) 92 = o_iload 4 94 := rfl
theorem aX11_clash_94 (K : Kt) : tl K (lX11_clash) 94 = o_icmp_ge 130 97 := rfl
theorem aX11_clash_97 (K : Kt) : tl K (lX11_clash) 97 = o_aload 0 98 := rfl
theorem aX11_clash_98 (K : Kt) : tl K (lX11_clash) 98 = o_get 11 19 101 := rfl
theorem aX11_clash_101 (K : Kt) : tl K (lX11_clash) 101 = o_iload 6 103 := rfl
theorem aX11_clash_103 (K : Kt) : tl K (lX11_clash) 103 = o_iald 104 := rfl
theorem aX11_clash_104 (K : Kt) : tl K (lX11_clash) 104 = o_if_le 130 107 := rfl
theorem aX11_clash_107 (K : Kt) : tl K (lX11_clash) 107 = o_iload 4 109 := rfl
theorem aX11_clash_109 (K : Kt) : tl K (lX11_clash) 109 = o_iload 6 111 := rfl
set_option maxRecDepth 8000 in
theorem aX11_clash_111 (K : Kt) : tl K (lX11_clash) 111 = o_isub 112 := rfl
set_option maxRecDepth 8000 in
theorem aX11_clash_112 (K : Kt) : tl K (lX11_clash) 112 = o_aload 0 113 := rfl
set_option maxRecDepth 8000 in
theorem aX11_clash_113 (K : Kt) : tl K (lX11_clash) 113 = o_aload 0 114 := rfl
set_option maxRecDepth 8000 in
theorem aX11_clash_114 (K : Kt) : tl K (lX11_clash) 114 = o_get 11 19 117 := rfl
set_option maxRecDepth 8000 in
theorem aX11_clash_117 (K : Kt) : tl K (lX11_clash) 117 = o_iload 6 119 := rfl
set_option maxRecDepth 8000 in
theorem aX11_clash_119 (K : Kt) : tl K (lX11_clash) 119 = o_iald 120 := rfl
set_option maxRecDepth 8000 in
theorem aX11_clash_120 (K : Kt) : tl K (lX11_clash) 120 = o_callV fX11_restOf 1 11 123 := rfl
set_option maxRecDepth 8000 in
theorem aX11_clash_123 (K : Kt) : tl K (lX11_clash) 123 = o_icmp_gt 130 126 := rfl
set_option maxRecDepth 8000 in
theorem aX11_clash_126 (K : Kt) : tl K (lX11_clash) 126 = o_pushI (nI 2) 127 := rfl
set_option maxRecDepth 8000 in
theorem aX11_clash_127 (K : Kt) : tl K (lX11_clash) 127 = o_goto 131 := rfl
set_option maxRecDepth 8000 in
theorem aX11_clash_130 (K : Kt) : tl K (lX11_clash) 130 = o_pushI (nI 0) 131 := rfl
set_option maxRecDepth 8000 in
theorem aX11_clash_131 (K : Kt) : tl K (lX11_clash) 131 = o_ior 132 := rfl
set_option maxRecDepth 8000 in
theorem aX11_clash_132 (K : Kt) : tl K (lX11_clash) 132 = o_istore 5 134 := rfl
set_option maxRecDepth 8000 in
theorem aX11_clash_134 (K : Kt) : tl K (lX11_clash) 134 = o_iload 5 136 := rfl
set_option maxRecDepth 8000 in
theorem aX11_clash_136 (K : Kt) : tl K (lX11_clash) 136 = o_iload 6 138 := rfl
set_option maxRecDepth 8000 in
theorem aX11_clash_138 (K : Kt) : tl K (lX11_clash) 138 = o_iload 4 140 := rfl
set_option maxRecDepth 8000 in
theorem aX11_clash_140 (K : Kt) : tl K (lX11_clash) 140 = o_icmp_le 170 143 := rfl
set_option maxRecDepth 8000 in
theorem aX11_clash_143 (K : Kt) : tl K (lX11_clash) 143 = o_aload 0 144 := rfl
set_option maxRecDepth 8000 in
theorem aX11_clash_144 (K : Kt) : tl K (lX11_clash) 144 = o_get 11 19 147 := rfl
set_option maxRecDepth 8000 in
theorem aX11_clash_147 (K : Kt) : tl K (lX11_clash) 147 = o_iload 6 149 := rfl
set_option maxRecDepth 8000 in
theorem aX11_clash_149 (K : Kt) : tl K (lX11_clash) 149 = o_iald 150 := rfl
set_option maxRecDepth 8000 in
theorem aX11_clash_150 (K : Kt) : tl K (lX11_clash) 150 = o_if_le 170 153 := rfl
set_option maxRecDepth 8000 in
theorem aX11_clash_153 (K : Kt) : tl K (lX11_clash) 153 = o_iload 6 155 := rfl
set_option maxRecDepth 8000 in
theorem aX11_clash_155 (K : Kt) : tl K (lX11_clash) 155 = o_iload 4 157 := rfl
set_option maxRecDepth 8000 in
theorem aX11_clash_157 (K : Kt) : tl K (lX11_clash) 157 = o_isub 158 := rfl
set_option maxRecDepth 8000 in
theorem aX11_clash_158 (K : Kt) : tl K (lX11_clash) 158 = o_aload 0 159 := rfl
set_option maxRecDepth 8000 in
theorem aX11_clash_159 (K : Kt) : tl K (lX11_clash) 159 = o_iload 3 160 := rfl
set_option maxRecDepth 8000 in
theorem aX11_clash_160 (K : Kt) : tl K (lX11_clash) 160 = o_callV fX11_restOf 1 11 163 := rfl
set_option maxRecDepth 8000 in
theorem aX11_clash_163 (K : Kt) : tl K (lX11_clash) 163 = o_icmp_gt 170 166 := rfl
set_option maxRecDepth 8000 in
theorem aX11_clash_166 (K : Kt) : tl K (lX11_clash) 166 = o_pushI (nI 4) 167 := rfl
set_option maxRecDepth 8000 in
theorem aX11_clash_167 (K : Kt) : tl K (lX11_clash) 167 = o_goto 171 := rfl
set_option maxRecDepth 8000 in
theorem aX11_clash_170 (K : Kt) : tl K (lX11_clash) 170 = o_pushI (nI 0) 171 := rfl
set_option maxRecDepth 8000 in
theorem aX11_clash_171 (K : Kt) : tl K (lX11_clash) 171 = o_ior 172 := rfl
set_option maxRecDepth 8000 in
theorem aX11_clash_172 (K : Kt) : tl K (lX11_clash) 172 = o_istore 5 174 := rfl
set_option maxRecDepth 8000 in
theorem aX11_clash_174 (K : Kt) : tl K (lX11_clash) 174 = o_iinc 6 (nI 1) 177 := rfl
set_option maxRecDepth 8000 in
theorem aX11_clash_177 (K : Kt) : tl K (lX11_clash) 177 = o_goto 81 := rfl
set_option maxRecDepth 8000 in
theorem aX11_clash_180 (K : Kt) : tl K (lX11_clash) 180 = o_aload 0 181 := rfl
set_option maxRecDepth 8000 in
theorem aX11_clash_181 (K : Kt) : tl K (lX11_clash) 181 = o_get 11 19 184 := rfl
set_option maxRecDepth 8000 in
theorem aX11_clash_184 (K : Kt) : tl K (lX11_clash) 184 = o_iload 4 186 := rfl
set_option maxRecDepth 8000 in
theorem aX11_clash_186 (K : Kt) : tl K (lX11_clash) 186 = o_iload 3 187 := rfl
set_option maxRecDepth 8000 in
theorem aX11_clash_187 (K : Kt) : tl K (lX11_clash) 187 = o_iast 188 := rfl
set_option maxRecDepth 8000 in
theorem aX11_clash_188 (K : Kt) : tl K (lX11_clash) 188 = o_iload 4 190 := rfl
set_option maxRecDepth 8000 in
theorem aX11_clash_190 (K : Kt) : tl K (lX11_clash) 190 = o_istore 6 192 := rfl
set_option maxRecDepth 8000 in
theorem aX11_clash_192 (K : Kt) : tl K (lX11_clash) 192 = o_iload 6 194 := rfl
set_option maxRecDepth 8000 in
theorem aX11_clash_194 (K : Kt) : tl K (lX11_clash) 194 = o_iload 4 196 := rfl
set_option maxRecDepth 8000 in
theorem aX11_clash_196 (K : Kt) : tl K (lX11_clash) 196 = o_pushI (nI 7) 198 := rfl
set_option maxRecDepth 8000 in
theorem aX11_clash_198 (K : Kt) : tl K (lX11_clash) 198 = o_iadd 199 := rfl
set_option maxRecDepth 8000 in
theorem aX11_clash_199 (K : Kt) : tl K (lX11_clash) 199 = o_icmp_ge 243 202 := rfl
set_option maxRecDepth 8000 in
theorem aX11_clash_202 (K : Kt) : tl K (lX11_clash) 202 = o_aload 0 203 := rfl
set_option maxRecDepth 8000 in
theorem aX11_clash_203 (K : Kt) : tl K (lX11_clash) 203 = o_get 11 7 206 := rfl
set_option maxRecDepth 8000 in
theorem aX11_clash_206 (K : Kt) : tl K (lX11_clash) 206 = o_pushI (nI 3) 207 := rfl
set_option maxRecDepth 8000 in
theorem aX11_clash_207 (K : Kt) : tl K (lX11_clash) 207 = o_iald 208 := rfl
set_option maxRecDepth 8000 in
theorem aX11_clash_208 (K : Kt) : tl K (lX11_clash) 208 = o_if_le 243 211 := rfl
set_option maxRecDepth 8000 in
theorem aX11_clash_211 (K : Kt) : tl K (lX11_clash) 211 = o_iload 5 213 := rfl
set_option maxRecDepth 8000 in
theorem aX11_clash_213 (K : Kt) : tl K (lX11_clash) 213 = o_aload 0 214 := rfl
set_option maxRecDepth 8000 in
theorem aX11_clash_214 (K : Kt) : tl K (lX11_clash) 214 = o_iload 6 216 := rfl
set_option maxRecDepth 8000 in
theorem aX11_clash_216 (K : Kt) : tl K (lX11_clash) 216 = o_callV fX11_lately 1 11 219 := rfl
set_option maxRecDepth 8000 in
theorem aX11_clash_219 (K : Kt) : tl K (lX11_clash) 219 = o_aload 0 220 := rfl
set_option maxRecDepth 8000 in
theorem aX11_clash_220 (K : Kt) : tl K (lX11_clash) 220 = o_get 11 7 223 := rfl
set_option maxRecDepth 8000 in
theorem aX11_clash_223 (K : Kt) : tl K (lX11_clash) 223 = o_pushI (nI 3) 224 := rfl
set_option maxRecDepth 8000 in
theorem aX11_clash_224 (K : Kt) : tl K (lX11_clash) 224 = o_iald 225 := rfl
set_option maxRecDepth 8000 in
theorem aX11_clash_225 (K : Kt) : tl K (lX11_clash) 225 = o_icmp_le 233 228 := rfl
set_option maxRecDepth 8000 in
theorem aX11_clash_228 (K : Kt) : tl K (lX11_clash) 228 = o_pushI (nI 8) 230 := rfl
set_option maxRecDepth 8000 in
theorem aX11_clash_230 (K : Kt) : tl K (lX11_clash) 230 = o_goto 234 := rfl
set_option maxRecDepth 8000 in
theorem aX11_clash_233 (K : Kt) : tl K (lX11_clash) 233 = o_pushI (nI 0) 234 := rfl
set_option maxRecDepth 8000 in
theorem aX11_clash_234 (K : Kt) : tl K (lX11_clash) 234 = o_ior 235 := rfl
set_option maxRecDepth 8000 in
theorem aX11_clash_235 (K : Kt) : tl K (lX11_clash) 235 = o_istore 5 237 := rfl
set_option maxRecDepth 8000 in
theorem aX11_clash_237 (K : Kt) : tl K (lX11_clash) 237 = o_iinc 6 (nI 1) 240 := rfl
set_option maxRecDepth 8000 in
theorem aX11_clash_240 (K : Kt) : tl K (lX11_clash) 240 = o_goto 192 := rfl
set_option maxRecDepth 8000 in
theorem aX11_clash_243 (K : Kt) : tl K (lX11_clash) 243 = o_iload 5 245 := rfl
set_option maxRecDepth 8000 in
theorem aX11_clash_245 (K : Kt) : tl K (lX11_clash) 245 = o_iret K := rfl
theorem eX11_ranked {As L : List Value} {w : Wd} {K : Kt} (hw : wds As ≤ 8) (hL : ent 8 As = L) (h : RR (tl K lX11_ranked) 0 L [] w) : fX11_ranked As w K := ⟨hw, by rw [hL]; exact h⟩
theorem nX11_ranked : MonoF fX11_ranked := mono_f 8 lX11_ranked
theorem aX11_ranked_0 (K : Kt) : tl K (lX11_ranked) 0 = o_aload 0 1 := rfl
theorem aX11_ranked_1 (K : Kt) : tl K (lX11_ranked) 1 = o_aload 0 2 := rfl
theorem aX11_ranked_2 (K : Kt) : tl K (lX11_ranked) 2 = o_iload 1 3 := rfl
theorem aX11_ranked_3 (K : Kt) : tl K (lX11_ranked) 3 = o_callV fX11_isGame 1 11 6 := rfl
theorem aX11_ranked_6 (K : Kt) : tl K (lX11_ranked) 6 = o_if_eq 29 9 := rfl
theorem aX11_ranked_9 (K : Kt) : tl K (lX11_ranked) 9 = o_iload 2 10 := rfl
theorem aX11_ranked_10 (K : Kt) : tl K (lX11_ranked) 10 = o_pushI (nI 0) 11 := rfl
theorem aX11_ranked_11 (K : Kt) : tl K (lX11_ranked) 11 = o_aload 0 12 := rfl
theorem aX11_ranked_12 (K : Kt) : tl K (lX11_ranked) 12 = o_get 11 7 15 := rfl
theorem aX11_ranked_15 (K : Kt) : tl K (lX11_ranked) 15 = o_pushI (nI 0) 16 := rfl
theorem aX11_ranked_16 (K : Kt) : tl K (lX11_ranked) 16 = o_iald 17 := rfl
theorem aX11_ranked_17 (K : Kt) : tl K (lX11_ranked) 17 = o_pushI (nI 1) 18 := rfl
theorem aX11_ranked_18 (K : Kt) : tl K (lX11_ranked) 18 = o_isub 19 := rfl
theorem aX11_ranked_19 (K : Kt) : tl K (lX11_ranked) 19 = o_callS fX11_in 3 22 := rfl
theorem aX11_ranked_22 (K : Kt) : tl K (lX11_ranked) 22 = o_if_eq 29 25 := rfl
theorem aX11_ranked_25 (K : Kt) : tl K (lX11_ranked) 25 = o_pushI (nI 1) 26 := rfl
theorem aX11_ranked_26 (K : Kt) : tl K (lX11_ranked) 26 = o_goto 30 := rfl
theorem aX11_ranked_29 (K : Kt) : tl K (lX11_ranked) 29 = o_pushI (nI 0) 30 := rfl
theorem aX11_ranked_30 (K : Kt) : tl K (lX11_ranked) 30 = o_callS fX11_unless 1 33 := rfl
theorem aX11_ranked_33 (K : Kt) : tl K (lX11_ranked) 33 = o_callV fX11_isRefused 1 11 36 := rfl
theorem aX11_ranked_36 (K : Kt) : tl K (lX11_ranked) 36 = o_if_eq 41 39 := rfl
theorem aX11_ranked_39 (K : Kt) : tl K (lX11_ranked) 39 = o_pushI ((-1)) 40 := rfl
theorem aX11_ranked_40 (K : Kt) : tl K (lX11_ranked) 40 = o_iret K := rfl
theorem aX11_ranked_41 (K : Kt) : tl K (lX11_ranked) 41 = o_pushI (nI 0) 42 := rfl
theorem aX11_ranked_42 (K : Kt) : tl K (lX11_ranked) 42 = o_istore 3 43 := rfl
theorem aX11_ranked_43 (K : Kt) : tl K (lX11_ranked) 43 = o_iload 3 44 := rfl
theorem aX11_ranked_44 (K : Kt) : tl K (lX11_ranked) 44 = o_aload 0 45 := rfl
theorem aX11_ranked_45 (K : Kt) : tl K (lX11_ranked) 45 = o_get 11 7 48 := rfl
theorem aX11_ranked_48 (K : Kt) : tl K (lX11_ranked) 48 = o_pushI (nI 0) 49 := rfl
theorem aX11_ranked_49 (K : Kt) : tl K (lX11_ranked) 49 = o_iald 50 := rfl
theorem aX11_ranked_50 (K : Kt) : tl K (lX11_ranked) 50 = o_icmp_ge 150 53 := rfl
theorem aX11_ranked_53 (K : Kt) : tl K (lX11_ranked) 53 = o_pushI (nI 0) 54 := rfl
theorem aX11_ranked_54 (K : Kt) : tl K (lX11_ranked) 54 = o_istore 4 56 := rfl
theorem aX11_ranked_56 (K : Kt) : tl K (lX11_ranked) 56 = o_aload 0 57 := rfl
theorem aX11_ranked_57 (K : Kt) : tl K (lX11_ranked) 57 = o_iload 3 58 := rfl
theorem aX11_ranked_58 (K : Kt) : tl K (lX11_ranked) 58 = o_iload 1 59 := rfl
theorem aX11_ranked_59 (K : Kt) : tl K (lX11_ranked) 59 = o_aload 0 60 := rfl
theorem aX11_ranked_60 (K : Kt) : tl K (lX11_ranked) 60 = o_iload 3 61 := rfl
theorem aX11_ranked_61 (K : Kt) : tl K (lX11_ranked) 61 = o_iload 1 62 := rfl
theorem aX11_ranked_62 (K : Kt) : tl K (lX11_ranked) 62 = o_callV fX11_fullOf 2 11 65 := rfl
theorem aX11_ranked_65 (K : Kt) : tl K (lX11_ranked) 65 = o_callV fX11_worthOf 3 11 68 := rfl
theorem aX11_ranked_68 (K : Kt) : tl K (lX11_ranked) 68 = o_istore 5 70 := rfl
theorem aX11_ranked_70 (K : Kt) : tl K (lX11_ranked) 70 = o_pushI (nI 0) 71 := rfl
theorem aX11_ranked_71 (K : Kt) : tl K (lX11_ranked) 71 = o_istore 6 73 := rfl
theorem aX11_ranked_73 (K : Kt) : tl K (lX11_ranked) 73 = o_iload 6 75 := rfl
theorem aX11_ranked_75 (K : Kt) : tl K (lX11_ranked) 75 = o_aload 0 76 := rfl
theorem aX11_ranked_76 (K : Kt) : tl K (lX11_ranked) 76 = o_get 11 7 79 := rfl
theorem aX11_ranked_79 (K : Kt) : tl K (lX11_ranked) 79 = o_pushI (nI 0) 80 := rfl
theorem aX11_ranked_80 (K : Kt) : tl K (lX11_ranked) 80 = o_iald 81 := rfl
theorem aX11_ranked_81 (K : Kt) : tl K (lX11_ranked) 81 = o_icmp_ge 136 84 := rfl
theorem aX11_ranked_84 (K : Kt) : tl K (lX11_ranked) 84 = o_aload 0 85 := rfl
theorem aX11_ranked_85 (K : Kt) : tl K (lX11_ranked) 85 = o_iload 6 87 := rfl
theorem aX11_ranked_87 (K : Kt) : tl K (lX11_ranked) 87 = o_iload 1 88 := rfl
theorem aX11_ranked_88 (K : Kt) : tl K (lX11_ranked) 88 = o_aload 0 89 := rfl
theorem aX11_ranked_89 (K : Kt) : tl K (lX11_ranked) 89 = o_iload 6 91 := rfl
theorem aX11_ranked_91 (K : Kt) : tl K (lX11_ranked) 91 = o_iload 1 92 := rfl
theorem aX11_ranked_92 (K : Kt) : tl K (lX11_ranked) 92 = o_callV fX11_fullOf 2 11 95 := rfl
theorem aX11_ranked_95 (K : Kt) : tl K (lX11_ranked) 95 = o_callV fX11_worthOf 3 11 98 := rfl
theorem aX11_ranked_98 (K : Kt) : tl K (lX11_ranked) 98 = o_istore 7 100 := rfl
theorem aX11_ranked_100 (K : Kt) : tl K (lX11_ranked) 100 = o_iload 4 102 := rfl
theorem aX11_ranked_102 (K : Kt) : tl K (lX11_ranked) 102 = o_iload 7 104 := rfl
set_option maxRecDepth 8000 in
theorem aX11_ranked_104 (K : Kt) : tl K (lX11_ranked) 104 = o_iload 5 106 := rfl
set_option maxRecDepth 8000 in
theorem aX11_ranked_106 (K : Kt) : tl K (lX11_ranked) 106 = o_icmp_gt 122 109 := rfl
set_option maxRecDepth 8000 in
theorem aX11_ranked_109 (K : Kt) : tl K (lX11_ranked) 109 = o_iload 7 111 := rfl
set_option maxRecDepth 8000 in
theorem aX11_ranked_111 (K : Kt) : tl K (lX11_ranked) 111 = o_iload 5 113 := rfl
set_option maxRecDepth 8000 in
theorem aX11_ranked_113 (K : Kt) : tl K (lX11_ranked) 113 = o_icmp_ne 126 116 := rfl
set_option maxRecDepth 8000 in
theorem aX11_ranked_116 (K : Kt) : tl K (lX11_ranked) 116 = o_iload 6 118 := rfl
set_option maxRecDepth 8000 in
theorem aX11_ranked_118 (K : Kt) : tl K (lX11_ranked) 118 = o_iload 3 119 := rfl
set_option maxRecDepth 8000 in
theorem aX11_ranked_119 (K : Kt) : tl K (lX11_ranked) 119 = o_icmp_ge 126 122 := rfl
set_option maxRecDepth 8000 in
theorem aX11_ranked_122 (K : Kt) : tl K (lX11_ranked) 122 = o_pushI (nI 1) 123 := rfl
set_option maxRecDepth 8000 in
theorem aX11_ranked_123 (K : Kt) : tl K (lX11_ranked) 123 = o_goto 127 := rfl
set_option maxRecDepth 8000 in
theorem aX11_ranked_126 (K : Kt) : tl K (lX11_ranked) 126 = o_pushI (nI 0) 127 := rfl
set_option maxRecDepth 8000 in
theorem aX11_ranked_127 (K : Kt) : tl K (lX11_ranked) 127 = o_iadd 128 := rfl
set_option maxRecDepth 8000 in
theorem aX11_ranked_128 (K : Kt) : tl K (lX11_ranked) 128 = o_istore 4 130 := rfl
set_option maxRecDepth 8000 in
theorem aX11_ranked_130 (K : Kt) : tl K (lX11_ranked) 130 = o_iinc 6 (nI 1) 133 := rfl
set_option maxRecDepth 8000 in
theorem aX11_ranked_133 (K : Kt) : tl K (lX11_ranked) 133 = o_goto 73 := rfl
set_option maxRecDepth 8000 in
theorem aX11_ranked_136 (K : Kt) : tl K (lX11_ranked) 136 = o_iload 4 138 := rfl
set_option maxRecDepth 8000 in
theorem aX11_ranked_138 (K : Kt) : tl K (lX11_ranked) 138 = o_iload 2 139 := rfl
set_option maxRecDepth 8000 in
theorem aX11_ranked_139 (K : Kt) : tl K (lX11_ranked) 139 = o_icmp_ne 144 142 := rfl
set_option maxRecDepth 8000 in
theorem aX11_ranked_142 (K : Kt) : tl K (lX11_ranked) 142 = o_iload 3 143 := rfl
set_option maxRecDepth 8000 in
theorem aX11_ranked_143 (K : Kt) : tl K (lX11_ranked) 143 = o_iret K := rfl
set_option maxRecDepth 8000 in
theorem aX11_ranked_144 (K : Kt) : tl K (lX11_ranked) 144 = o_iinc 3 (nI 1) 147 := rfl
set_option maxRecDepth 8000 in
theorem aX11_ranked_147 (K : Kt) : tl K (lX11_ranked) 147 = o_goto 43 := rfl
set_option maxRecDepth 8000 in
theorem aX11_ranked_150 (K : Kt) : tl K (lX11_ranked) 150 = o_pushI ((-1)) 151 := rfl
set_option maxRecDepth 8000 in
theorem aX11_ranked_151 (K : Kt) : tl K (lX11_ranked) 151 = o_iret K := rfl
theorem eX11_extra {As L : List Value} {w : Wd} {K : Kt} (hw : wds As ≤ 4) (hL : ent 4 As = L) (h : RR (tl K lX11_extra) 0 L [] w) : fX11_extra As w K := ⟨hw, by rw [hL]; exact h⟩
theorem nX11_extra : MonoF fX11_extra := mono_f 4 lX11_extra
theorem aX11_extra_0 (K : Kt) : tl K (lX11_extra) 0 = o_aload 0 1 := rfl
theorem aX11_extra_1 (K : Kt) : tl K (lX11_extra) 1 = o_aload 0 2 := rfl
theorem aX11_extra_2 (K : Kt) : tl K (lX11_extra) 2 = o_iload 1 3 := rfl
theorem aX11_extra_3 (K : Kt) : tl K (lX11_extra) 3 = o_callV fX11_isGame 1 11 6 := rfl
theorem aX11_extra_6 (K : Kt) : tl K (lX11_extra) 6 = o_callS fX11_unless 1 9 := rfl
theorem aX11_extra_9 (K : Kt) : tl K (lX11_extra) 9 = o_callV fX11_isRefused 1 11 12 := rfl
theorem aX11_extra_12 (K : Kt) : tl K (lX11_extra) 12 = o_if_eq 17 15 := rfl
theorem aX11_extra_15 (K : Kt) : tl K (lX11_extra) 15 = o_pushI ((-1)) 16 := rfl
theorem aX11_extra_16 (K : Kt) : tl K (lX11_extra) 16 = o_iret K := rfl
theorem aX11_extra_17 (K : Kt) : tl K (lX11_extra) 17 = o_pushI (nI 0) 18 := rfl
theorem aX11_extra_18 (K : Kt) : tl K (lX11_extra) 18 = o_istore 2 19 := rfl
theorem aX11_extra_19 (K : Kt) : tl K (lX11_extra) 19 = o_pushI (nI 0) 20 := rfl
theorem aX11_extra_20 (K : Kt) : tl K (lX11_extra) 20 = o_istore 3 21 := rfl
theorem aX11_extra_21 (K : Kt) : tl K (lX11_extra) 21 = o_iload 3 22 := rfl
theorem aX11_extra_22 (K : Kt) : tl K (lX11_extra) 22 = o_aload 0 23 := rfl
theorem aX11_extra_23 (K : Kt) : tl K (lX11_extra) 23 = o_get 11 7 26 := rfl
theorem aX11_extra_26 (K : Kt) : tl K (lX11_extra) 26 = o_pushI (nI 0) 27 := rfl
theorem aX11_extra_27 (K : Kt) : tl K (lX11_extra) 27 = o_iald 28 := rfl
theorem aX11_extra_28 (K : Kt) : tl K (lX11_extra) 28 = o_icmp_ge 81 31 := rfl
theorem aX11_extra_31 (K : Kt) : tl K (lX11_extra) 31 = o_aload 0 32 := rfl
theorem aX11_extra_32 (K : Kt) : tl K (lX11_extra) 32 = o_get 11 7 35 := rfl
theorem aX11_extra_35 (K : Kt) : tl K (lX11_extra) 35 = o_pushI (nI 106) 37 := rfl
theorem aX11_extra_37 (K : Kt) : tl K (lX11_extra) 37 = o_iload 1 38 := rfl
theorem aX11_extra_38 (K : Kt) : tl K (lX11_extra) 38 = o_iadd 39 := rfl
theorem aX11_extra_39 (K : Kt) : tl K (lX11_extra) 39 = o_iald 40 := rfl
theorem aX11_extra_40 (K : Kt) : tl K (lX11_extra) 40 = o_pushI (nI 3) 41 := rfl
theorem aX11_extra_41 (K : Kt) : tl K (lX11_extra) 41 = o_icmp_ge 81 44 := rfl
theorem aX11_extra_44 (K : Kt) : tl K (lX11_extra) 44 = o_iload 2 45 := rfl
theorem aX11_extra_45 (K : Kt) : tl K (lX11_extra) 45 = o_aload 0 46 := rfl
theorem aX11_extra_46 (K : Kt) : tl K (lX11_extra) 46 = o_iload 3 47 := rfl
theorem aX11_extra_47 (K : Kt) : tl K (lX11_extra) 47 = o_iload 1 48 := rfl
theorem aX11_extra_48 (K : Kt) : tl K (lX11_extra) 48 = o_callV fX11_isIn 2 11 51 := rfl
theorem aX11_extra_51 (K : Kt) : tl K (lX11_extra) 51 = o_if_eq 58 54 := rfl
theorem aX11_extra_54 (K : Kt) : tl K (lX11_extra) 54 = o_pushI (nI 0) 55 := rfl
theorem aX11_extra_55 (K : Kt) : tl K (lX11_extra) 55 = o_goto 73 := rfl
theorem aX11_extra_58 (K : Kt) : tl K (lX11_extra) 58 = o_aload 0 59 := rfl
theorem aX11_extra_59 (K : Kt) : tl K (lX11_extra) 59 = o_iload 3 60 := rfl
theorem aX11_extra_60 (K : Kt) : tl K (lX11_extra) 60 = o_iload 1 61 := rfl
theorem aX11_extra_61 (K : Kt) : tl K (lX11_extra) 61 = o_aload 0 62 := rfl
theorem aX11_extra_62 (K : Kt) : tl K (lX11_extra) 62 = o_iload 1 63 := rfl
theorem aX11_extra_63 (K : Kt) : tl K (lX11_extra) 63 = o_callV fX11_leftOf 1 11 66 := rfl
theorem aX11_extra_66 (K : Kt) : tl K (lX11_extra) 66 = o_pushI (nI 200) 69 := rfl
theorem aX11_extra_69 (K : Kt) : tl K (lX11_extra) 69 = o_iadd 70 := rfl
theorem aX11_extra_70 (K : Kt) : tl K (lX11_extra) 70 = o_callV fX11_mostUpTo 3 11 73 := rfl
theorem aX11_extra_73 (K : Kt) : tl K (lX11_extra) 73 = o_iadd 74 := rfl
theorem aX11_extra_74 (K : Kt) : tl K (lX11_extra) 74 = o_istore 2 75 := rfl
theorem aX11_extra_75 (K : Kt) : tl K (lX11_extra) 75 = o_iinc 3 (nI 1) 78 := rfl
theorem aX11_extra_78 (K : Kt) : tl K (lX11_extra) 78 = o_goto 21 := rfl
theorem aX11_extra_81 (K : Kt) : tl K (lX11_extra) 81 = o_iload 2 82 := rfl
theorem aX11_extra_82 (K : Kt) : tl K (lX11_extra) 82 = o_iret K := rfl
theorem eX11_isRowAllowed {As L : List Value} {w : Wd} {K : Kt} (hw : wds As ≤ 6) (hL : ent 6 As = L) (h : RR (tl K lX11_isRowAllowed) 0 L [] w) : fX11_isRowAllowed As w K := ⟨hw, by rw [hL]; exact h⟩
theorem nX11_isRowAllowed : MonoF fX11_isRowAllowed := mono_f 6 lX11_isRowAllowed
theorem aX11_isRowAllowed_0 (K : Kt) : tl K (lX11_isRowAllowed) 0 = o_pushI (nI 0) 1 := rfl
theorem aX11_isRowAllowed_1 (K : Kt) : tl K (lX11_isRowAllowed) 1 = o_istore 3 2 := rfl
theorem aX11_isRowAllowed_2 (K : Kt) : tl K (lX11_isRowAllowed) 2 = o_iload 3 3 := rfl
theorem aX11_isRowAllowed_3 (K : Kt) : tl K (lX11_isRowAllowed) 3 = o_iload 2 4 := rfl
theorem aX11_isRowAllowed_4 (K : Kt) : tl K (lX11_isRowAllowed) 4 = o_icmp_ge 135 7 := rfl
theorem aX11_isRowAllowed_7 (K : Kt) : tl K (lX11_isRowAllowed) 7 = o_aload 0 8 := rfl
theorem aX11_isRowAllowed_8 (K : Kt) : tl K (lX11_isRowAllowed) 8 = o_get 11 20 11 := rfl
theorem aX11_isRowAllowed_11 (K : Kt) : tl K (lX11_isRowAllowed) 11 = o_iload 3 12 := rfl
theorem aX11_isRowAllowed_12 (K : Kt) : tl K (lX11_isRowAllowed) 12 = o_iald 13 := rfl
theorem aX11_isRowAllowed_13 (K : Kt) : tl K (lX11_isRowAllowed) 13 = o_istore 4 15 := rfl
theorem aX11_isRowAllowed_15 (K : Kt) : tl K (lX11_isRowAllowed) 15 = o_iload 4 17 := rfl
theorem aX11_isRowAllowed_17 (K : Kt) : tl K (lX11_isRowAllowed) 17 = o_aload 0 18 := rfl
theorem aX11_isRowAllowed_18 (K : Kt) : tl K (lX11_isRowAllowed) 18 = o_get 11 7 21 := rfl
theorem aX11_isRowAllowed_21 (K : Kt) : tl K (lX11_isRowAllowed) 21 = o_pushI (nI 0) 22 := rfl
theorem aX11_isRowAllowed_22 (K : Kt) : tl K (lX11_isRowAllowed) 22 = o_iald 23 := rfl
theorem aX11_isRowAllowed_23 (K : Kt) : tl K (lX11_isRowAllowed) 23 = o_icmp_ne 29 26 := rfl
theorem aX11_isRowAllowed_26 (K : Kt) : tl K (lX11_isRowAllowed) 26 = o_goto 129 := rfl
theorem aX11_isRowAllowed_29 (K : Kt) : tl K (lX11_isRowAllowed) 29 = o_aload 0 30 := rfl
theorem aX11_isRowAllowed_30 (K : Kt) : tl K (lX11_isRowAllowed) 30 = o_iload 4 32 := rfl
theorem aX11_isRowAllowed_32 (K : Kt) : tl K (lX11_isRowAllowed) 32 = o_iload 1 33 := rfl
theorem aX11_isRowAllowed_33 (K : Kt) : tl K (lX11_isRowAllowed) 33 = o_iload 2 34 := rfl
theorem aX11_isRowAllowed_34 (K : Kt) : tl K (lX11_isRowAllowed) 34 = o_callV fX11_laysDays 3 11 37 := rfl
theorem aX11_isRowAllowed_37 (K : Kt) : tl K (lX11_isRowAllowed) 37 = o_pushI (nI 0) 38 := rfl
theorem aX11_isRowAllowed_38 (K : Kt) : tl K (lX11_isRowAllowed) 38 = o_istore 5 40 := rfl
theorem aX11_isRowAllowed_40 (K : Kt) : tl K (lX11_isRowAllowed) 40 = o_iload 5 42 := rfl
theorem aX11_isRowAllowed_42 (K : Kt) : tl K (lX11_isRowAllowed) 42 = o_iload 2 43 := rfl
theorem aX11_isRowAllowed_43 (K : Kt) : tl K (lX11_isRowAllowed) 43 = o_icmp_ge 98 46 := rfl
theorem aX11_isRowAllowed_46 (K : Kt) : tl K (lX11_isRowAllowed) 46 = o_aload 0 47 := rfl
theorem aX11_isRowAllowed_47 (K : Kt) : tl K (lX11_isRowAllowed) 47 = o_get 11 19 50 := rfl
theorem aX11_isRowAllowed_50 (K : Kt) : tl K (lX11_isRowAllowed) 50 = o_aload 0 51 := rfl
theorem aX11_isRowAllowed_51 (K : Kt) : tl K (lX11_isRowAllowed) 51 = o_get 11 7 54 := rfl
theorem aX11_isRowAllowed_54 (K : Kt) : tl K (lX11_isRowAllowed) 54 = o_pushI (nI 46) 56 := rfl
theorem aX11_isRowAllowed_56 (K : Kt) : tl K (lX11_isRowAllowed) 56 = o_iload 1 57 := rfl
theorem aX11_isRowAllowed_57 (K : Kt) : tl K (lX11_isRowAllowed) 57 = o_iadd 58 := rfl
theorem aX11_isRowAllowed_58 (K : Kt) : tl K (lX11_isRowAllowed) 58 = o_iload 5 60 := rfl
theorem aX11_isRowAllowed_60 (K : Kt) : tl K (lX11_isRowAllowed) 60 = o_iadd 61 := rfl
theorem aX11_isRowAllowed_61 (K : Kt) : tl K (lX11_isRowAllowed) 61 = o_iald 62 := rfl
theorem aX11_isRowAllowed_62 (K : Kt) : tl K (lX11_isRowAllowed) 62 = o_dup2 63 := rfl
theorem aX11_isRowAllowed_63 (K : Kt) : tl K (lX11_isRowAllowed) 63 = o_iald 64 := rfl
theorem aX11_isRowAllowed_64 (K : Kt) : tl K (lX11_isRowAllowed) 64 = o_aload 0 65 := rfl
theorem aX11_isRowAllowed_65 (K : Kt) : tl K (lX11_isRowAllowed) 65 = o_get 11 20 68 := rfl
theorem aX11_isRowAllowed_68 (K : Kt) : tl K (lX11_isRowAllowed) 68 = o_iload 5 70 := rfl
theorem aX11_isRowAllowed_70 (K : Kt) : tl K (lX11_isRowAllowed) 70 = o_iald 71 := rfl
theorem aX11_isRowAllowed_71 (K : Kt) : tl K (lX11_isRowAllowed) 71 = o_iload 4 73 := rfl
theorem aX11_isRowAllowed_73 (K : Kt) : tl K (lX11_isRowAllowed) 73 = o_icmp_ne 89 76 := rfl
theorem aX11_isRowAllowed_76 (K : Kt) : tl K (lX11_isRowAllowed) 76 = o_aload 0 77 := rfl
theorem aX11_isRowAllowed_77 (K : Kt) : tl K (lX11_isRowAllowed) 77 = o_iload 4 79 := rfl
theorem aX11_isRowAllowed_79 (K : Kt) : tl K (lX11_isRowAllowed) 79 = o_iload 1 80 := rfl
theorem aX11_isRowAllowed_80 (K : Kt) : tl K (lX11_isRowAllowed) 80 = o_iload 5 82 := rfl
theorem aX11_isRowAllowed_82 (K : Kt) : tl K (lX11_isRowAllowed) 82 = o_iadd 83 := rfl
theorem aX11_isRowAllowed_83 (K : Kt) : tl K (lX11_isRowAllowed) 83 = o_callV fX11_fullOf 2 11 86 := rfl
theorem aX11_isRowAllowed_86 (K : Kt) : tl K (lX11_isRowAllowed) 86 = o_goto 90 := rfl
theorem aX11_isRowAllowed_89 (K : Kt) : tl K (lX11_isRowAllowed) 89 = o_pushI (nI 0) 90 := rfl
theorem aX11_isRowAllowed_90 (K : Kt) : tl K (lX11_isRowAllowed) 90 = o_iadd 91 := rfl
theorem aX11_isRowAllowed_91 (K : Kt) : tl K (lX11_isRowAllowed) 91 = o_iast 92 := rfl
theorem aX11_isRowAllowed_92 (K : Kt) : tl K (lX11_isRowAllowed) 92 = o_iinc 5 (nI 1) 95 := rfl
theorem aX11_isRowAllowed_95 (K : Kt) : tl K (lX11_isRowAllowed) 95 = o_goto 40 := rfl
theorem aX11_isRowAllowed_98 (K : Kt) : tl K (lX11_isRowAllowed) 98 = o_aload 0 99 := rfl
theorem aX11_isRowAllowed_99 (K : Kt) : tl K (lX11_isRowAllowed) 99 = o_iload 4 101 := rfl
theorem aX11_isRowAllowed_101 (K : Kt) : tl K (lX11_isRowAllowed) 101 = o_aload 0 102 := rfl
theorem aX11_isRowAllowed_102 (K : Kt) : tl K (lX11_isRowAllowed) 102 = o_get 11 7 105 := rfl
set_option maxRecDepth 8000 in
theorem aX11_isRowAllowed_105 (K : Kt) : tl K (lX11_isRowAllowed) 105 = o_pushI (nI 46) 107 := rfl
set_option maxRecDepth 8000 in
theorem aX11_isRowAllowed_107 (K : Kt) : tl K (lX11_isRowAllowed) 107 = o_iload 1 108 := rfl
set_option maxRecDepth 8000 in
theorem aX11_isRowAllowed_108 (K : Kt) : tl K (lX11_isRowAllowed) 108 = o_iadd 109 := rfl
set_option maxRecDepth 8000 in
theorem aX11_isRowAllowed_109 (K : Kt) : tl K (lX11_isRowAllowed) 109 = o_iload 3 110 := rfl
set_option maxRecDepth 8000 in
theorem aX11_isRowAllowed_110 (K : Kt) : tl K (lX11_isRowAllowed) 110 = o_iadd 111 := rfl
set_option maxRecDepth 8000 in
theorem aX11_isRowAllowed_111 (K : Kt) : tl K (lX11_isRowAllowed) 111 = o_iald 112 := rfl
set_option maxRecDepth 8000 in
theorem aX11_isRowAllowed_112 (K : Kt) : tl K (lX11_isRowAllowed) 112 = o_aload 0 113 := rfl
set_option maxRecDepth 8000 in
theorem aX11_isRowAllowed_113 (K : Kt) : tl K (lX11_isRowAllowed) 113 = o_iload 4 115 := rfl
set_option maxRecDepth 8000 in
theorem aX11_isRowAllowed_115 (K : Kt) : tl K (lX11_isRowAllowed) 115 = o_iload 1 116 := rfl
set_option maxRecDepth 8000 in
theorem aX11_isRowAllowed_116 (K : Kt) : tl K (lX11_isRowAllowed) 116 = o_iload 3 117 := rfl
set_option maxRecDepth 8000 in
theorem aX11_isRowAllowed_117 (K : Kt) : tl K (lX11_isRowAllowed) 117 = o_iadd 118 := rfl
set_option maxRecDepth 8000 in
theorem aX11_isRowAllowed_118 (K : Kt) : tl K (lX11_isRowAllowed) 118 = o_callV fX11_fullOf 2 11 121 := rfl
set_option maxRecDepth 8000 in
theorem aX11_isRowAllowed_121 (K : Kt) : tl K (lX11_isRowAllowed) 121 = o_callV fX11_isAllowed 3 11 124 := rfl
set_option maxRecDepth 8000 in
theorem aX11_isRowAllowed_124 (K : Kt) : tl K (lX11_isRowAllowed) 124 = o_if_ne 129 127 := rfl
set_option maxRecDepth 8000 in
theorem aX11_isRowAllowed_127 (K : Kt) : tl K (lX11_isRowAllowed) 127 = o_pushI (nI 0) 128 := rfl
set_option maxRecDepth 8000 in
theorem aX11_isRowAllowed_128 (K : Kt) : tl K (lX11_isRowAllowed) 128 = o_zret K := rfl
set_option maxRecDepth 8000 in
theorem aX11_isRowAllowed_129 (K : Kt) : tl K (lX11_isRowAllowed) 129 = o_iinc 3 (nI 1) 132 := rfl
set_option maxRecDepth 8000 in
theorem aX11_isRowAllowed_132 (K : Kt) : tl K (lX11_isRowAllowed) 132 = o_goto 2 := rfl
set_option maxRecDepth 8000 in
theorem aX11_isRowAllowed_135 (K : Kt) : tl K (lX11_isRowAllowed) 135 = o_pushI (nI 1) 136 := rfl
set_option maxRecDepth 8000 in
theorem aX11_isRowAllowed_136 (K : Kt) : tl K (lX11_isRowAllowed) 136 = o_zret K := rfl
theorem eX11_rowWorth {As L : List Value} {w : Wd} {K : Kt} (hw : wds As ≤ 5) (hL : ent 5 As = L) (h : RR (tl K lX11_rowWorth) 0 L [] w) : fX11_rowWorth As w K := ⟨hw, by rw [hL]; exact h⟩
theorem nX11_rowWorth : MonoF fX11_rowWorth := mono_f 5 lX11_rowWorth
theorem aX11_rowWorth_0 (K : Kt) : tl K (lX11_rowWorth) 0 = o_pushI (nI 0) 1 := rfl
theorem aX11_rowWorth_1 (K : Kt) : tl K (lX11_rowWorth) 1 = o_istore 3 2 := rfl
theorem aX11_rowWorth_2 (K : Kt) : tl K (lX11_rowWorth) 2 = o_pushI (nI 0) 3 := rfl
theorem aX11_rowWorth_3 (K : Kt) : tl K (lX11_rowWorth) 3 = o_istore 4 5 := rfl
theorem aX11_rowWorth_5 (K : Kt) : tl K (lX11_rowWorth) 5 = o_iload 4 7 := rfl
theorem aX11_rowWorth_7 (K : Kt) : tl K (lX11_rowWorth) 7 = o_iload 2 8 := rfl
theorem aX11_rowWorth_8 (K : Kt) : tl K (lX11_rowWorth) 8 = o_icmp_ge 70 11 := rfl
theorem aX11_rowWorth_11 (K : Kt) : tl K (lX11_rowWorth) 11 = o_iload 3 12 := rfl
theorem aX11_rowWorth_12 (K : Kt) : tl K (lX11_rowWorth) 12 = o_aload 0 13 := rfl
theorem aX11_rowWorth_13 (K : Kt) : tl K (lX11_rowWorth) 13 = o_get 11 20 16 := rfl
theorem aX11_rowWorth_16 (K : Kt) : tl K (lX11_rowWorth) 16 = o_iload 4 18 := rfl
theorem aX11_rowWorth_18 (K : Kt) : tl K (lX11_rowWorth) 18 = o_iald 19 := rfl
theorem aX11_rowWorth_19 (K : Kt) : tl K (lX11_rowWorth) 19 = o_aload 0 20 := rfl
theorem aX11_rowWorth_20 (K : Kt) : tl K (lX11_rowWorth) 20 = o_get 11 7 23 := rfl
theorem aX11_rowWorth_23 (K : Kt) : tl K (lX11_rowWorth) 23 = o_pushI (nI 0) 24 := rfl
theorem aX11_rowWorth_24 (K : Kt) : tl K (lX11_rowWorth) 24 = o_iald 25 := rfl
theorem aX11_rowWorth_25 (K : Kt) : tl K (lX11_rowWorth) 25 = o_icmp_ne 32 28 := rfl
theorem aX11_rowWorth_28 (K : Kt) : tl K (lX11_rowWorth) 28 = o_pushI (nI 0) 29 := rfl
theorem aX11_rowWorth_29 (K : Kt) : tl K (lX11_rowWorth) 29 = o_goto 62 := rfl
theorem aX11_rowWorth_32 (K : Kt) : tl K (lX11_rowWorth) 32 = o_aload 0 33 := rfl
theorem aX11_rowWorth_33 (K : Kt) : tl K (lX11_rowWorth) 33 = o_aload 0 34 := rfl
theorem aX11_rowWorth_34 (K : Kt) : tl K (lX11_rowWorth) 34 = o_get 11 20 37 := rfl
theorem aX11_rowWorth_37 (K : Kt) : tl K (lX11_rowWorth) 37 = o_iload 4 39 := rfl
theorem aX11_rowWorth_39 (K : Kt) : tl K (lX11_rowWorth) 39 = o_iald 40 := rfl
theorem aX11_rowWorth_40 (K : Kt) : tl K (lX11_rowWorth) 40 = o_iload 1 41 := rfl
theorem aX11_rowWorth_41 (K : Kt) : tl K (lX11_rowWorth) 41 = o_iload 4 43 := rfl
theorem aX11_rowWorth_43 (K : Kt) : tl K (lX11_rowWorth) 43 = o_iadd 44 := rfl
theorem aX11_rowWorth_44 (K : Kt) : tl K (lX11_rowWorth) 44 = o_aload 0 45 := rfl
theorem aX11_rowWorth_45 (K : Kt) : tl K (lX11_rowWorth) 45 = o_aload 0 46 := rfl
theorem aX11_rowWorth_46 (K : Kt) : tl K (lX11_rowWorth) 46 = o_get 11 20 49 := rfl
theorem aX11_rowWorth_49 (K : Kt) : tl K (lX11_rowWorth) 49 = o_iload 4 51 := rfl
theorem aX11_rowWorth_51 (K : Kt) : tl K (lX11_rowWorth) 51 = o_iald 52 := rfl
theorem aX11_rowWorth_52 (K : Kt) : tl K (lX11_rowWorth) 52 = o_iload 1 53 := rfl
theorem aX11_rowWorth_53 (K : Kt) : tl K (lX11_rowWorth) 53 = o_iload 4 55 := rfl
theorem aX11_rowWorth_55 (K : Kt) : tl K (lX11_rowWorth) 55 = o_iadd 56 := rfl
theorem aX11_rowWorth_56 (K : Kt) : tl K (lX11_rowWorth) 56 = o_callV fX11_fullOf 2 11 59 := rfl
theorem aX11_rowWorth_59 (K : Kt) : tl K (lX11_rowWorth) 59 = o_callV fX11_worthOf 3 11 62 := rfl
theorem aX11_rowWorth_62 (K : Kt) : tl K (lX11_rowWorth) 62 = o_iadd 63 := rfl
theorem aX11_rowWorth_63 (K : Kt) : tl K (lX11_rowWorth) 63 = o_istore 3 64 := rfl
theorem aX11_rowWorth_64 (K : Kt) : tl K (lX11_rowWorth) 64 = o_iinc 4 (nI 1) 67 := rfl
theorem aX11_rowWorth_67 (K : Kt) : tl K (lX11_rowWorth) 67 = o_goto 5 := rfl
theorem aX11_rowWorth_70 (K : Kt) : tl K (lX11_rowWorth) 70 = o_iload 3 71 := rfl
theorem aX11_rowWorth_71 (K : Kt) : tl K (lX11_rowWorth) 71 = o_iret K := rfl
theorem eX11_nextRow {As L : List Value} {w : Wd} {K : Kt} (hw : wds As ≤ 3) (hL : ent 3 As = L) (h : RR (tl K lX11_nextRow) 0 L [] w) : fX11_nextRow As w K := ⟨hw, by rw [hL]; exact h⟩
theorem nX11_nextRow : MonoF fX11_nextRow := mono_f 3 lX11_nextRow
theorem aX11_nextRow_0 (K : Kt) : tl K (lX11_nextRow) 0 = o_iload 1 1 := rfl
theorem aX11_nextRow_1 (K : Kt) : tl K (lX11_nextRow) 1 = o_pushI (nI 1) 2 := rfl
theorem aX11_nextRow_2 (K : Kt) : tl K (lX11_nextRow) 2 = o_isub 3 := rfl
theorem aX11_nextRow_3 (K : Kt) : tl K (lX11_nextRow) 3 = o_istore 2 4 := rfl
theorem aX11_nextRow_4 (K : Kt) : tl K (lX11_nextRow) 4 = o_iload 2 5 := rfl
theorem aX11_nextRow_5 (K : Kt) : tl K (lX11_nextRow) 5 = o_if_lt 48 8 := rfl
theorem aX11_nextRow_8 (K : Kt) : tl K (lX11_nextRow) 8 = o_aload 0 9 := rfl
theorem aX11_nextRow_9 (K : Kt) : tl K (lX11_nextRow) 9 = o_get 11 20 12 := rfl
theorem aX11_nextRow_12 (K : Kt) : tl K (lX11_nextRow) 12 = o_iload 2 13 := rfl
theorem aX11_nextRow_13 (K : Kt) : tl K (lX11_nextRow) 13 = o_dup2 14 := rfl
theorem aX11_nextRow_14 (K : Kt) : tl K (lX11_nextRow) 14 = o_iald 15 := rfl
theorem aX11_nextRow_15 (K : Kt) : tl K (lX11_nextRow) 15 = o_pushI (nI 1) 16 := rfl
theorem aX11_nextRow_16 (K : Kt) : tl K (lX11_nextRow) 16 = o_iadd 17 := rfl
theorem aX11_nextRow_17 (K : Kt) : tl K (lX11_nextRow) 17 = o_iast 18 := rfl
theorem aX11_nextRow_18 (K : Kt) : tl K (lX11_nextRow) 18 = o_aload 0 19 := rfl
theorem aX11_nextRow_19 (K : Kt) : tl K (lX11_nextRow) 19 = o_get 11 20 22 := rfl
theorem aX11_nextRow_22 (K : Kt) : tl K (lX11_nextRow) 22 = o_iload 2 23 := rfl
theorem aX11_nextRow_23 (K : Kt) : tl K (lX11_nextRow) 23 = o_iald 24 := rfl
theorem aX11_nextRow_24 (K : Kt) : tl K (lX11_nextRow) 24 = o_aload 0 25 := rfl
theorem aX11_nextRow_25 (K : Kt) : tl K (lX11_nextRow) 25 = o_get 11 7 28 := rfl
theorem aX11_nextRow_28 (K : Kt) : tl K (lX11_nextRow) 28 = o_pushI (nI 0) 29 := rfl
theorem aX11_nextRow_29 (K : Kt) : tl K (lX11_nextRow) 29 = o_iald 30 := rfl
theorem aX11_nextRow_30 (K : Kt) : tl K (lX11_nextRow) 30 = o_icmp_gt 35 33 := rfl
theorem aX11_nextRow_33 (K : Kt) : tl K (lX11_nextRow) 33 = o_pushI (nI 1) 34 := rfl
theorem aX11_nextRow_34 (K : Kt) : tl K (lX11_nextRow) 34 = o_zret K := rfl
theorem aX11_nextRow_35 (K : Kt) : tl K (lX11_nextRow) 35 = o_aload 0 36 := rfl
theorem aX11_nextRow_36 (K : Kt) : tl K (lX11_nextRow) 36 = o_get 11 20 39 := rfl
theorem aX11_nextRow_39 (K : Kt) : tl K (lX11_nextRow) 39 = o_iload 2 40 := rfl
theorem aX11_nextRow_40 (K : Kt) : tl K (lX11_nextRow) 40 = o_pushI (nI 0) 41 := rfl
theorem aX11_nextRow_41 (K : Kt) : tl K (lX11_nextRow) 41 = o_iast 42 := rfl
theorem aX11_nextRow_42 (K : Kt) : tl K (lX11_nextRow) 42 = o_iinc 2 ((-1)) 45 := rfl
theorem aX11_nextRow_45 (K : Kt) : tl K (lX11_nextRow) 45 = o_goto 4 := rfl
theorem aX11_nextRow_48 (K : Kt) : tl K (lX11_nextRow) 48 = o_pushI (nI 0) 49 := rfl
theorem aX11_nextRow_49 (K : Kt) : tl K (lX11_nextRow) 49 = o_zret K := rfl
theorem eX11_laysBest {As L : List Value} {w : Wd} {K : Kt} (hw : wds As ≤ 6) (hL : ent 6 As = L) (h : RR (tl K lX11_laysBest) 0 L [] w) : fX11_laysBest As w K := ⟨hw, by rw [hL]; exact h⟩
theorem nX11_laysBest : MonoF fX11_laysBest := mono_f 6 lX11_laysBest
theorem aX11_laysBest_0 (K : Kt) : tl K (lX11_laysBest) 0 = o_pushI (nI 0) 1 := rfl
theorem aX11_laysBest_1 (K : Kt) : tl K (lX11_laysBest) 1 = o_istore 3 2 := rfl
theorem aX11_laysBest_2 (K : Kt) : tl K (lX11_laysBest) 2 = o_iload 3 3 := rfl
theorem aX11_laysBest_3 (K : Kt) : tl K (lX11_laysBest) 3 = o_iload 2 4 := rfl
theorem aX11_laysBest_4 (K : Kt) : tl K (lX11_laysBest) 4 = o_icmp_ge 20 7 := rfl
theorem aX11_laysBest_7 (K : Kt) : tl K (lX11_laysBest) 7 = o_aload 0 8 := rfl
theorem aX11_laysBest_8 (K : Kt) : tl K (lX11_laysBest) 8 = o_get 11 20 11 := rfl
theorem aX11_laysBest_11 (K : Kt) : tl K (lX11_laysBest) 11 = o_iload 3 12 := rfl
theorem aX11_laysBest_12 (K : Kt) : tl K (lX11_laysBest) 12 = o_pushI (nI 0) 13 := rfl
theorem aX11_laysBest_13 (K : Kt) : tl K (lX11_laysBest) 13 = o_iast 14 := rfl
theorem aX11_laysBest_14 (K : Kt) : tl K (lX11_laysBest) 14 = o_iinc 3 (nI 1) 17 := rfl
theorem aX11_laysBest_17 (K : Kt) : tl K (lX11_laysBest) 17 = o_goto 2 := rfl
theorem aX11_laysBest_20 (K : Kt) : tl K (lX11_laysBest) 20 = o_pushI ((-1)) 21 := rfl
theorem aX11_laysBest_21 (K : Kt) : tl K (lX11_laysBest) 21 = o_istore 3 22 := rfl
theorem aX11_laysBest_22 (K : Kt) : tl K (lX11_laysBest) 22 = o_pushI (nI 1) 23 := rfl
theorem aX11_laysBest_23 (K : Kt) : tl K (lX11_laysBest) 23 = o_istore 4 25 := rfl
theorem aX11_laysBest_25 (K : Kt) : tl K (lX11_laysBest) 25 = o_iload 4 27 := rfl
theorem aX11_laysBest_27 (K : Kt) : tl K (lX11_laysBest) 27 = o_if_eq 80 30 := rfl
theorem aX11_laysBest_30 (K : Kt) : tl K (lX11_laysBest) 30 = o_aload 0 31 := rfl
theorem aX11_laysBest_31 (K : Kt) : tl K (lX11_laysBest) 31 = o_iload 1 32 := rfl
theorem aX11_laysBest_32 (K : Kt) : tl K (lX11_laysBest) 32 = o_iload 2 33 := rfl
theorem aX11_laysBest_33 (K : Kt) : tl K (lX11_laysBest) 33 = o_callV fX11_rowWorth 2 11 36 := rfl
theorem aX11_laysBest_36 (K : Kt) : tl K (lX11_laysBest) 36 = o_istore 5 38 := rfl
theorem aX11_laysBest_38 (K : Kt) : tl K (lX11_laysBest) 38 = o_iload 5 40 := rfl
theorem aX11_laysBest_40 (K : Kt) : tl K (lX11_laysBest) 40 = o_iload 3 41 := rfl
theorem aX11_laysBest_41 (K : Kt) : tl K (lX11_laysBest) 41 = o_icmp_le 70 44 := rfl
theorem aX11_laysBest_44 (K : Kt) : tl K (lX11_laysBest) 44 = o_aload 0 45 := rfl
theorem aX11_laysBest_45 (K : Kt) : tl K (lX11_laysBest) 45 = o_iload 1 46 := rfl
theorem aX11_laysBest_46 (K : Kt) : tl K (lX11_laysBest) 46 = o_iload 2 47 := rfl
theorem aX11_laysBest_47 (K : Kt) : tl K (lX11_laysBest) 47 = o_callV fX11_isRowAllowed 2 11 50 := rfl
theorem aX11_laysBest_50 (K : Kt) : tl K (lX11_laysBest) 50 = o_if_eq 70 53 := rfl
theorem aX11_laysBest_53 (K : Kt) : tl K (lX11_laysBest) 53 = o_iload 5 55 := rfl
theorem aX11_laysBest_55 (K : Kt) : tl K (lX11_laysBest) 55 = o_istore 3 56 := rfl
theorem aX11_laysBest_56 (K : Kt) : tl K (lX11_laysBest) 56 = o_aload 0 57 := rfl
theorem aX11_laysBest_57 (K : Kt) : tl K (lX11_laysBest) 57 = o_get 11 21 60 := rfl
theorem aX11_laysBest_60 (K : Kt) : tl K (lX11_laysBest) 60 = o_pushI (nI 0) 61 := rfl
theorem aX11_laysBest_61 (K : Kt) : tl K (lX11_laysBest) 61 = o_aload 0 62 := rfl
theorem aX11_laysBest_62 (K : Kt) : tl K (lX11_laysBest) 62 = o_get 11 20 65 := rfl
theorem aX11_laysBest_65 (K : Kt) : tl K (lX11_laysBest) 65 = o_pushI (nI 0) 66 := rfl
theorem aX11_laysBest_66 (K : Kt) : tl K (lX11_laysBest) 66 = o_iload 2 67 := rfl
theorem aX11_laysBest_67 (K : Kt) : tl K (lX11_laysBest) 67 = o_callS fX11_lays 5 70 := rfl
theorem aX11_laysBest_70 (K : Kt) : tl K (lX11_laysBest) 70 = o_aload 0 71 := rfl
theorem aX11_laysBest_71 (K : Kt) : tl K (lX11_laysBest) 71 = o_iload 2 72 := rfl
theorem aX11_laysBest_72 (K : Kt) : tl K (lX11_laysBest) 72 = o_callV fX11_nextRow 1 11 75 := rfl
theorem aX11_laysBest_75 (K : Kt) : tl K (lX11_laysBest) 75 = o_istore 4 77 := rfl
theorem aX11_laysBest_77 (K : Kt) : tl K (lX11_laysBest) 77 = o_goto 25 := rfl
theorem aX11_laysBest_80 (K : Kt) : tl K (lX11_laysBest) 80 = o_iload 3 81 := rfl
theorem aX11_laysBest_81 (K : Kt) : tl K (lX11_laysBest) 81 = o_iret K := rfl
theorem eX11_whyNotBest {As L : List Value} {w : Wd} {K : Kt} (hw : wds As ≤ 3) (hL : ent 3 As = L) (h : RR (tl K lX11_whyNotBest) 0 L [] w) : fX11_whyNotBest As w K := ⟨hw, by rw [hL]; exact h⟩
theorem nX11_whyNotBest : MonoF fX11_whyNotBest := mono_f 3 lX11_whyNotBest
theorem aX11_whyNotBest_0 (K : Kt) : tl K (lX11_whyNotBest) 0 = o_aload 0 1 := rfl
theorem aX11_whyNotBest_1 (K : Kt) : tl K (lX11_whyNotBest) 1 = o_iload 1 2 := rfl
theorem aX11_whyNotBest_2 (K : Kt) : tl K (lX11_whyNotBest) 2 = o_callV fX11_isGame 1 11 5 := rfl
theorem aX11_whyNotBest_5 (K : Kt) : tl K (lX11_whyNotBest) 5 = o_if_ne 12 8 := rfl
theorem aX11_whyNotBest_8 (K : Kt) : tl K (lX11_whyNotBest) 8 = o_pushI (nI 1) 9 := rfl
theorem aX11_whyNotBest_9 (K : Kt) : tl K (lX11_whyNotBest) 9 = o_goto 42 := rfl
theorem aX11_whyNotBest_12 (K : Kt) : tl K (lX11_whyNotBest) 12 = o_iload 2 13 := rfl
theorem aX11_whyNotBest_13 (K : Kt) : tl K (lX11_whyNotBest) 13 = o_pushI (nI 1) 14 := rfl
theorem aX11_whyNotBest_14 (K : Kt) : tl K (lX11_whyNotBest) 14 = o_pushI (nI 5) 15 := rfl
theorem aX11_whyNotBest_15 (K : Kt) : tl K (lX11_whyNotBest) 15 = o_callS fX11_in 3 18 := rfl
theorem aX11_whyNotBest_18 (K : Kt) : tl K (lX11_whyNotBest) 18 = o_if_ne 25 21 := rfl
theorem aX11_whyNotBest_21 (K : Kt) : tl K (lX11_whyNotBest) 21 = o_pushI (nI 2) 22 := rfl
theorem aX11_whyNotBest_22 (K : Kt) : tl K (lX11_whyNotBest) 22 = o_goto 42 := rfl
theorem aX11_whyNotBest_25 (K : Kt) : tl K (lX11_whyNotBest) 25 = o_iload 1 26 := rfl
theorem aX11_whyNotBest_26 (K : Kt) : tl K (lX11_whyNotBest) 26 = o_iload 2 27 := rfl
theorem aX11_whyNotBest_27 (K : Kt) : tl K (lX11_whyNotBest) 27 = o_iadd 28 := rfl
theorem aX11_whyNotBest_28 (K : Kt) : tl K (lX11_whyNotBest) 28 = o_aload 0 29 := rfl
theorem aX11_whyNotBest_29 (K : Kt) : tl K (lX11_whyNotBest) 29 = o_get 11 7 32 := rfl
theorem aX11_whyNotBest_32 (K : Kt) : tl K (lX11_whyNotBest) 32 = o_pushI (nI 1) 33 := rfl
theorem aX11_whyNotBest_33 (K : Kt) : tl K (lX11_whyNotBest) 33 = o_iald 34 := rfl
theorem aX11_whyNotBest_34 (K : Kt) : tl K (lX11_whyNotBest) 34 = o_icmp_le 41 37 := rfl
theorem aX11_whyNotBest_37 (K : Kt) : tl K (lX11_whyNotBest) 37 = o_pushI (nI 1) 38 := rfl
theorem aX11_whyNotBest_38 (K : Kt) : tl K (lX11_whyNotBest) 38 = o_goto 42 := rfl
theorem aX11_whyNotBest_41 (K : Kt) : tl K (lX11_whyNotBest) 41 = o_pushI (nI 0) 42 := rfl
theorem aX11_whyNotBest_42 (K : Kt) : tl K (lX11_whyNotBest) 42 = o_iret K := rfl
theorem eX11_best {As L : List Value} {w : Wd} {K : Kt} (hw : wds As ≤ 3) (hL : ent 3 As = L) (h : RR (tl K lX11_best) 0 L [] w) : fX11_best As w K := ⟨hw, by rw [hL]; exact h⟩
theorem nX11_best : MonoF fX11_best := mono_f 3 lX11_best
theorem aX11_best_0 (K : Kt) : tl K (lX11_best) 0 = o_aload 0 1 := rfl
theorem aX11_best_1 (K : Kt) : tl K (lX11_best) 1 = o_aload 0 2 := rfl
theorem aX11_best_2 (K : Kt) : tl K (lX11_best) 2 = o_iload 1 3 := rfl
theorem aX11_best_3 (K : Kt) : tl K (lX11_best) 3 = o_iload 2 4 := rfl
theorem aX11_best_4 (K : Kt) : tl K (lX11_best) 4 = o_callV fX11_whyNotBest 2 11 7 := rfl
theorem aX11_best_7 (K : Kt) : tl K (lX11_best) 7 = o_callV fX11_isRefused 1 11 10 := rfl
theorem aX11_best_10 (K : Kt) : tl K (lX11_best) 10 = o_if_eq 17 13 := rfl
theorem aX11_best_13 (K : Kt) : tl K (lX11_best) 13 = o_pushI ((-1)) 14 := rfl
theorem aX11_best_14 (K : Kt) : tl K (lX11_best) 14 = o_goto 23 := rfl
theorem aX11_best_17 (K : Kt) : tl K (lX11_best) 17 = o_aload 0 18 := rfl
theorem aX11_best_18 (K : Kt) : tl K (lX11_best) 18 = o_iload 1 19 := rfl
theorem aX11_best_19 (K : Kt) : tl K (lX11_best) 19 = o_iload 2 20 := rfl
theorem aX11_best_20 (K : Kt) : tl K (lX11_best) 20 = o_callV fX11_laysBest 2 11 23 := rfl
theorem aX11_best_23 (K : Kt) : tl K (lX11_best) 23 = o_iret K := rfl
theorem eX11_bestOf {As L : List Value} {w : Wd} {K : Kt} (hw : wds As ≤ 5) (hL : ent 5 As = L) (h : RR (tl K lX11_bestOf) 0 L [] w) : fX11_bestOf As w K := ⟨hw, by rw [hL]; exact h⟩
theorem nX11_bestOf : MonoF fX11_bestOf := mono_f 5 lX11_bestOf
theorem aX11_bestOf_0 (K : Kt) : tl K (lX11_bestOf) 0 = o_aload 0 1 := rfl
theorem aX11_bestOf_1 (K : Kt) : tl K (lX11_bestOf) 1 = o_iload 1 2 := rfl
theorem aX11_bestOf_2 (K : Kt) : tl K (lX11_bestOf) 2 = o_iload 2 3 := rfl
theorem aX11_bestOf_3 (K : Kt) : tl K (lX11_bestOf) 3 = o_callV fX11_whyNotBest 2 11 6 := rfl
theorem aX11_bestOf_6 (K : Kt) : tl K (lX11_bestOf) 6 = o_istore 4 8 := rfl
theorem aX11_bestOf_8 (K : Kt) : tl K (lX11_bestOf) 8 = o_aload 0 9 := rfl
theorem aX11_bestOf_9 (K : Kt) : tl K (lX11_bestOf) 9 = o_iload 4 11 := rfl
theorem aX11_bestOf_11 (K : Kt) : tl K (lX11_bestOf) 11 = o_if_eq 19 14 := rfl
theorem aX11_bestOf_14 (K : Kt) : tl K (lX11_bestOf) 14 = o_iload 4 16 := rfl
theorem aX11_bestOf_16 (K : Kt) : tl K (lX11_bestOf) 16 = o_goto 30 := rfl
theorem aX11_bestOf_19 (K : Kt) : tl K (lX11_bestOf) 19 = o_iload 3 20 := rfl
theorem aX11_bestOf_20 (K : Kt) : tl K (lX11_bestOf) 20 = o_pushI (nI 0) 21 := rfl
theorem aX11_bestOf_21 (K : Kt) : tl K (lX11_bestOf) 21 = o_iload 2 22 := rfl
theorem aX11_bestOf_22 (K : Kt) : tl K (lX11_bestOf) 22 = o_pushI (nI 1) 23 := rfl
theorem aX11_bestOf_23 (K : Kt) : tl K (lX11_bestOf) 23 = o_isub 24 := rfl
theorem aX11_bestOf_24 (K : Kt) : tl K (lX11_bestOf) 24 = o_callS fX11_in 3 27 := rfl
theorem aX11_bestOf_27 (K : Kt) : tl K (lX11_bestOf) 27 = o_callS fX11_unless 1 30 := rfl
theorem aX11_bestOf_30 (K : Kt) : tl K (lX11_bestOf) 30 = o_callV fX11_isRefused 1 11 33 := rfl
theorem aX11_bestOf_33 (K : Kt) : tl K (lX11_bestOf) 33 = o_if_eq 38 36 := rfl
theorem aX11_bestOf_36 (K : Kt) : tl K (lX11_bestOf) 36 = o_pushI ((-1)) 37 := rfl
theorem aX11_bestOf_37 (K : Kt) : tl K (lX11_bestOf) 37 = o_iret K := rfl
theorem aX11_bestOf_38 (K : Kt) : tl K (lX11_bestOf) 38 = o_aload 0 39 := rfl
theorem aX11_bestOf_39 (K : Kt) : tl K (lX11_bestOf) 39 = o_iload 1 40 := rfl
theorem aX11_bestOf_40 (K : Kt) : tl K (lX11_bestOf) 40 = o_iload 2 41 := rfl
theorem aX11_bestOf_41 (K : Kt) : tl K (lX11_bestOf) 41 = o_callV fX11_laysBest 2 11 44 := rfl
theorem aX11_bestOf_44 (K : Kt) : tl K (lX11_bestOf) 44 = o_pop 45 := rfl
theorem aX11_bestOf_45 (K : Kt) : tl K (lX11_bestOf) 45 = o_aload 0 46 := rfl
theorem aX11_bestOf_46 (K : Kt) : tl K (lX11_bestOf) 46 = o_get 11 21 49 := rfl
theorem aX11_bestOf_49 (K : Kt) : tl K (lX11_bestOf) 49 = o_iload 3 50 := rfl
theorem aX11_bestOf_50 (K : Kt) : tl K (lX11_bestOf) 50 = o_iald 51 := rfl
theorem aX11_bestOf_51 (K : Kt) : tl K (lX11_bestOf) 51 = o_aload 0 52 := rfl
theorem aX11_bestOf_52 (K : Kt) : tl K (lX11_bestOf) 52 = o_get 11 7 55 := rfl
theorem aX11_bestOf_55 (K : Kt) : tl K (lX11_bestOf) 55 = o_pushI (nI 0) 56 := rfl
theorem aX11_bestOf_56 (K : Kt) : tl K (lX11_bestOf) 56 = o_iald 57 := rfl
theorem aX11_bestOf_57 (K : Kt) : tl K (lX11_bestOf) 57 = o_icmp_ne 65 60 := rfl
theorem aX11_bestOf_60 (K : Kt) : tl K (lX11_bestOf) 60 = o_pushI ((-2)) 62 := rfl
theorem aX11_bestOf_62 (K : Kt) : tl K (lX11_bestOf) 62 = o_goto 71 := rfl
theorem aX11_bestOf_65 (K : Kt) : tl K (lX11_bestOf) 65 = o_aload 0 66 := rfl
theorem aX11_bestOf_66 (K : Kt) : tl K (lX11_bestOf) 66 = o_get 11 21 69 := rfl
theorem aX11_bestOf_69 (K : Kt) : tl K (lX11_bestOf) 69 = o_iload 3 70 := rfl
theorem aX11_bestOf_70 (K : Kt) : tl K (lX11_bestOf) 70 = o_iald 71 := rfl
theorem aX11_bestOf_71 (K : Kt) : tl K (lX11_bestOf) 71 = o_iret K := rfl
theorem eX11_isAloneAllowed {As L : List Value} {w : Wd} {K : Kt} (hw : wds As ≤ 4) (hL : ent 4 As = L) (h : RR (tl K lX11_isAloneAllowed) 0 L [] w) : fX11_isAloneAllowed As w K := ⟨hw, by rw [hL]; exact h⟩
theorem nX11_isAloneAllowed : MonoF fX11_isAloneAllowed := mono_f 4 lX11_isAloneAllowed
theorem aX11_isAloneAllowed_0 (K : Kt) : tl K (lX11_isAloneAllowed) 0 = o_aload 0 1 := rfl
theorem aX11_isAloneAllowed_1 (K : Kt) : tl K (lX11_isAloneAllowed) 1 = o_iload 1 2 := rfl
theorem aX11_isAloneAllowed_2 (K : Kt) : tl K (lX11_isAloneAllowed) 2 = o_iload 2 3 := rfl
theorem aX11_isAloneAllowed_3 (K : Kt) : tl K (lX11_isAloneAllowed) 3 = o_pushI (nI 1) 4 := rfl
theorem aX11_isAloneAllowed_4 (K : Kt) : tl K (lX11_isAloneAllowed) 4 = o_callV fX11_laysDays 3 11 7 := rfl
theorem aX11_isAloneAllowed_7 (K : Kt) : tl K (lX11_isAloneAllowed) 7 = o_aload 0 8 := rfl
theorem aX11_isAloneAllowed_8 (K : Kt) : tl K (lX11_isAloneAllowed) 8 = o_iload 1 9 := rfl
theorem aX11_isAloneAllowed_9 (K : Kt) : tl K (lX11_isAloneAllowed) 9 = o_aload 0 10 := rfl
theorem aX11_isAloneAllowed_10 (K : Kt) : tl K (lX11_isAloneAllowed) 10 = o_get 11 7 13 := rfl
theorem aX11_isAloneAllowed_13 (K : Kt) : tl K (lX11_isAloneAllowed) 13 = o_pushI (nI 46) 15 := rfl
theorem aX11_isAloneAllowed_15 (K : Kt) : tl K (lX11_isAloneAllowed) 15 = o_iload 2 16 := rfl
theorem aX11_isAloneAllowed_16 (K : Kt) : tl K (lX11_isAloneAllowed) 16 = o_iadd 17 := rfl
theorem aX11_isAloneAllowed_17 (K : Kt) : tl K (lX11_isAloneAllowed) 17 = o_iald 18 := rfl
theorem aX11_isAloneAllowed_18 (K : Kt) : tl K (lX11_isAloneAllowed) 18 = o_iload 3 19 := rfl
theorem aX11_isAloneAllowed_19 (K : Kt) : tl K (lX11_isAloneAllowed) 19 = o_callV fX11_isAllowed 3 11 22 := rfl
theorem aX11_isAloneAllowed_22 (K : Kt) : tl K (lX11_isAloneAllowed) 22 = o_zret K := rfl
theorem eX11_pair {As L : List Value} {w : Wd} {K : Kt} (hw : wds As ≤ 12) (hL : ent 12 As = L) (h : RR (tl K lX11_pair) 0 L [] w) : fX11_pair As w K := ⟨hw, by rw [hL]; exact h⟩
theorem nX11_pair : MonoF fX11_pair := mono_f 12 lX11_pair
theorem aX11_pair_0 (K : Kt) : tl K (lX11_pair) 0 = o_aload 0 1 := rfl
theorem aX11_pair_1 (K : Kt) : tl K (lX11_pair) 1 = o_aload 0 2 := rfl
theorem aX11_pair_2 (K : Kt) : tl K (lX11_pair) 2 = o_iload 1 3 := rfl
theorem aX11_pair_3 (K : Kt) : tl K (lX11_pair) 3 = o_callV fX11_isGame 1 11 6 := rfl
theorem aX11_pair_6 (K : Kt) : tl K (lX11_pair) 6 = o_if_eq 22 9 := rfl
theorem aX11_pair_9 (K : Kt) : tl K (lX11_pair) 9 = o_iload 3 10 := rfl
theorem aX11_pair_10 (K : Kt) : tl K (lX11_pair) 10 = o_pushI (nI 0) 11 := rfl
theorem aX11_pair_11 (K : Kt) : tl K (lX11_pair) 11 = o_pushI (nI 2) 12 := rfl
theorem aX11_pair_12 (K : Kt) : tl K (lX11_pair) 12 = o_callS fX11_in 3 15 := rfl
theorem aX11_pair_15 (K : Kt) : tl K (lX11_pair) 15 = o_if_eq 22 18 := rfl
theorem aX11_pair_18 (K : Kt) : tl K (lX11_pair) 18 = o_pushI (nI 1) 19 := rfl
theorem aX11_pair_19 (K : Kt) : tl K (lX11_pair) 19 = o_goto 23 := rfl
theorem aX11_pair_22 (K : Kt) : tl K (lX11_pair) 22 = o_pushI (nI 0) 23 := rfl
theorem aX11_pair_23 (K : Kt) : tl K (lX11_pair) 23 = o_iload 2 24 := rfl
theorem aX11_pair_24 (K : Kt) : tl K (lX11_pair) 24 = o_pushI (nI 1) 25 := rfl
theorem aX11_pair_25 (K : Kt) : tl K (lX11_pair) 25 = o_pushI (nI 120) 27 := rfl
theorem aX11_pair_27 (K : Kt) : tl K (lX11_pair) 27 = o_callS fX11_in 3 30 := rfl
theorem aX11_pair_30 (K : Kt) : tl K (lX11_pair) 30 = o_callS fX11_unless_ 2 33 := rfl
theorem aX11_pair_33 (K : Kt) : tl K (lX11_pair) 33 = o_callV fX11_isRefused 1 11 36 := rfl
theorem aX11_pair_36 (K : Kt) : tl K (lX11_pair) 36 = o_if_eq 41 39 := rfl
theorem aX11_pair_39 (K : Kt) : tl K (lX11_pair) 39 = o_pushI ((-1)) 40 := rfl
theorem aX11_pair_40 (K : Kt) : tl K (lX11_pair) 40 = o_iret K := rfl
theorem aX11_pair_41 (K : Kt) : tl K (lX11_pair) 41 = o_pushI ((-2)) 43 := rfl
theorem aX11_pair_43 (K : Kt) : tl K (lX11_pair) 43 = o_istore 4 45 := rfl
theorem aX11_pair_45 (K : Kt) : tl K (lX11_pair) 45 = o_pushI ((-2)) 47 := rfl
theorem aX11_pair_47 (K : Kt) : tl K (lX11_pair) 47 = o_istore 5 49 := rfl
theorem aX11_pair_49 (K : Kt) : tl K (lX11_pair) 49 = o_pushI ((-2)) 51 := rfl
theorem aX11_pair_51 (K : Kt) : tl K (lX11_pair) 51 = o_istore 6 53 := rfl
theorem aX11_pair_53 (K : Kt) : tl K (lX11_pair) 53 = o_pushI (nI 0) 54 := rfl
theorem aX11_pair_54 (K : Kt) : tl K (lX11_pair) 54 = o_istore 7 56 := rfl
theorem aX11_pair_56 (K : Kt) : tl K (lX11_pair) 56 = o_iload 7 58 := rfl
theorem aX11_pair_58 (K : Kt) : tl K (lX11_pair) 58 = o_aload 0 59 := rfl
theorem aX11_pair_59 (K : Kt) : tl K (lX11_pair) 59 = o_get 11 7 62 := rfl
theorem aX11_pair_62 (K : Kt) : tl K (lX11_pair) 62 = o_pushI (nI 0) 63 := rfl
theorem aX11_pair_63 (K : Kt) : tl K (lX11_pair) 63 = o_iald 64 := rfl
theorem aX11_pair_64 (K : Kt) : tl K (lX11_pair) 64 = o_icmp_ge 222 67 := rfl
theorem aX11_pair_67 (K : Kt) : tl K (lX11_pair) 67 = o_iload 2 68 := rfl
theorem aX11_pair_68 (K : Kt) : tl K (lX11_pair) 68 = o_aload 0 69 := rfl
theorem aX11_pair_69 (K : Kt) : tl K (lX11_pair) 69 = o_iload 7 71 := rfl
theorem aX11_pair_71 (K : Kt) : tl K (lX11_pair) 71 = o_iload 1 72 := rfl
theorem aX11_pair_72 (K : Kt) : tl K (lX11_pair) 72 = o_callV fX11_fullOf 2 11 75 := rfl
theorem aX11_pair_75 (K : Kt) : tl K (lX11_pair) 75 = o_callS fX11_lesser 2 78 := rfl
theorem aX11_pair_78 (K : Kt) : tl K (lX11_pair) 78 = o_istore 8 80 := rfl
theorem aX11_pair_80 (K : Kt) : tl K (lX11_pair) 80 = o_aload 0 81 := rfl
theorem aX11_pair_81 (K : Kt) : tl K (lX11_pair) 81 = o_iload 7 83 := rfl
theorem aX11_pair_83 (K : Kt) : tl K (lX11_pair) 83 = o_iload 1 84 := rfl
theorem aX11_pair_84 (K : Kt) : tl K (lX11_pair) 84 = o_iload 8 86 := rfl
theorem aX11_pair_86 (K : Kt) : tl K (lX11_pair) 86 = o_callV fX11_isAloneAllowed 3 11 89 := rfl
theorem aX11_pair_89 (K : Kt) : tl K (lX11_pair) 89 = o_if_ne 95 92 := rfl
theorem aX11_pair_92 (K : Kt) : tl K (lX11_pair) 92 = o_goto 216 := rfl
theorem aX11_pair_95 (K : Kt) : tl K (lX11_pair) 95 = o_pushI (nI 0) 96 := rfl
theorem aX11_pair_96 (K : Kt) : tl K (lX11_pair) 96 = o_istore 9 98 := rfl
theorem aX11_pair_98 (K : Kt) : tl K (lX11_pair) 98 = o_iload 9 100 := rfl
theorem aX11_pair_100 (K : Kt) : tl K (lX11_pair) 100 = o_aload 0 101 := rfl
theorem aX11_pair_101 (K : Kt) : tl K (lX11_pair) 101 = o_get 11 7 104 := rfl
theorem aX11_pair_104 (K : Kt) : tl K (lX11_pair) 104 = o_pushI (nI 0) 105 := rfl
theorem aX11_pair_105 (K : Kt) : tl K (lX11_pair) 105 = o_iald 106 := rfl
theorem aX11_pair_106 (K : Kt) : tl K (lX11_pair) 106 = o_icmp_ge 216 109 := rfl
theorem aX11_pair_109 (K : Kt) : tl K (lX11_pair) 109 = o_aload 0 110 := rfl
theorem aX11_pair_110 (K : Kt) : tl K (lX11_pair) 110 = o_get 11 7 113 := rfl
theorem aX11_pair_113 (K : Kt) : tl K (lX11_pair) 113 = o_pushI (nI 22) 115 := rfl
set_option maxRecDepth 8000 in
theorem aX11_pair_115 (K : Kt) : tl K (lX11_pair) 115 = o_iload 9 117 := rfl
set_option maxRecDepth 8000 in
theorem aX11_pair_117 (K : Kt) : tl K (lX11_pair) 117 = o_iadd 118 := rfl
set_option maxRecDepth 8000 in
theorem aX11_pair_118 (K : Kt) : tl K (lX11_pair) 118 = o_iald 119 := rfl
set_option maxRecDepth 8000 in
theorem aX11_pair_119 (K : Kt) : tl K (lX11_pair) 119 = o_aload 0 120 := rfl
set_option maxRecDepth 8000 in
theorem aX11_pair_120 (K : Kt) : tl K (lX11_pair) 120 = o_get 11 7 123 := rfl
set_option maxRecDepth 8000 in
theorem aX11_pair_123 (K : Kt) : tl K (lX11_pair) 123 = o_pushI (nI 86) 125 := rfl
set_option maxRecDepth 8000 in
theorem aX11_pair_125 (K : Kt) : tl K (lX11_pair) 125 = o_iload 1 126 := rfl
set_option maxRecDepth 8000 in
theorem aX11_pair_126 (K : Kt) : tl K (lX11_pair) 126 = o_iadd 127 := rfl
set_option maxRecDepth 8000 in
theorem aX11_pair_127 (K : Kt) : tl K (lX11_pair) 127 = o_iald 128 := rfl
set_option maxRecDepth 8000 in
theorem aX11_pair_128 (K : Kt) : tl K (lX11_pair) 128 = o_iload 8 130 := rfl
set_option maxRecDepth 8000 in
theorem aX11_pair_130 (K : Kt) : tl K (lX11_pair) 130 = o_isub 131 := rfl
set_option maxRecDepth 8000 in
theorem aX11_pair_131 (K : Kt) : tl K (lX11_pair) 131 = o_callS fX11_lesser 2 134 := rfl
set_option maxRecDepth 8000 in
theorem aX11_pair_134 (K : Kt) : tl K (lX11_pair) 134 = o_istore 10 136 := rfl
set_option maxRecDepth 8000 in
theorem aX11_pair_136 (K : Kt) : tl K (lX11_pair) 136 = o_iload 9 138 := rfl
set_option maxRecDepth 8000 in
theorem aX11_pair_138 (K : Kt) : tl K (lX11_pair) 138 = o_iload 7 140 := rfl
set_option maxRecDepth 8000 in
theorem aX11_pair_140 (K : Kt) : tl K (lX11_pair) 140 = o_icmp_eq 210 143 := rfl
set_option maxRecDepth 8000 in
theorem aX11_pair_143 (K : Kt) : tl K (lX11_pair) 143 = o_iload 10 145 := rfl
set_option maxRecDepth 8000 in
theorem aX11_pair_145 (K : Kt) : tl K (lX11_pair) 145 = o_if_le 210 148 := rfl
set_option maxRecDepth 8000 in
theorem aX11_pair_148 (K : Kt) : tl K (lX11_pair) 148 = o_aload 0 149 := rfl
set_option maxRecDepth 8000 in
theorem aX11_pair_149 (K : Kt) : tl K (lX11_pair) 149 = o_iload 9 151 := rfl
set_option maxRecDepth 8000 in
theorem aX11_pair_151 (K : Kt) : tl K (lX11_pair) 151 = o_iload 1 152 := rfl
set_option maxRecDepth 8000 in
theorem aX11_pair_152 (K : Kt) : tl K (lX11_pair) 152 = o_iload 10 154 := rfl
set_option maxRecDepth 8000 in
theorem aX11_pair_154 (K : Kt) : tl K (lX11_pair) 154 = o_callV fX11_isAloneAllowed 3 11 157 := rfl
set_option maxRecDepth 8000 in
theorem aX11_pair_157 (K : Kt) : tl K (lX11_pair) 157 = o_if_ne 163 160 := rfl
set_option maxRecDepth 8000 in
theorem aX11_pair_160 (K : Kt) : tl K (lX11_pair) 160 = o_goto 210 := rfl
set_option maxRecDepth 8000 in
theorem aX11_pair_163 (K : Kt) : tl K (lX11_pair) 163 = o_aload 0 164 := rfl
set_option maxRecDepth 8000 in
theorem aX11_pair_164 (K : Kt) : tl K (lX11_pair) 164 = o_iload 7 166 := rfl
set_option maxRecDepth 8000 in
theorem aX11_pair_166 (K : Kt) : tl K (lX11_pair) 166 = o_iload 1 167 := rfl
set_option maxRecDepth 8000 in
theorem aX11_pair_167 (K : Kt) : tl K (lX11_pair) 167 = o_iload 8 169 := rfl
set_option maxRecDepth 8000 in
theorem aX11_pair_169 (K : Kt) : tl K (lX11_pair) 169 = o_callV fX11_worthOf 3 11 172 := rfl
set_option maxRecDepth 8000 in
theorem aX11_pair_172 (K : Kt) : tl K (lX11_pair) 172 = o_aload 0 173 := rfl
set_option maxRecDepth 8000 in
theorem aX11_pair_173 (K : Kt) : tl K (lX11_pair) 173 = o_iload 9 175 := rfl
set_option maxRecDepth 8000 in
theorem aX11_pair_175 (K : Kt) : tl K (lX11_pair) 175 = o_iload 1 176 := rfl
set_option maxRecDepth 8000 in
theorem aX11_pair_176 (K : Kt) : tl K (lX11_pair) 176 = o_iload 10 178 := rfl
set_option maxRecDepth 8000 in
theorem aX11_pair_178 (K : Kt) : tl K (lX11_pair) 178 = o_callV fX11_worthOf 3 11 181 := rfl
set_option maxRecDepth 8000 in
theorem aX11_pair_181 (K : Kt) : tl K (lX11_pair) 181 = o_iadd 182 := rfl
set_option maxRecDepth 8000 in
theorem aX11_pair_182 (K : Kt) : tl K (lX11_pair) 182 = o_istore 11 184 := rfl
set_option maxRecDepth 8000 in
theorem aX11_pair_184 (K : Kt) : tl K (lX11_pair) 184 = o_iload 4 186 := rfl
set_option maxRecDepth 8000 in
theorem aX11_pair_186 (K : Kt) : tl K (lX11_pair) 186 = o_pushI ((-2)) 188 := rfl
set_option maxRecDepth 8000 in
theorem aX11_pair_188 (K : Kt) : tl K (lX11_pair) 188 = o_icmp_eq 198 191 := rfl
set_option maxRecDepth 8000 in
theorem aX11_pair_191 (K : Kt) : tl K (lX11_pair) 191 = o_iload 11 193 := rfl
set_option maxRecDepth 8000 in
theorem aX11_pair_193 (K : Kt) : tl K (lX11_pair) 193 = o_iload 4 195 := rfl
set_option maxRecDepth 8000 in
theorem aX11_pair_195 (K : Kt) : tl K (lX11_pair) 195 = o_icmp_le 210 198 := rfl
set_option maxRecDepth 8000 in
theorem aX11_pair_198 (K : Kt) : tl K (lX11_pair) 198 = o_iload 11 200 := rfl
set_option maxRecDepth 8000 in
theorem aX11_pair_200 (K : Kt) : tl K (lX11_pair) 200 = o_istore 4 202 := rfl
set_option maxRecDepth 8000 in
theorem aX11_pair_202 (K : Kt) : tl K (lX11_pair) 202 = o_iload 7 204 := rfl
set_option maxRecDepth 8000 in
theorem aX11_pair_204 (K : Kt) : tl K (lX11_pair) 204 = o_istore 5 206 := rfl
set_option maxRecDepth 8000 in
theorem aX11_pair_206 (K : Kt) : tl K (lX11_pair) 206 = o_iload 9 208 := rfl
set_option maxRecDepth 8000 in
theorem aX11_pair_208 (K : Kt) : tl K (lX11_pair) 208 = o_istore 6 210 := rfl
set_option maxRecDepth 8000 in
theorem aX11_pair_210 (K : Kt) : tl K (lX11_pair) 210 = o_iinc 9 (nI 1) 213 := rfl
set_option maxRecDepth 8000 in
theorem aX11_pair_213 (K : Kt) : tl K (lX11_pair) 213 = o_goto 98 := rfl
set_option maxRecDepth 8000 in
theorem aX11_pair_216 (K : Kt) : tl K (lX11_pair) 216 = o_iinc 7 (nI 1) 219 := rfl
set_option maxRecDepth 8000 in
theorem aX11_pair_219 (K : Kt) : tl K (lX11_pair) 219 = o_goto 56 := rfl
set_option maxRecDepth 8000 in
theorem aX11_pair_222 (K : Kt) : tl K (lX11_pair) 222 = o_iload 3 223 := rfl
set_option maxRecDepth 8000 in
theorem aX11_pair_223 (K : Kt) : tl K (lX11_pair) 223 = o_if_ne 231 226 := rfl
set_option maxRecDepth 8000 in
theorem aX11_pair_226 (K : Kt) : tl K (lX11_pair) 226 = o_iload 4 228 := rfl
set_option maxRecDepth 8000 in
theorem aX11_pair_228 (K : Kt) : tl K (lX11_pair) 228 = o_goto 243 := rfl
set_option maxRecDepth 8000 in
theorem aX11_pair_231 (K : Kt) : tl K (lX11_pair) 231 = o_iload 3 232 := rfl
set_option maxRecDepth 8000 in
theorem aX11_pair_232 (K : Kt) : tl K (lX11_pair) 232 = o_pushI (nI 1) 233 := rfl
set_option maxRecDepth 8000 in
theorem aX11_pair_233 (K : Kt) : tl K (lX11_pair) 233 = o_icmp_ne 241 236 := rfl
set_option maxRecDepth 8000 in
theorem aX11_pair_236 (K : Kt) : tl K (lX11_pair) 236 = o_iload 5 238 := rfl
set_option maxRecDepth 8000 in
theorem aX11_pair_238 (K : Kt) : tl K (lX11_pair) 238 = o_goto 243 := rfl
set_option maxRecDepth 8000 in
theorem aX11_pair_241 (K : Kt) : tl K (lX11_pair) 241 = o_iload 6 243 := rfl
set_option maxRecDepth 8000 in
theorem aX11_pair_243 (K : Kt) : tl K (lX11_pair) 243 = o_iret K := rfl
theorem eX11_breachAt {As L : List Value} {w : Wd} {K : Kt} (hw : wds As ≤ 5) (hL : ent 5 As = L) (h : RR (tl K lX11_breachAt) 0 L [] w) : fX11_breachAt As w K := ⟨hw, by rw [hL]; exact h⟩
theorem nX11_breachAt : MonoF fX11_breachAt := mono_f 5 lX11_breachAt
theorem aX11_breachAt_0 (K : Kt) : tl K (lX11_breachAt) 0 = o_iload 1 1 := rfl
theorem aX11_breachAt_1 (K : Kt) : tl K (lX11_breachAt) 1 = o_istore 2 2 := rfl
theorem aX11_breachAt_2 (K : Kt) : tl K (lX11_breachAt) 2 = o_pushI (nI 0) 3 := rfl
theorem aX11_breachAt_3 (K : Kt) : tl K (lX11_breachAt) 3 = o_istore 3 4 := rfl
theorem aX11_breachAt_4 (K : Kt) : tl K (lX11_breachAt) 4 = o_iload 3 5 := rfl
theorem aX11_breachAt_5 (K : Kt) : tl K (lX11_breachAt) 5 = o_aload 0 6 := rfl
theorem aX11_breachAt_6 (K : Kt) : tl K (lX11_breachAt) 6 = o_get 11 7 9 := rfl
theorem aX11_breachAt_9 (K : Kt) : tl K (lX11_breachAt) 9 = o_pushI (nI 1) 10 := rfl
theorem aX11_breachAt_10 (K : Kt) : tl K (lX11_breachAt) 10 = o_iald 11 := rfl
theorem aX11_breachAt_11 (K : Kt) : tl K (lX11_breachAt) 11 = o_icmp_ge 68 14 := rfl
theorem aX11_breachAt_14 (K : Kt) : tl K (lX11_breachAt) 14 = o_pushI (nI 0) 15 := rfl
theorem aX11_breachAt_15 (K : Kt) : tl K (lX11_breachAt) 15 = o_istore 4 17 := rfl
theorem aX11_breachAt_17 (K : Kt) : tl K (lX11_breachAt) 17 = o_iload 4 19 := rfl
theorem aX11_breachAt_19 (K : Kt) : tl K (lX11_breachAt) 19 = o_aload 0 20 := rfl
theorem aX11_breachAt_20 (K : Kt) : tl K (lX11_breachAt) 20 = o_get 11 7 23 := rfl
theorem aX11_breachAt_23 (K : Kt) : tl K (lX11_breachAt) 23 = o_pushI (nI 106) 25 := rfl
theorem aX11_breachAt_25 (K : Kt) : tl K (lX11_breachAt) 25 = o_iload 3 26 := rfl
theorem aX11_breachAt_26 (K : Kt) : tl K (lX11_breachAt) 26 = o_iadd 27 := rfl
theorem aX11_breachAt_27 (K : Kt) : tl K (lX11_breachAt) 27 = o_iald 28 := rfl
theorem aX11_breachAt_28 (K : Kt) : tl K (lX11_breachAt) 28 = o_icmp_ge 62 31 := rfl
theorem aX11_breachAt_31 (K : Kt) : tl K (lX11_breachAt) 31 = o_aload 0 32 := rfl
theorem aX11_breachAt_32 (K : Kt) : tl K (lX11_breachAt) 32 = o_iload 3 33 := rfl
theorem aX11_breachAt_33 (K : Kt) : tl K (lX11_breachAt) 33 = o_iload 4 35 := rfl
theorem aX11_breachAt_35 (K : Kt) : tl K (lX11_breachAt) 35 = o_callV fX11_isAllowedAt 2 11 38 := rfl
theorem aX11_breachAt_38 (K : Kt) : tl K (lX11_breachAt) 38 = o_if_ne 56 41 := rfl
theorem aX11_breachAt_41 (K : Kt) : tl K (lX11_breachAt) 41 = o_iload 2 42 := rfl
theorem aX11_breachAt_42 (K : Kt) : tl K (lX11_breachAt) 42 = o_if_ne 53 45 := rfl
theorem aX11_breachAt_45 (K : Kt) : tl K (lX11_breachAt) 45 = o_aload 0 46 := rfl
theorem aX11_breachAt_46 (K : Kt) : tl K (lX11_breachAt) 46 = o_iload 3 47 := rfl
theorem aX11_breachAt_47 (K : Kt) : tl K (lX11_breachAt) 47 = o_iload 4 49 := rfl
theorem aX11_breachAt_49 (K : Kt) : tl K (lX11_breachAt) 49 = o_callV fX11_slot 2 11 52 := rfl
theorem aX11_breachAt_52 (K : Kt) : tl K (lX11_breachAt) 52 = o_iret K := rfl
theorem aX11_breachAt_53 (K : Kt) : tl K (lX11_breachAt) 53 = o_iinc 2 ((-1)) 56 := rfl
theorem aX11_breachAt_56 (K : Kt) : tl K (lX11_breachAt) 56 = o_iinc 4 (nI 1) 59 := rfl
theorem aX11_breachAt_59 (K : Kt) : tl K (lX11_breachAt) 59 = o_goto 17 := rfl
theorem aX11_breachAt_62 (K : Kt) : tl K (lX11_breachAt) 62 = o_iinc 3 (nI 1) 65 := rfl
theorem aX11_breachAt_65 (K : Kt) : tl K (lX11_breachAt) 65 = o_goto 4 := rfl
theorem aX11_breachAt_68 (K : Kt) : tl K (lX11_breachAt) 68 = o_pushI ((-2)) 70 := rfl
theorem aX11_breachAt_70 (K : Kt) : tl K (lX11_breachAt) 70 = o_iret K := rfl
theorem eX11_breaches {As L : List Value} {w : Wd} {K : Kt} (hw : wds As ≤ 2) (hL : ent 2 As = L) (h : RR (tl K lX11_breaches) 0 L [] w) : fX11_breaches As w K := ⟨hw, by rw [hL]; exact h⟩
theorem nX11_breaches : MonoF fX11_breaches := mono_f 2 lX11_breaches
theorem aX11_breaches_0 (K : Kt) : tl K (lX11_breaches) 0 = o_aload 0 1 := rfl
theorem aX11_breaches_1 (K : Kt) : tl K (lX11_breaches) 1 = o_aload 0 2 := rfl
theorem aX11_breaches_2 (K : Kt) : tl K (lX11_breaches) 2 = o_get 11 6 5 := rfl
theorem aX11_breaches_5 (K : Kt) : tl K (lX11_breaches) 5 = o_callS fX11_unless 1 8 := rfl
theorem aX11_breaches_8 (K : Kt) : tl K (lX11_breaches) 8 = o_callV fX11_isRefused 1 11 11 := rfl
theorem aX11_breaches_11 (K : Kt) : tl K (lX11_breaches) 11 = o_if_eq 16 14 := rfl
theorem aX11_breaches_14 (K : Kt) : tl K (lX11_breaches) 14 = o_pushI ((-1)) 15 := rfl
theorem aX11_breaches_15 (K : Kt) : tl K (lX11_breaches) 15 = o_iret K := rfl
theorem aX11_breaches_16 (K : Kt) : tl K (lX11_breaches) 16 = o_pushI (nI 0) 17 := rfl
theorem aX11_breaches_17 (K : Kt) : tl K (lX11_breaches) 17 = o_istore 1 18 := rfl
theorem aX11_breaches_18 (K : Kt) : tl K (lX11_breaches) 18 = o_aload 0 19 := rfl
theorem aX11_breaches_19 (K : Kt) : tl K (lX11_breaches) 19 = o_iload 1 20 := rfl
theorem aX11_breaches_20 (K : Kt) : tl K (lX11_breaches) 20 = o_callV fX11_breachAt 1 11 23 := rfl
theorem aX11_breaches_23 (K : Kt) : tl K (lX11_breaches) 23 = o_pushI ((-2)) 25 := rfl
theorem aX11_breaches_25 (K : Kt) : tl K (lX11_breaches) 25 = o_icmp_eq 34 28 := rfl
theorem aX11_breaches_28 (K : Kt) : tl K (lX11_breaches) 28 = o_iinc 1 (nI 1) 31 := rfl
theorem aX11_breaches_31 (K : Kt) : tl K (lX11_breaches) 31 = o_goto 18 := rfl
theorem aX11_breaches_34 (K : Kt) : tl K (lX11_breaches) 34 = o_iload 1 35 := rfl
theorem aX11_breaches_35 (K : Kt) : tl K (lX11_breaches) 35 = o_iret K := rfl
theorem eX11_breach {As L : List Value} {w : Wd} {K : Kt} (hw : wds As ≤ 2) (hL : ent 2 As = L) (h : RR (tl K lX11_breach) 0 L [] w) : fX11_breach As w K := ⟨hw, by rw [hL]; exact h⟩
theorem nX11_breach : MonoF fX11_breach := mono_f 2 lX11_breach
theorem aX11_breach_0 (K : Kt) : tl K (lX11_breach) 0 = o_aload 0 1 := rfl
theorem aX11_breach_1 (K : Kt) : tl K (lX11_breach) 1 = o_aload 0 2 := rfl
theorem aX11_breach_2 (K : Kt) : tl K (lX11_breach) 2 = o_get 11 6 5 := rfl
theorem aX11_breach_5 (K : Kt) : tl K (lX11_breach) 5 = o_if_eq 16 8 := rfl
theorem aX11_breach_8 (K : Kt) : tl K (lX11_breach) 8 = o_iload 1 9 := rfl
theorem aX11_breach_9 (K : Kt) : tl K (lX11_breach) 9 = o_if_lt 16 12 := rfl
theorem aX11_breach_12 (K : Kt) : tl K (lX11_breach) 12 = o_pushI (nI 1) 13 := rfl
theorem aX11_breach_13 (K : Kt) : tl K (lX11_breach) 13 = o_goto 17 := rfl
theorem aX11_breach_16 (K : Kt) : tl K (lX11_breach) 16 = o_pushI (nI 0) 17 := rfl
theorem aX11_breach_17 (K : Kt) : tl K (lX11_breach) 17 = o_callS fX11_unless 1 20 := rfl
theorem aX11_breach_20 (K : Kt) : tl K (lX11_breach) 20 = o_callV fX11_isRefused 1 11 23 := rfl
theorem aX11_breach_23 (K : Kt) : tl K (lX11_breach) 23 = o_if_eq 30 26 := rfl
theorem aX11_breach_26 (K : Kt) : tl K (lX11_breach) 26 = o_pushI ((-1)) 27 := rfl
theorem aX11_breach_27 (K : Kt) : tl K (lX11_breach) 27 = o_goto 35 := rfl
theorem aX11_breach_30 (K : Kt) : tl K (lX11_breach) 30 = o_aload 0 31 := rfl
theorem aX11_breach_31 (K : Kt) : tl K (lX11_breach) 31 = o_iload 1 32 := rfl
theorem aX11_breach_32 (K : Kt) : tl K (lX11_breach) 32 = o_callV fX11_breachAt 1 11 35 := rfl
theorem aX11_breach_35 (K : Kt) : tl K (lX11_breach) 35 = o_iret K := rfl
theorem eX11_work {As L : List Value} {w : Wd} {K : Kt} (hw : wds As ≤ 3) (hL : ent 3 As = L) (h : RR (tl K lX11_work) 0 L [] w) : fX11_work As w K := ⟨hw, by rw [hL]; exact h⟩
theorem nX11_work : MonoF fX11_work := mono_f 3 lX11_work
theorem aX11_work_0 (K : Kt) : tl K (lX11_work) 0 = o_aload 0 1 := rfl
theorem aX11_work_1 (K : Kt) : tl K (lX11_work) 1 = o_aload 0 2 := rfl
theorem aX11_work_2 (K : Kt) : tl K (lX11_work) 2 = o_iload 1 3 := rfl
theorem aX11_work_3 (K : Kt) : tl K (lX11_work) 3 = o_callV fX11_isArm 1 11 6 := rfl
theorem aX11_work_6 (K : Kt) : tl K (lX11_work) 6 = o_iload 2 7 := rfl
theorem aX11_work_7 (K : Kt) : tl K (lX11_work) 7 = o_pushI (nI 0) 8 := rfl
theorem aX11_work_8 (K : Kt) : tl K (lX11_work) 8 = o_pushI (nI 59) 10 := rfl
theorem aX11_work_10 (K : Kt) : tl K (lX11_work) 10 = o_callS fX11_in 3 13 := rfl
theorem aX11_work_13 (K : Kt) : tl K (lX11_work) 13 = o_callS fX11_unless_ 2 16 := rfl
theorem aX11_work_16 (K : Kt) : tl K (lX11_work) 16 = o_callV fX11_isRefused 1 11 19 := rfl
theorem aX11_work_19 (K : Kt) : tl K (lX11_work) 19 = o_if_eq 24 22 := rfl
theorem aX11_work_22 (K : Kt) : tl K (lX11_work) 22 = o_pushI ((-1)) 23 := rfl
theorem aX11_work_23 (K : Kt) : tl K (lX11_work) 23 = o_iret K := rfl
theorem aX11_work_24 (K : Kt) : tl K (lX11_work) 24 = o_aload 0 25 := rfl
theorem aX11_work_25 (K : Kt) : tl K (lX11_work) 25 = o_iload 1 26 := rfl
theorem aX11_work_26 (K : Kt) : tl K (lX11_work) 26 = o_pushI (nI 0) 27 := rfl
theorem aX11_work_27 (K : Kt) : tl K (lX11_work) 27 = o_pushI (nI 0) 28 := rfl
theorem aX11_work_28 (K : Kt) : tl K (lX11_work) 28 = o_callV fX11_laysDays 3 11 31 := rfl
theorem aX11_work_31 (K : Kt) : tl K (lX11_work) 31 = o_aload 0 32 := rfl
theorem aX11_work_32 (K : Kt) : tl K (lX11_work) 32 = o_iload 2 33 := rfl
theorem aX11_work_33 (K : Kt) : tl K (lX11_work) 33 = o_callV fX11_lately 1 11 36 := rfl
theorem aX11_work_36 (K : Kt) : tl K (lX11_work) 36 = o_iret K := rfl
theorem eX11_busiest {As L : List Value} {w : Wd} {K : Kt} (hw : wds As ≤ 5) (hL : ent 5 As = L) (h : RR (tl K lX11_busiest) 0 L [] w) : fX11_busiest As w K := ⟨hw, by rw [hL]; exact h⟩
theorem nX11_busiest : MonoF fX11_busiest := mono_f 5 lX11_busiest
theorem aX11_busiest_0 (K : Kt) : tl K (lX11_busiest) 0 = o_aload 0 1 := rfl
theorem aX11_busiest_1 (K : Kt) : tl K (lX11_busiest) 1 = o_aload 0 2 := rfl
theorem aX11_busiest_2 (K : Kt) : tl K (lX11_busiest) 2 = o_iload 1 3 := rfl
theorem aX11_busiest_3 (K : Kt) : tl K (lX11_busiest) 3 = o_callV fX11_isArm 1 11 6 := rfl
theorem aX11_busiest_6 (K : Kt) : tl K (lX11_busiest) 6 = o_if_eq 22 9 := rfl
theorem aX11_busiest_9 (K : Kt) : tl K (lX11_busiest) 9 = o_iload 2 10 := rfl
theorem aX11_busiest_10 (K : Kt) : tl K (lX11_busiest) 10 = o_pushI (nI 0) 11 := rfl
theorem aX11_busiest_11 (K : Kt) : tl K (lX11_busiest) 11 = o_pushI (nI 1) 12 := rfl
theorem aX11_busiest_12 (K : Kt) : tl K (lX11_busiest) 12 = o_callS fX11_in 3 15 := rfl
theorem aX11_busiest_15 (K : Kt) : tl K (lX11_busiest) 15 = o_if_eq 22 18 := rfl
theorem aX11_busiest_18 (K : Kt) : tl K (lX11_busiest) 18 = o_pushI (nI 1) 19 := rfl
theorem aX11_busiest_19 (K : Kt) : tl K (lX11_busiest) 19 = o_goto 23 := rfl
theorem aX11_busiest_22 (K : Kt) : tl K (lX11_busiest) 22 = o_pushI (nI 0) 23 := rfl
theorem aX11_busiest_23 (K : Kt) : tl K (lX11_busiest) 23 = o_callS fX11_unless 1 26 := rfl
theorem aX11_busiest_26 (K : Kt) : tl K (lX11_busiest) 26 = o_callV fX11_isRefused 1 11 29 := rfl
theorem aX11_busiest_29 (K : Kt) : tl K (lX11_busiest) 29 = o_if_eq 34 32 := rfl
theorem aX11_busiest_32 (K : Kt) : tl K (lX11_busiest) 32 = o_pushI ((-1)) 33 := rfl
theorem aX11_busiest_33 (K : Kt) : tl K (lX11_busiest) 33 = o_iret K := rfl
theorem aX11_busiest_34 (K : Kt) : tl K (lX11_busiest) 34 = o_aload 0 35 := rfl
theorem aX11_busiest_35 (K : Kt) : tl K (lX11_busiest) 35 = o_iload 1 36 := rfl
theorem aX11_busiest_36 (K : Kt) : tl K (lX11_busiest) 36 = o_pushI (nI 0) 37 := rfl
theorem aX11_busiest_37 (K : Kt) : tl K (lX11_busiest) 37 = o_pushI (nI 0) 38 := rfl
theorem aX11_busiest_38 (K : Kt) : tl K (lX11_busiest) 38 = o_callV fX11_laysDays 3 11 41 := rfl
theorem aX11_busiest_41 (K : Kt) : tl K (lX11_busiest) 41 = o_pushI (nI 0) 42 := rfl
theorem aX11_busiest_42 (K : Kt) : tl K (lX11_busiest) 42 = o_istore 3 43 := rfl
theorem aX11_busiest_43 (K : Kt) : tl K (lX11_busiest) 43 = o_pushI (nI 1) 44 := rfl
theorem aX11_busiest_44 (K : Kt) : tl K (lX11_busiest) 44 = o_istore 4 46 := rfl
theorem aX11_busiest_46 (K : Kt) : tl K (lX11_busiest) 46 = o_iload 4 48 := rfl
theorem aX11_busiest_48 (K : Kt) : tl K (lX11_busiest) 48 = o_pushI (nI 60) 50 := rfl
theorem aX11_busiest_50 (K : Kt) : tl K (lX11_busiest) 50 = o_icmp_ge 80 53 := rfl
theorem aX11_busiest_53 (K : Kt) : tl K (lX11_busiest) 53 = o_aload 0 54 := rfl
theorem aX11_busiest_54 (K : Kt) : tl K (lX11_busiest) 54 = o_iload 4 56 := rfl
theorem aX11_busiest_56 (K : Kt) : tl K (lX11_busiest) 56 = o_callV fX11_lately 1 11 59 := rfl
theorem aX11_busiest_59 (K : Kt) : tl K (lX11_busiest) 59 = o_aload 0 60 := rfl
theorem aX11_busiest_60 (K : Kt) : tl K (lX11_busiest) 60 = o_iload 3 61 := rfl
theorem aX11_busiest_61 (K : Kt) : tl K (lX11_busiest) 61 = o_callV fX11_lately 1 11 64 := rfl
theorem aX11_busiest_64 (K : Kt) : tl K (lX11_busiest) 64 = o_icmp_le 72 67 := rfl
theorem aX11_busiest_67 (K : Kt) : tl K (lX11_busiest) 67 = o_iload 4 69 := rfl
theorem aX11_busiest_69 (K : Kt) : tl K (lX11_busiest) 69 = o_goto 73 := rfl
theorem aX11_busiest_72 (K : Kt) : tl K (lX11_busiest) 72 = o_iload 3 73 := rfl
theorem aX11_busiest_73 (K : Kt) : tl K (lX11_busiest) 73 = o_istore 3 74 := rfl
theorem aX11_busiest_74 (K : Kt) : tl K (lX11_busiest) 74 = o_iinc 4 (nI 1) 77 := rfl
theorem aX11_busiest_77 (K : Kt) : tl K (lX11_busiest) 77 = o_goto 46 := rfl
theorem aX11_busiest_80 (K : Kt) : tl K (lX11_busiest) 80 = o_iload 2 81 := rfl
theorem aX11_busiest_81 (K : Kt) : tl K (lX11_busiest) 81 = o_if_ne 92 84 := rfl
theorem aX11_busiest_84 (K : Kt) : tl K (lX11_busiest) 84 = o_aload 0 85 := rfl
theorem aX11_busiest_85 (K : Kt) : tl K (lX11_busiest) 85 = o_iload 3 86 := rfl
theorem aX11_busiest_86 (K : Kt) : tl K (lX11_busiest) 86 = o_callV fX11_lately 1 11 89 := rfl
theorem aX11_busiest_89 (K : Kt) : tl K (lX11_busiest) 89 = o_goto 93 := rfl
theorem aX11_busiest_92 (K : Kt) : tl K (lX11_busiest) 92 = o_iload 3 93 := rfl
theorem aX11_busiest_93 (K : Kt) : tl K (lX11_busiest) 93 = o_iret K := rfl
theorem eX11_idle {As L : List Value} {w : Wd} {K : Kt} (hw : wds As ≤ 5) (hL : ent 5 As = L) (h : RR (tl K lX11_idle) 0 L [] w) : fX11_idle As w K := ⟨hw, by rw [hL]; exact h⟩
theorem nX11_idle : MonoF fX11_idle := mono_f 5 lX11_idle
theorem aX11_idle_0 (K : Kt) : tl K (lX11_idle) 0 = o_aload 0 1 := rfl
theorem aX11_idle_1 (K : Kt) : tl K (lX11_idle) 1 = o_aload 0 2 := rfl
theorem aX11_idle_2 (K : Kt) : tl K (lX11_idle) 2 = o_iload 1 3 := rfl
theorem aX11_idle_3 (K : Kt) : tl K (lX11_idle) 3 = o_callV fX11_isArm 1 11 6 := rfl
theorem aX11_idle_6 (K : Kt) : tl K (lX11_idle) 6 = o_callS fX11_unless 1 9 := rfl
theorem aX11_idle_9 (K : Kt) : tl K (lX11_idle) 9 = o_callV fX11_isRefused 1 11 12 := rfl
theorem aX11_idle_12 (K : Kt) : tl K (lX11_idle) 12 = o_if_eq 17 15 := rfl
theorem aX11_idle_15 (K : Kt) : tl K (lX11_idle) 15 = o_pushI ((-1)) 16 := rfl
theorem aX11_idle_16 (K : Kt) : tl K (lX11_idle) 16 = o_iret K := rfl
theorem aX11_idle_17 (K : Kt) : tl K (lX11_idle) 17 = o_aload 0 18 := rfl
theorem aX11_idle_18 (K : Kt) : tl K (lX11_idle) 18 = o_iload 1 19 := rfl
theorem aX11_idle_19 (K : Kt) : tl K (lX11_idle) 19 = o_pushI (nI 0) 20 := rfl
theorem aX11_idle_20 (K : Kt) : tl K (lX11_idle) 20 = o_pushI (nI 0) 21 := rfl
theorem aX11_idle_21 (K : Kt) : tl K (lX11_idle) 21 = o_callV fX11_laysDays 3 11 24 := rfl
theorem aX11_idle_24 (K : Kt) : tl K (lX11_idle) 24 = o_pushI (nI 0) 25 := rfl
theorem aX11_idle_25 (K : Kt) : tl K (lX11_idle) 25 = o_istore 2 26 := rfl
theorem aX11_idle_26 (K : Kt) : tl K (lX11_idle) 26 = o_pushI (nI 0) 27 := rfl
theorem aX11_idle_27 (K : Kt) : tl K (lX11_idle) 27 = o_istore 3 28 := rfl
theorem aX11_idle_28 (K : Kt) : tl K (lX11_idle) 28 = o_pushI (nI 0) 29 := rfl
theorem aX11_idle_29 (K : Kt) : tl K (lX11_idle) 29 = o_istore 4 31 := rfl
theorem aX11_idle_31 (K : Kt) : tl K (lX11_idle) 31 = o_iload 4 33 := rfl
theorem aX11_idle_33 (K : Kt) : tl K (lX11_idle) 33 = o_pushI (nI 60) 35 := rfl
theorem aX11_idle_35 (K : Kt) : tl K (lX11_idle) 35 = o_icmp_ge 73 38 := rfl
theorem aX11_idle_38 (K : Kt) : tl K (lX11_idle) 38 = o_aload 0 39 := rfl
theorem aX11_idle_39 (K : Kt) : tl K (lX11_idle) 39 = o_get 11 19 42 := rfl
theorem aX11_idle_42 (K : Kt) : tl K (lX11_idle) 42 = o_iload 4 44 := rfl
theorem aX11_idle_44 (K : Kt) : tl K (lX11_idle) 44 = o_iald 45 := rfl
theorem aX11_idle_45 (K : Kt) : tl K (lX11_idle) 45 = o_if_le 52 48 := rfl
theorem aX11_idle_48 (K : Kt) : tl K (lX11_idle) 48 = o_pushI (nI 0) 49 := rfl
theorem aX11_idle_49 (K : Kt) : tl K (lX11_idle) 49 = o_goto 55 := rfl
theorem aX11_idle_52 (K : Kt) : tl K (lX11_idle) 52 = o_iload 3 53 := rfl
theorem aX11_idle_53 (K : Kt) : tl K (lX11_idle) 53 = o_pushI (nI 1) 54 := rfl
theorem aX11_idle_54 (K : Kt) : tl K (lX11_idle) 54 = o_iadd 55 := rfl
theorem aX11_idle_55 (K : Kt) : tl K (lX11_idle) 55 = o_istore 3 56 := rfl
theorem aX11_idle_56 (K : Kt) : tl K (lX11_idle) 56 = o_iload 3 57 := rfl
theorem aX11_idle_57 (K : Kt) : tl K (lX11_idle) 57 = o_iload 2 58 := rfl
theorem aX11_idle_58 (K : Kt) : tl K (lX11_idle) 58 = o_icmp_le 65 61 := rfl
theorem aX11_idle_61 (K : Kt) : tl K (lX11_idle) 61 = o_iload 3 62 := rfl
theorem aX11_idle_62 (K : Kt) : tl K (lX11_idle) 62 = o_goto 66 := rfl
theorem aX11_idle_65 (K : Kt) : tl K (lX11_idle) 65 = o_iload 2 66 := rfl
theorem aX11_idle_66 (K : Kt) : tl K (lX11_idle) 66 = o_istore 2 67 := rfl
theorem aX11_idle_67 (K : Kt) : tl K (lX11_idle) 67 = o_iinc 4 (nI 1) 70 := rfl
theorem aX11_idle_70 (K : Kt) : tl K (lX11_idle) 70 = o_goto 31 := rfl
theorem aX11_idle_73 (K : Kt) : tl K (lX11_idle) 73 = o_iload 2 74 := rfl
theorem aX11_idle_74 (K : Kt) : tl K (lX11_idle) 74 = o_iret K := rfl
theorem eX11_gap {As L : List Value} {w : Wd} {K : Kt} (hw : wds As ≤ 6) (hL : ent 6 As = L) (h : RR (tl K lX11_gap) 0 L [] w) : fX11_gap As w K := ⟨hw, by rw [hL]; exact h⟩
theorem nX11_gap : MonoF fX11_gap := mono_f 6 lX11_gap
theorem aX11_gap_0 (K : Kt) : tl K (lX11_gap) 0 = o_aload 0 1 := rfl
theorem aX11_gap_1 (K : Kt) : tl K (lX11_gap) 1 = o_aload 0 2 := rfl
theorem aX11_gap_2 (K : Kt) : tl K (lX11_gap) 2 = o_iload 1 3 := rfl
theorem aX11_gap_3 (K : Kt) : tl K (lX11_gap) 3 = o_callV fX11_isArm 1 11 6 := rfl
theorem aX11_gap_6 (K : Kt) : tl K (lX11_gap) 6 = o_callS fX11_unless 1 9 := rfl
theorem aX11_gap_9 (K : Kt) : tl K (lX11_gap) 9 = o_callV fX11_isRefused 1 11 12 := rfl
theorem aX11_gap_12 (K : Kt) : tl K (lX11_gap) 12 = o_if_eq 17 15 := rfl
theorem aX11_gap_15 (K : Kt) : tl K (lX11_gap) 15 = o_pushI ((-1)) 16 := rfl
theorem aX11_gap_16 (K : Kt) : tl K (lX11_gap) 16 = o_iret K := rfl
theorem aX11_gap_17 (K : Kt) : tl K (lX11_gap) 17 = o_pushI ((-2)) 19 := rfl
theorem aX11_gap_19 (K : Kt) : tl K (lX11_gap) 19 = o_istore 2 20 := rfl
theorem aX11_gap_20 (K : Kt) : tl K (lX11_gap) 20 = o_pushI ((-2)) 22 := rfl
theorem aX11_gap_22 (K : Kt) : tl K (lX11_gap) 22 = o_istore 3 23 := rfl
theorem aX11_gap_23 (K : Kt) : tl K (lX11_gap) 23 = o_pushI (nI 0) 24 := rfl
theorem aX11_gap_24 (K : Kt) : tl K (lX11_gap) 24 = o_istore 4 26 := rfl
theorem aX11_gap_26 (K : Kt) : tl K (lX11_gap) 26 = o_iload 4 28 := rfl
theorem aX11_gap_28 (K : Kt) : tl K (lX11_gap) 28 = o_aload 0 29 := rfl
theorem aX11_gap_29 (K : Kt) : tl K (lX11_gap) 29 = o_get 11 7 32 := rfl
theorem aX11_gap_32 (K : Kt) : tl K (lX11_gap) 32 = o_pushI (nI 1) 33 := rfl
theorem aX11_gap_33 (K : Kt) : tl K (lX11_gap) 33 = o_iald 34 := rfl
theorem aX11_gap_34 (K : Kt) : tl K (lX11_gap) 34 = o_icmp_ge 103 37 := rfl
theorem aX11_gap_37 (K : Kt) : tl K (lX11_gap) 37 = o_aload 0 38 := rfl
theorem aX11_gap_38 (K : Kt) : tl K (lX11_gap) 38 = o_iload 1 39 := rfl
theorem aX11_gap_39 (K : Kt) : tl K (lX11_gap) 39 = o_iload 4 41 := rfl
theorem aX11_gap_41 (K : Kt) : tl K (lX11_gap) 41 = o_callV fX11_isIn 2 11 44 := rfl
theorem aX11_gap_44 (K : Kt) : tl K (lX11_gap) 44 = o_if_eq 97 47 := rfl
theorem aX11_gap_47 (K : Kt) : tl K (lX11_gap) 47 = o_aload 0 48 := rfl
theorem aX11_gap_48 (K : Kt) : tl K (lX11_gap) 48 = o_get 11 7 51 := rfl
theorem aX11_gap_51 (K : Kt) : tl K (lX11_gap) 51 = o_pushI (nI 46) 53 := rfl
theorem aX11_gap_53 (K : Kt) : tl K (lX11_gap) 53 = o_iload 4 55 := rfl
theorem aX11_gap_55 (K : Kt) : tl K (lX11_gap) 55 = o_iadd 56 := rfl
theorem aX11_gap_56 (K : Kt) : tl K (lX11_gap) 56 = o_iald 57 := rfl
theorem aX11_gap_57 (K : Kt) : tl K (lX11_gap) 57 = o_iload 3 58 := rfl
theorem aX11_gap_58 (K : Kt) : tl K (lX11_gap) 58 = o_isub 59 := rfl
theorem aX11_gap_59 (K : Kt) : tl K (lX11_gap) 59 = o_istore 5 61 := rfl
theorem aX11_gap_61 (K : Kt) : tl K (lX11_gap) 61 = o_iload 3 62 := rfl
theorem aX11_gap_62 (K : Kt) : tl K (lX11_gap) 62 = o_pushI ((-2)) 64 := rfl
theorem aX11_gap_64 (K : Kt) : tl K (lX11_gap) 64 = o_icmp_eq 84 67 := rfl
theorem aX11_gap_67 (K : Kt) : tl K (lX11_gap) 67 = o_iload 2 68 := rfl
theorem aX11_gap_68 (K : Kt) : tl K (lX11_gap) 68 = o_pushI ((-2)) 70 := rfl
theorem aX11_gap_70 (K : Kt) : tl K (lX11_gap) 70 = o_icmp_eq 79 73 := rfl
theorem aX11_gap_73 (K : Kt) : tl K (lX11_gap) 73 = o_iload 5 75 := rfl
theorem aX11_gap_75 (K : Kt) : tl K (lX11_gap) 75 = o_iload 2 76 := rfl
theorem aX11_gap_76 (K : Kt) : tl K (lX11_gap) 76 = o_icmp_ge 84 79 := rfl
theorem aX11_gap_79 (K : Kt) : tl K (lX11_gap) 79 = o_iload 5 81 := rfl
theorem aX11_gap_81 (K : Kt) : tl K (lX11_gap) 81 = o_goto 85 := rfl
theorem aX11_gap_84 (K : Kt) : tl K (lX11_gap) 84 = o_iload 2 85 := rfl
theorem aX11_gap_85 (K : Kt) : tl K (lX11_gap) 85 = o_istore 2 86 := rfl
theorem aX11_gap_86 (K : Kt) : tl K (lX11_gap) 86 = o_aload 0 87 := rfl
theorem aX11_gap_87 (K : Kt) : tl K (lX11_gap) 87 = o_get 11 7 90 := rfl
theorem aX11_gap_90 (K : Kt) : tl K (lX11_gap) 90 = o_pushI (nI 46) 92 := rfl
theorem aX11_gap_92 (K : Kt) : tl K (lX11_gap) 92 = o_iload 4 94 := rfl
theorem aX11_gap_94 (K : Kt) : tl K (lX11_gap) 94 = o_iadd 95 := rfl
theorem aX11_gap_95 (K : Kt) : tl K (lX11_gap) 95 = o_iald 96 := rfl
theorem aX11_gap_96 (K : Kt) : tl K (lX11_gap) 96 = o_istore 3 97 := rfl
theorem aX11_gap_97 (K : Kt) : tl K (lX11_gap) 97 = o_iinc 4 (nI 1) 100 := rfl
theorem aX11_gap_100 (K : Kt) : tl K (lX11_gap) 100 = o_goto 26 := rfl
theorem aX11_gap_103 (K : Kt) : tl K (lX11_gap) 103 = o_iload 2 104 := rfl
theorem aX11_gap_104 (K : Kt) : tl K (lX11_gap) 104 = o_iret K := rfl
theorem eX11_hands {As L : List Value} {w : Wd} {K : Kt} (hw : wds As ≤ 5) (hL : ent 5 As = L) (h : RR (tl K lX11_hands) 0 L [] w) : fX11_hands As w K := ⟨hw, by rw [hL]; exact h⟩
theorem nX11_hands : MonoF fX11_hands := mono_f 5 lX11_hands
theorem aX11_hands_0 (K : Kt) : tl K (lX11_hands) 0 = o_aload 0 1 := rfl
theorem aX11_hands_1 (K : Kt) : tl K (lX11_hands) 1 = o_aload 0 2 := rfl
theorem aX11_hands_2 (K : Kt) : tl K (lX11_hands) 2 = o_iload 1 3 := rfl
theorem aX11_hands_3 (K : Kt) : tl K (lX11_hands) 3 = o_callV fX11_isGame 1 11 6 := rfl
theorem aX11_hands_6 (K : Kt) : tl K (lX11_hands) 6 = o_callS fX11_unless 1 9 := rfl
theorem aX11_hands_9 (K : Kt) : tl K (lX11_hands) 9 = o_callV fX11_isRefused 1 11 12 := rfl
theorem aX11_hands_12 (K : Kt) : tl K (lX11_hands) 12 = o_if_eq 17 15 := rfl
theorem aX11_hands_15 (K : Kt) : tl K (lX11_hands) 15 = o_pushI ((-1)) 16 := rfl
theorem aX11_hands_16 (K : Kt) : tl K (lX11_hands) 16 = o_iret K := rfl
theorem aX11_hands_17 (K : Kt) : tl K (lX11_hands) 17 = o_pushI (nI 0) 18 := rfl
theorem aX11_hands_18 (K : Kt) : tl K (lX11_hands) 18 = o_istore 3 19 := rfl
theorem aX11_hands_19 (K : Kt) : tl K (lX11_hands) 19 = o_pushI (nI 0) 20 := rfl
theorem aX11_hands_20 (K : Kt) : tl K (lX11_hands) 20 = o_istore 4 22 := rfl
theorem aX11_hands_22 (K : Kt) : tl K (lX11_hands) 22 = o_iload 4 24 := rfl
theorem aX11_hands_24 (K : Kt) : tl K (lX11_hands) 24 = o_aload 0 25 := rfl
theorem aX11_hands_25 (K : Kt) : tl K (lX11_hands) 25 = o_get 11 7 28 := rfl
theorem aX11_hands_28 (K : Kt) : tl K (lX11_hands) 28 = o_pushI (nI 106) 30 := rfl
theorem aX11_hands_30 (K : Kt) : tl K (lX11_hands) 30 = o_iload 1 31 := rfl
theorem aX11_hands_31 (K : Kt) : tl K (lX11_hands) 31 = o_iadd 32 := rfl
theorem aX11_hands_32 (K : Kt) : tl K (lX11_hands) 32 = o_iald 33 := rfl
theorem aX11_hands_33 (K : Kt) : tl K (lX11_hands) 33 = o_icmp_ge 84 36 := rfl
theorem aX11_hands_36 (K : Kt) : tl K (lX11_hands) 36 = o_iload 3 37 := rfl
theorem aX11_hands_37 (K : Kt) : tl K (lX11_hands) 37 = o_aload 0 38 := rfl
theorem aX11_hands_38 (K : Kt) : tl K (lX11_hands) 38 = o_get 11 7 41 := rfl
theorem aX11_hands_41 (K : Kt) : tl K (lX11_hands) 41 = o_pushI (nI 6) 43 := rfl
theorem aX11_hands_43 (K : Kt) : tl K (lX11_hands) 43 = o_aload 0 44 := rfl
theorem aX11_hands_44 (K : Kt) : tl K (lX11_hands) 44 = o_iload 1 45 := rfl
theorem aX11_hands_45 (K : Kt) : tl K (lX11_hands) 45 = o_iload 4 47 := rfl
theorem aX11_hands_47 (K : Kt) : tl K (lX11_hands) 47 = o_callV fX11_who 2 11 50 := rfl
theorem aX11_hands_50 (K : Kt) : tl K (lX11_hands) 50 = o_iadd 51 := rfl
theorem aX11_hands_51 (K : Kt) : tl K (lX11_hands) 51 = o_iald 52 := rfl
theorem aX11_hands_52 (K : Kt) : tl K (lX11_hands) 52 = o_pushI (nI 1) 53 := rfl
theorem aX11_hands_53 (K : Kt) : tl K (lX11_hands) 53 = o_icmp_ne 60 56 := rfl
theorem aX11_hands_56 (K : Kt) : tl K (lX11_hands) 56 = o_pushI (nI 1) 57 := rfl
theorem aX11_hands_57 (K : Kt) : tl K (lX11_hands) 57 = o_goto 61 := rfl
theorem aX11_hands_60 (K : Kt) : tl K (lX11_hands) 60 = o_pushI (nI 0) 61 := rfl
theorem aX11_hands_61 (K : Kt) : tl K (lX11_hands) 61 = o_iload 2 62 := rfl
theorem aX11_hands_62 (K : Kt) : tl K (lX11_hands) 62 = o_icmp_ne 75 65 := rfl
theorem aX11_hands_65 (K : Kt) : tl K (lX11_hands) 65 = o_aload 0 66 := rfl
theorem aX11_hands_66 (K : Kt) : tl K (lX11_hands) 66 = o_iload 1 67 := rfl
theorem aX11_hands_67 (K : Kt) : tl K (lX11_hands) 67 = o_iload 4 69 := rfl
theorem aX11_hands_69 (K : Kt) : tl K (lX11_hands) 69 = o_callV fX11_throwsAt 2 11 72 := rfl
theorem aX11_hands_72 (K : Kt) : tl K (lX11_hands) 72 = o_goto 76 := rfl
theorem aX11_hands_75 (K : Kt) : tl K (lX11_hands) 75 = o_pushI (nI 0) 76 := rfl
theorem aX11_hands_76 (K : Kt) : tl K (lX11_hands) 76 = o_iadd 77 := rfl
theorem aX11_hands_77 (K : Kt) : tl K (lX11_hands) 77 = o_istore 3 78 := rfl
theorem aX11_hands_78 (K : Kt) : tl K (lX11_hands) 78 = o_iinc 4 (nI 1) 81 := rfl
theorem aX11_hands_81 (K : Kt) : tl K (lX11_hands) 81 = o_goto 22 := rfl
theorem aX11_hands_84 (K : Kt) : tl K (lX11_hands) 84 = o_iload 3 85 := rfl
theorem aX11_hands_85 (K : Kt) : tl K (lX11_hands) 85 = o_iret K := rfl
theorem eX11_bare {As L : List Value} {w : Wd} {K : Kt} (hw : wds As ≤ 4) (hL : ent 4 As = L) (h : RR (tl K lX11_bare) 0 L [] w) : fX11_bare As w K := ⟨hw, by rw [hL]; exact h⟩
theorem nX11_bare : MonoF fX11_bare := mono_f 4 lX11_bare
theorem aX11_bare_0 (K : Kt) : tl K (lX11_bare) 0 = o_aload 0 1 := rfl
theorem aX11_bare_1 (K : Kt) : tl K (lX11_bare) 1 = o_aload 0 2 := rfl
theorem aX11_bare_2 (K : Kt) : tl K (lX11_bare) 2 = o_get 11 6 5 := rfl
theorem aX11_bare_5 (K : Kt) : tl K (lX11_bare) 5 = o_if_eq 16 8 := rfl
theorem aX11_bare_8 (K : Kt) : tl K (lX11_bare) 8 = o_iload 1 9 := rfl
theorem aX11_bare_9 (K : Kt) : tl K (lX11_bare) 9 = o_if_lt 16 12 := rfl
theorem aX11_bare_12 (K : Kt) : tl K (lX11_bare) 12 = o_pushI (nI 1) 13 := rfl
theorem aX11_bare_13 (K : Kt) : tl K (lX11_bare) 13 = o_goto 17 := rfl
theorem aX11_bare_16 (K : Kt) : tl K (lX11_bare) 16 = o_pushI (nI 0) 17 := rfl
theorem aX11_bare_17 (K : Kt) : tl K (lX11_bare) 17 = o_callS fX11_unless 1 20 := rfl
theorem aX11_bare_20 (K : Kt) : tl K (lX11_bare) 20 = o_callV fX11_isRefused 1 11 23 := rfl
theorem aX11_bare_23 (K : Kt) : tl K (lX11_bare) 23 = o_if_eq 28 26 := rfl
theorem aX11_bare_26 (K : Kt) : tl K (lX11_bare) 26 = o_pushI ((-1)) 27 := rfl
theorem aX11_bare_27 (K : Kt) : tl K (lX11_bare) 27 = o_iret K := rfl
theorem aX11_bare_28 (K : Kt) : tl K (lX11_bare) 28 = o_iload 1 29 := rfl
theorem aX11_bare_29 (K : Kt) : tl K (lX11_bare) 29 = o_istore 2 30 := rfl
theorem aX11_bare_30 (K : Kt) : tl K (lX11_bare) 30 = o_pushI (nI 0) 31 := rfl
theorem aX11_bare_31 (K : Kt) : tl K (lX11_bare) 31 = o_istore 3 32 := rfl
theorem aX11_bare_32 (K : Kt) : tl K (lX11_bare) 32 = o_iload 3 33 := rfl
theorem aX11_bare_33 (K : Kt) : tl K (lX11_bare) 33 = o_aload 0 34 := rfl
theorem aX11_bare_34 (K : Kt) : tl K (lX11_bare) 34 = o_get 11 7 37 := rfl
theorem aX11_bare_37 (K : Kt) : tl K (lX11_bare) 37 = o_pushI (nI 1) 38 := rfl
theorem aX11_bare_38 (K : Kt) : tl K (lX11_bare) 38 = o_iald 39 := rfl
theorem aX11_bare_39 (K : Kt) : tl K (lX11_bare) 39 = o_icmp_ge 69 42 := rfl
theorem aX11_bare_42 (K : Kt) : tl K (lX11_bare) 42 = o_aload 0 43 := rfl
theorem aX11_bare_43 (K : Kt) : tl K (lX11_bare) 43 = o_get 11 7 46 := rfl
theorem aX11_bare_46 (K : Kt) : tl K (lX11_bare) 46 = o_pushI (nI 106) 48 := rfl
theorem aX11_bare_48 (K : Kt) : tl K (lX11_bare) 48 = o_iload 3 49 := rfl
theorem aX11_bare_49 (K : Kt) : tl K (lX11_bare) 49 = o_iadd 50 := rfl
theorem aX11_bare_50 (K : Kt) : tl K (lX11_bare) 50 = o_iald 51 := rfl
theorem aX11_bare_51 (K : Kt) : tl K (lX11_bare) 51 = o_if_ne 63 54 := rfl
theorem aX11_bare_54 (K : Kt) : tl K (lX11_bare) 54 = o_iload 2 55 := rfl
theorem aX11_bare_55 (K : Kt) : tl K (lX11_bare) 55 = o_if_ne 60 58 := rfl
theorem aX11_bare_58 (K : Kt) : tl K (lX11_bare) 58 = o_iload 3 59 := rfl
theorem aX11_bare_59 (K : Kt) : tl K (lX11_bare) 59 = o_iret K := rfl
theorem aX11_bare_60 (K : Kt) : tl K (lX11_bare) 60 = o_iinc 2 ((-1)) 63 := rfl
theorem aX11_bare_63 (K : Kt) : tl K (lX11_bare) 63 = o_iinc 3 (nI 1) 66 := rfl
theorem aX11_bare_66 (K : Kt) : tl K (lX11_bare) 66 = o_goto 32 := rfl
theorem aX11_bare_69 (K : Kt) : tl K (lX11_bare) 69 = o_pushI ((-2)) 71 := rfl
theorem aX11_bare_71 (K : Kt) : tl K (lX11_bare) 71 = o_iret K := rfl
theorem eX11_common {As L : List Value} {w : Wd} {K : Kt} (hw : wds As ≤ 10) (hL : ent 10 As = L) (h : RR (tl K lX11_common) 0 L [] w) : fX11_common As w K := ⟨hw, by rw [hL]; exact h⟩
theorem nX11_common : MonoF fX11_common := mono_f 10 lX11_common
theorem aX11_common_0 (K : Kt) : tl K (lX11_common) 0 = o_lload 0 1 := rfl
theorem aX11_common_1 (K : Kt) : tl K (lX11_common) 1 = o_lstore 4 3 := rfl
theorem aX11_common_3 (K : Kt) : tl K (lX11_common) 3 = o_lload 2 4 := rfl
theorem aX11_common_4 (K : Kt) : tl K (lX11_common) 4 = o_lstore 6 6 := rfl
theorem aX11_common_6 (K : Kt) : tl K (lX11_common) 6 = o_lload 6 8 := rfl
theorem aX11_common_8 (K : Kt) : tl K (lX11_common) 8 = o_pushL (lN 0) 9 := rfl
theorem aX11_common_9 (K : Kt) : tl K (lX11_common) 9 = o_lcmp 10 := rfl
theorem aX11_common_10 (K : Kt) : tl K (lX11_common) 10 = o_if_eq 31 13 := rfl
theorem aX11_common_13 (K : Kt) : tl K (lX11_common) 13 = o_lload 4 15 := rfl
theorem aX11_common_15 (K : Kt) : tl K (lX11_common) 15 = o_lload 6 17 := rfl
theorem aX11_common_17 (K : Kt) : tl K (lX11_common) 17 = o_lrem 18 := rfl
theorem aX11_common_18 (K : Kt) : tl K (lX11_common) 18 = o_lstore 8 20 := rfl
theorem aX11_common_20 (K : Kt) : tl K (lX11_common) 20 = o_lload 6 22 := rfl
theorem aX11_common_22 (K : Kt) : tl K (lX11_common) 22 = o_lstore 4 24 := rfl
theorem aX11_common_24 (K : Kt) : tl K (lX11_common) 24 = o_lload 8 26 := rfl
theorem aX11_common_26 (K : Kt) : tl K (lX11_common) 26 = o_lstore 6 28 := rfl
theorem aX11_common_28 (K : Kt) : tl K (lX11_common) 28 = o_goto 6 := rfl
theorem aX11_common_31 (K : Kt) : tl K (lX11_common) 31 = o_lload 4 33 := rfl
theorem aX11_common_33 (K : Kt) : tl K (lX11_common) 33 = o_lret K := rfl
theorem eX11_sound {As L : List Value} {w : Wd} {K : Kt} (hw : wds As ≤ 11) (hL : ent 11 As = L) (h : RR (tl K lX11_sound) 0 L [] w) : fX11_sound As w K := ⟨hw, by rw [hL]; exact h⟩
theorem nX11_sound : MonoF fX11_sound := mono_f 11 lX11_sound
theorem aX11_sound_0 (K : Kt) : tl K (lX11_sound) 0 = o_aload 0 1 := rfl
theorem aX11_sound_1 (K : Kt) : tl K (lX11_sound) 1 = o_iload 1 2 := rfl
theorem aX11_sound_2 (K : Kt) : tl K (lX11_sound) 2 = o_callV fX11_isArm 1 11 5 := rfl
theorem aX11_sound_5 (K : Kt) : tl K (lX11_sound) 5 = o_if_eq 21 8 := rfl
theorem aX11_sound_8 (K : Kt) : tl K (lX11_sound) 8 = o_iload 2 9 := rfl
theorem aX11_sound_9 (K : Kt) : tl K (lX11_sound) 9 = o_pushI (nI 0) 10 := rfl
theorem aX11_sound_10 (K : Kt) : tl K (lX11_sound) 10 = o_pushI (nI 1) 11 := rfl
theorem aX11_sound_11 (K : Kt) : tl K (lX11_sound) 11 = o_callS fX11_in 3 14 := rfl
theorem aX11_sound_14 (K : Kt) : tl K (lX11_sound) 14 = o_if_eq 21 17 := rfl
theorem aX11_sound_17 (K : Kt) : tl K (lX11_sound) 17 = o_pushI (nI 1) 18 := rfl
theorem aX11_sound_18 (K : Kt) : tl K (lX11_sound) 18 = o_goto 22 := rfl
theorem aX11_sound_21 (K : Kt) : tl K (lX11_sound) 21 = o_pushI (nI 0) 22 := rfl
theorem aX11_sound_22 (K : Kt) : tl K (lX11_sound) 22 = o_callS fX11_unless 1 25 := rfl
theorem aX11_sound_25 (K : Kt) : tl K (lX11_sound) 25 = o_istore 3 26 := rfl
theorem aX11_sound_26 (K : Kt) : tl K (lX11_sound) 26 = o_aload 0 27 := rfl
theorem aX11_sound_27 (K : Kt) : tl K (lX11_sound) 27 = o_iload 3 28 := rfl
theorem aX11_sound_28 (K : Kt) : tl K (lX11_sound) 28 = o_if_eq 35 31 := rfl
theorem aX11_sound_31 (K : Kt) : tl K (lX11_sound) 31 = o_iload 3 32 := rfl
theorem aX11_sound_32 (K : Kt) : tl K (lX11_sound) 32 = o_goto 51 := rfl
theorem aX11_sound_35 (K : Kt) : tl K (lX11_sound) 35 = o_aload 0 36 := rfl
theorem aX11_sound_36 (K : Kt) : tl K (lX11_sound) 36 = o_iload 1 37 := rfl
theorem aX11_sound_37 (K : Kt) : tl K (lX11_sound) 37 = o_pushI (nI 1) 38 := rfl
theorem aX11_sound_38 (K : Kt) : tl K (lX11_sound) 38 = o_callV fX11_sumOf 2 11 41 := rfl
theorem aX11_sound_41 (K : Kt) : tl K (lX11_sound) 41 = o_pushI (nI 6) 43 := rfl
theorem aX11_sound_43 (K : Kt) : tl K (lX11_sound) 43 = o_icmp_le 50 46 := rfl
theorem aX11_sound_46 (K : Kt) : tl K (lX11_sound) 46 = o_pushI (nI 5) 47 := rfl
theorem aX11_sound_47 (K : Kt) : tl K (lX11_sound) 47 = o_goto 51 := rfl
theorem aX11_sound_50 (K : Kt) : tl K (lX11_sound) 50 = o_pushI (nI 0) 51 := rfl
theorem aX11_sound_51 (K : Kt) : tl K (lX11_sound) 51 = o_callV fX11_isRefused 1 11 54 := rfl
theorem aX11_sound_54 (K : Kt) : tl K (lX11_sound) 54 = o_if_eq 61 57 := rfl
theorem aX11_sound_57 (K : Kt) : tl K (lX11_sound) 57 = o_pushL ((-1)) 60 := rfl
theorem aX11_sound_60 (K : Kt) : tl K (lX11_sound) 60 = o_lret K := rfl
theorem aX11_sound_61 (K : Kt) : tl K (lX11_sound) 61 = o_pushL (lN 1) 62 := rfl
theorem aX11_sound_62 (K : Kt) : tl K (lX11_sound) 62 = o_lstore 4 64 := rfl
theorem aX11_sound_64 (K : Kt) : tl K (lX11_sound) 64 = o_pushL (lN 1) 65 := rfl
theorem aX11_sound_65 (K : Kt) : tl K (lX11_sound) 65 = o_lstore 6 67 := rfl
theorem aX11_sound_67 (K : Kt) : tl K (lX11_sound) 67 = o_pushI (nI 0) 68 := rfl
theorem aX11_sound_68 (K : Kt) : tl K (lX11_sound) 68 = o_istore 8 70 := rfl
theorem aX11_sound_70 (K : Kt) : tl K (lX11_sound) 70 = o_iload 8 72 := rfl
theorem aX11_sound_72 (K : Kt) : tl K (lX11_sound) 72 = o_aload 0 73 := rfl
theorem aX11_sound_73 (K : Kt) : tl K (lX11_sound) 73 = o_get 11 7 76 := rfl
theorem aX11_sound_76 (K : Kt) : tl K (lX11_sound) 76 = o_pushI (nI 1) 77 := rfl
theorem aX11_sound_77 (K : Kt) : tl K (lX11_sound) 77 = o_iald 78 := rfl
theorem aX11_sound_78 (K : Kt) : tl K (lX11_sound) 78 = o_icmp_ge 167 81 := rfl
theorem aX11_sound_81 (K : Kt) : tl K (lX11_sound) 81 = o_pushI (nI 0) 82 := rfl
theorem aX11_sound_82 (K : Kt) : tl K (lX11_sound) 82 = o_istore 9 84 := rfl
theorem aX11_sound_84 (K : Kt) : tl K (lX11_sound) 84 = o_iload 9 86 := rfl
theorem aX11_sound_86 (K : Kt) : tl K (lX11_sound) 86 = o_aload 0 87 := rfl
theorem aX11_sound_87 (K : Kt) : tl K (lX11_sound) 87 = o_get 11 7 90 := rfl
theorem aX11_sound_90 (K : Kt) : tl K (lX11_sound) 90 = o_pushI (nI 106) 92 := rfl
theorem aX11_sound_92 (K : Kt) : tl K (lX11_sound) 92 = o_iload 8 94 := rfl
theorem aX11_sound_94 (K : Kt) : tl K (lX11_sound) 94 = o_iadd 95 := rfl
theorem aX11_sound_95 (K : Kt) : tl K (lX11_sound) 95 = o_iald 96 := rfl
theorem aX11_sound_96 (K : Kt) : tl K (lX11_sound) 96 = o_icmp_ge 161 99 := rfl
theorem aX11_sound_99 (K : Kt) : tl K (lX11_sound) 99 = o_aload 0 100 := rfl
theorem aX11_sound_100 (K : Kt) : tl K (lX11_sound) 100 = o_iload 8 102 := rfl
theorem aX11_sound_102 (K : Kt) : tl K (lX11_sound) 102 = o_iload 9 104 := rfl
theorem aX11_sound_104 (K : Kt) : tl K (lX11_sound) 104 = o_callV fX11_who 2 11 107 := rfl
theorem aX11_sound_107 (K : Kt) : tl K (lX11_sound) 107 = o_iload 1 108 := rfl
theorem aX11_sound_108 (K : Kt) : tl K (lX11_sound) 108 = o_icmp_ne 155 111 := rfl
theorem aX11_sound_111 (K : Kt) : tl K (lX11_sound) 111 = o_pushI (nI 1000) 114 := rfl
set_option maxRecDepth 8000 in
theorem aX11_sound_114 (K : Kt) : tl K (lX11_sound) 114 = o_aload 0 115 := rfl
set_option maxRecDepth 8000 in
theorem aX11_sound_115 (K : Kt) : tl K (lX11_sound) 115 = o_iload 1 116 := rfl
set_option maxRecDepth 8000 in
theorem aX11_sound_116 (K : Kt) : tl K (lX11_sound) 116 = o_aload 0 117 := rfl
set_option maxRecDepth 8000 in
theorem aX11_sound_117 (K : Kt) : tl K (lX11_sound) 117 = o_iload 8 119 := rfl
set_option maxRecDepth 8000 in
theorem aX11_sound_119 (K : Kt) : tl K (lX11_sound) 119 = o_iload 9 121 := rfl
set_option maxRecDepth 8000 in
theorem aX11_sound_121 (K : Kt) : tl K (lX11_sound) 121 = o_callV fX11_throwsAt 2 11 124 := rfl
set_option maxRecDepth 8000 in
theorem aX11_sound_124 (K : Kt) : tl K (lX11_sound) 124 = o_callV fX11_riskOf 2 11 127 := rfl
set_option maxRecDepth 8000 in
theorem aX11_sound_127 (K : Kt) : tl K (lX11_sound) 127 = o_isub 128 := rfl
set_option maxRecDepth 8000 in
theorem aX11_sound_128 (K : Kt) : tl K (lX11_sound) 128 = o_istore 10 130 := rfl
set_option maxRecDepth 8000 in
theorem aX11_sound_130 (K : Kt) : tl K (lX11_sound) 130 = o_lload 4 132 := rfl
set_option maxRecDepth 8000 in
theorem aX11_sound_132 (K : Kt) : tl K (lX11_sound) 132 = o_iload 10 134 := rfl
set_option maxRecDepth 8000 in
theorem aX11_sound_134 (K : Kt) : tl K (lX11_sound) 134 = o_if_ge 141 137 := rfl
set_option maxRecDepth 8000 in
theorem aX11_sound_137 (K : Kt) : tl K (lX11_sound) 137 = o_pushL (lN 0) 138 := rfl
set_option maxRecDepth 8000 in
theorem aX11_sound_138 (K : Kt) : tl K (lX11_sound) 138 = o_goto 144 := rfl
set_option maxRecDepth 8000 in
theorem aX11_sound_141 (K : Kt) : tl K (lX11_sound) 141 = o_iload 10 143 := rfl
set_option maxRecDepth 8000 in
theorem aX11_sound_143 (K : Kt) : tl K (lX11_sound) 143 = o_i2l 144 := rfl
set_option maxRecDepth 8000 in
theorem aX11_sound_144 (K : Kt) : tl K (lX11_sound) 144 = o_lmul 145 := rfl
set_option maxRecDepth 8000 in
theorem aX11_sound_145 (K : Kt) : tl K (lX11_sound) 145 = o_lstore 4 147 := rfl
set_option maxRecDepth 8000 in
theorem aX11_sound_147 (K : Kt) : tl K (lX11_sound) 147 = o_lload 6 149 := rfl
set_option maxRecDepth 8000 in
theorem aX11_sound_149 (K : Kt) : tl K (lX11_sound) 149 = o_pushL (lN 1000) 152 := rfl
set_option maxRecDepth 8000 in
theorem aX11_sound_152 (K : Kt) : tl K (lX11_sound) 152 = o_lmul 153 := rfl
set_option maxRecDepth 8000 in
theorem aX11_sound_153 (K : Kt) : tl K (lX11_sound) 153 = o_lstore 6 155 := rfl
set_option maxRecDepth 8000 in
theorem aX11_sound_155 (K : Kt) : tl K (lX11_sound) 155 = o_iinc 9 (nI 1) 158 := rfl
set_option maxRecDepth 8000 in
theorem aX11_sound_158 (K : Kt) : tl K (lX11_sound) 158 = o_goto 84 := rfl
set_option maxRecDepth 8000 in
theorem aX11_sound_161 (K : Kt) : tl K (lX11_sound) 161 = o_iinc 8 (nI 1) 164 := rfl
set_option maxRecDepth 8000 in
theorem aX11_sound_164 (K : Kt) : tl K (lX11_sound) 164 = o_goto 70 := rfl
set_option maxRecDepth 8000 in
theorem aX11_sound_167 (K : Kt) : tl K (lX11_sound) 167 = o_iload 2 168 := rfl
set_option maxRecDepth 8000 in
theorem aX11_sound_168 (K : Kt) : tl K (lX11_sound) 168 = o_if_ne 176 171 := rfl
set_option maxRecDepth 8000 in
theorem aX11_sound_171 (K : Kt) : tl K (lX11_sound) 171 = o_lload 4 173 := rfl
set_option maxRecDepth 8000 in
theorem aX11_sound_173 (K : Kt) : tl K (lX11_sound) 173 = o_goto 178 := rfl
set_option maxRecDepth 8000 in
theorem aX11_sound_176 (K : Kt) : tl K (lX11_sound) 176 = o_lload 6 178 := rfl
set_option maxRecDepth 8000 in
theorem aX11_sound_178 (K : Kt) : tl K (lX11_sound) 178 = o_lload 6 180 := rfl
set_option maxRecDepth 8000 in
theorem aX11_sound_180 (K : Kt) : tl K (lX11_sound) 180 = o_lload 4 182 := rfl
set_option maxRecDepth 8000 in
theorem aX11_sound_182 (K : Kt) : tl K (lX11_sound) 182 = o_callS fX11_common 2 185 := rfl
set_option maxRecDepth 8000 in
theorem aX11_sound_185 (K : Kt) : tl K (lX11_sound) 185 = o_ldiv 186 := rfl
set_option maxRecDepth 8000 in
theorem aX11_sound_186 (K : Kt) : tl K (lX11_sound) 186 = o_lret K := rfl
theorem eX11_risk {As L : List Value} {w : Wd} {K : Kt} (hw : wds As ≤ 2) (hL : ent 2 As = L) (h : RR (tl K lX11_risk) 0 L [] w) : fX11_risk As w K := ⟨hw, by rw [hL]; exact h⟩
theorem nX11_risk : MonoF fX11_risk := mono_f 2 lX11_risk
theorem aX11_risk_0 (K : Kt) : tl K (lX11_risk) 0 = o_aload 0 1 := rfl
theorem aX11_risk_1 (K : Kt) : tl K (lX11_risk) 1 = o_aload 0 2 := rfl
theorem aX11_risk_2 (K : Kt) : tl K (lX11_risk) 2 = o_iload 1 3 := rfl
theorem aX11_risk_3 (K : Kt) : tl K (lX11_risk) 3 = o_callV fX11_isArm 1 11 6 := rfl
theorem aX11_risk_6 (K : Kt) : tl K (lX11_risk) 6 = o_callS fX11_unless 1 9 := rfl
theorem aX11_risk_9 (K : Kt) : tl K (lX11_risk) 9 = o_callV fX11_isRefused 1 11 12 := rfl
theorem aX11_risk_12 (K : Kt) : tl K (lX11_risk) 12 = o_if_eq 19 15 := rfl
theorem aX11_risk_15 (K : Kt) : tl K (lX11_risk) 15 = o_pushI ((-1)) 16 := rfl
theorem aX11_risk_16 (K : Kt) : tl K (lX11_risk) 16 = o_goto 25 := rfl
theorem aX11_risk_19 (K : Kt) : tl K (lX11_risk) 19 = o_aload 0 20 := rfl
theorem aX11_risk_20 (K : Kt) : tl K (lX11_risk) 20 = o_iload 1 21 := rfl
theorem aX11_risk_21 (K : Kt) : tl K (lX11_risk) 21 = o_pushI (nI 3) 22 := rfl
theorem aX11_risk_22 (K : Kt) : tl K (lX11_risk) 22 = o_callV fX11_sumOf 2 11 25 := rfl
theorem aX11_risk_25 (K : Kt) : tl K (lX11_risk) 25 = o_iret K := rfl
theorem eX11_goes {As L : List Value} {w : Wd} {K : Kt} (hw : wds As ≤ 7) (hL : ent 7 As = L) (h : RR (tl K lX11_goes) 0 L [] w) : fX11_goes As w K := ⟨hw, by rw [hL]; exact h⟩
theorem nX11_goes : MonoF fX11_goes := mono_f 7 lX11_goes
theorem aX11_goes_0 (K : Kt) : tl K (lX11_goes) 0 = o_pushI (nI 0) 1 := rfl
theorem aX11_goes_1 (K : Kt) : tl K (lX11_goes) 1 = o_istore 2 2 := rfl
theorem aX11_goes_2 (K : Kt) : tl K (lX11_goes) 2 = o_iload 2 3 := rfl
theorem aX11_goes_3 (K : Kt) : tl K (lX11_goes) 3 = o_pushI (nI 8) 5 := rfl
theorem aX11_goes_5 (K : Kt) : tl K (lX11_goes) 5 = o_icmp_ge 21 8 := rfl
theorem aX11_goes_8 (K : Kt) : tl K (lX11_goes) 8 = o_aload 0 9 := rfl
theorem aX11_goes_9 (K : Kt) : tl K (lX11_goes) 9 = o_get 11 22 12 := rfl
theorem aX11_goes_12 (K : Kt) : tl K (lX11_goes) 12 = o_iload 2 13 := rfl
theorem aX11_goes_13 (K : Kt) : tl K (lX11_goes) 13 = o_pushI ((-1)) 14 := rfl
theorem aX11_goes_14 (K : Kt) : tl K (lX11_goes) 14 = o_iast 15 := rfl
theorem aX11_goes_15 (K : Kt) : tl K (lX11_goes) 15 = o_iinc 2 (nI 1) 18 := rfl
theorem aX11_goes_18 (K : Kt) : tl K (lX11_goes) 18 = o_goto 2 := rfl
theorem aX11_goes_21 (K : Kt) : tl K (lX11_goes) 21 = o_pushI (nI 0) 22 := rfl
theorem aX11_goes_22 (K : Kt) : tl K (lX11_goes) 22 = o_istore 2 23 := rfl
theorem aX11_goes_23 (K : Kt) : tl K (lX11_goes) 23 = o_iload 2 24 := rfl
theorem aX11_goes_24 (K : Kt) : tl K (lX11_goes) 24 = o_pushI (nI 5) 25 := rfl
theorem aX11_goes_25 (K : Kt) : tl K (lX11_goes) 25 = o_icmp_ge 51 28 := rfl
theorem aX11_goes_28 (K : Kt) : tl K (lX11_goes) 28 = o_aload 0 29 := rfl
theorem aX11_goes_29 (K : Kt) : tl K (lX11_goes) 29 = o_get 11 23 32 := rfl
theorem aX11_goes_32 (K : Kt) : tl K (lX11_goes) 32 = o_iload 2 33 := rfl
theorem aX11_goes_33 (K : Kt) : tl K (lX11_goes) 33 = o_iload 2 34 := rfl
theorem aX11_goes_34 (K : Kt) : tl K (lX11_goes) 34 = o_pushI (nI 4) 35 := rfl
theorem aX11_goes_35 (K : Kt) : tl K (lX11_goes) 35 = o_icmp_ne 43 38 := rfl
theorem aX11_goes_38 (K : Kt) : tl K (lX11_goes) 38 = o_pushI ((-2)) 40 := rfl
theorem aX11_goes_40 (K : Kt) : tl K (lX11_goes) 40 = o_goto 44 := rfl
theorem aX11_goes_43 (K : Kt) : tl K (lX11_goes) 43 = o_pushI (nI 0) 44 := rfl
theorem aX11_goes_44 (K : Kt) : tl K (lX11_goes) 44 = o_iast 45 := rfl
theorem aX11_goes_45 (K : Kt) : tl K (lX11_goes) 45 = o_iinc 2 (nI 1) 48 := rfl
theorem aX11_goes_48 (K : Kt) : tl K (lX11_goes) 48 = o_goto 23 := rfl
theorem aX11_goes_51 (K : Kt) : tl K (lX11_goes) 51 = o_iload 1 52 := rfl
theorem aX11_goes_52 (K : Kt) : tl K (lX11_goes) 52 = o_i2l 53 := rfl
theorem aX11_goes_53 (K : Kt) : tl K (lX11_goes) 53 = o_lstore 2 54 := rfl
theorem aX11_goes_54 (K : Kt) : tl K (lX11_goes) 54 = o_pushI (nI 0) 55 := rfl
theorem aX11_goes_55 (K : Kt) : tl K (lX11_goes) 55 = o_istore 4 57 := rfl
theorem aX11_goes_57 (K : Kt) : tl K (lX11_goes) 57 = o_iload 4 59 := rfl
theorem aX11_goes_59 (K : Kt) : tl K (lX11_goes) 59 = o_aload 0 60 := rfl
theorem aX11_goes_60 (K : Kt) : tl K (lX11_goes) 60 = o_get 11 7 63 := rfl
theorem aX11_goes_63 (K : Kt) : tl K (lX11_goes) 63 = o_pushI (nI 1) 64 := rfl
theorem aX11_goes_64 (K : Kt) : tl K (lX11_goes) 64 = o_iald 65 := rfl
theorem aX11_goes_65 (K : Kt) : tl K (lX11_goes) 65 = o_icmp_ge 275 68 := rfl
theorem aX11_goes_68 (K : Kt) : tl K (lX11_goes) 68 = o_pushI (nI 0) 69 := rfl
theorem aX11_goes_69 (K : Kt) : tl K (lX11_goes) 69 = o_istore 5 71 := rfl
theorem aX11_goes_71 (K : Kt) : tl K (lX11_goes) 71 = o_iload 5 73 := rfl
theorem aX11_goes_73 (K : Kt) : tl K (lX11_goes) 73 = o_aload 0 74 := rfl
theorem aX11_goes_74 (K : Kt) : tl K (lX11_goes) 74 = o_get 11 7 77 := rfl
theorem aX11_goes_77 (K : Kt) : tl K (lX11_goes) 77 = o_pushI (nI 106) 79 := rfl
theorem aX11_goes_79 (K : Kt) : tl K (lX11_goes) 79 = o_iload 4 81 := rfl
theorem aX11_goes_81 (K : Kt) : tl K (lX11_goes) 81 = o_iadd 82 := rfl
theorem aX11_goes_82 (K : Kt) : tl K (lX11_goes) 82 = o_iald 83 := rfl
theorem aX11_goes_83 (K : Kt) : tl K (lX11_goes) 83 = o_icmp_ge 269 86 := rfl
theorem aX11_goes_86 (K : Kt) : tl K (lX11_goes) 86 = o_aload 0 87 := rfl
theorem aX11_goes_87 (K : Kt) : tl K (lX11_goes) 87 = o_iload 4 89 := rfl
theorem aX11_goes_89 (K : Kt) : tl K (lX11_goes) 89 = o_iload 5 91 := rfl
theorem aX11_goes_91 (K : Kt) : tl K (lX11_goes) 91 = o_callV fX11_who 2 11 94 := rfl
theorem aX11_goes_94 (K : Kt) : tl K (lX11_goes) 94 = o_istore 6 96 := rfl
theorem aX11_goes_96 (K : Kt) : tl K (lX11_goes) 96 = o_aload 0 97 := rfl
theorem aX11_goes_97 (K : Kt) : tl K (lX11_goes) 97 = o_get 11 7 100 := rfl
theorem aX11_goes_100 (K : Kt) : tl K (lX11_goes) 100 = o_pushI (nI 46) 102 := rfl
theorem aX11_goes_102 (K : Kt) : tl K (lX11_goes) 102 = o_iload 4 104 := rfl
theorem aX11_goes_104 (K : Kt) : tl K (lX11_goes) 104 = o_iadd 105 := rfl
theorem aX11_goes_105 (K : Kt) : tl K (lX11_goes) 105 = o_iald 106 := rfl
set_option maxRecDepth 8000 in
theorem aX11_goes_106 (K : Kt) : tl K (lX11_goes) 106 = o_aload 0 107 := rfl
set_option maxRecDepth 8000 in
theorem aX11_goes_107 (K : Kt) : tl K (lX11_goes) 107 = o_get 11 22 110 := rfl
set_option maxRecDepth 8000 in
theorem aX11_goes_110 (K : Kt) : tl K (lX11_goes) 110 = o_iload 6 112 := rfl
set_option maxRecDepth 8000 in
theorem aX11_goes_112 (K : Kt) : tl K (lX11_goes) 112 = o_iald 113 := rfl
set_option maxRecDepth 8000 in
theorem aX11_goes_113 (K : Kt) : tl K (lX11_goes) 113 = o_icmp_gt 129 116 := rfl
set_option maxRecDepth 8000 in
theorem aX11_goes_116 (K : Kt) : tl K (lX11_goes) 116 = o_aload 0 117 := rfl
set_option maxRecDepth 8000 in
theorem aX11_goes_117 (K : Kt) : tl K (lX11_goes) 117 = o_get 11 23 120 := rfl
set_option maxRecDepth 8000 in
theorem aX11_goes_120 (K : Kt) : tl K (lX11_goes) 120 = o_pushI (nI 2) 121 := rfl
set_option maxRecDepth 8000 in
theorem aX11_goes_121 (K : Kt) : tl K (lX11_goes) 121 = o_dup2 122 := rfl
set_option maxRecDepth 8000 in
theorem aX11_goes_122 (K : Kt) : tl K (lX11_goes) 122 = o_iald 123 := rfl
set_option maxRecDepth 8000 in
theorem aX11_goes_123 (K : Kt) : tl K (lX11_goes) 123 = o_pushI (nI 1) 124 := rfl
set_option maxRecDepth 8000 in
theorem aX11_goes_124 (K : Kt) : tl K (lX11_goes) 124 = o_iadd 125 := rfl
set_option maxRecDepth 8000 in
theorem aX11_goes_125 (K : Kt) : tl K (lX11_goes) 125 = o_iast 126 := rfl
set_option maxRecDepth 8000 in
theorem aX11_goes_126 (K : Kt) : tl K (lX11_goes) 126 = o_goto 263 := rfl
set_option maxRecDepth 8000 in
theorem aX11_goes_129 (K : Kt) : tl K (lX11_goes) 129 = o_aload 0 130 := rfl
set_option maxRecDepth 8000 in
theorem aX11_goes_130 (K : Kt) : tl K (lX11_goes) 130 = o_get 11 23 133 := rfl
set_option maxRecDepth 8000 in
theorem aX11_goes_133 (K : Kt) : tl K (lX11_goes) 133 = o_pushI (nI 3) 134 := rfl
set_option maxRecDepth 8000 in
theorem aX11_goes_134 (K : Kt) : tl K (lX11_goes) 134 = o_dup2 135 := rfl
set_option maxRecDepth 8000 in
theorem aX11_goes_135 (K : Kt) : tl K (lX11_goes) 135 = o_iald 136 := rfl
set_option maxRecDepth 8000 in
theorem aX11_goes_136 (K : Kt) : tl K (lX11_goes) 136 = o_aload 0 137 := rfl
set_option maxRecDepth 8000 in
theorem aX11_goes_137 (K : Kt) : tl K (lX11_goes) 137 = o_iload 6 139 := rfl
set_option maxRecDepth 8000 in
theorem aX11_goes_139 (K : Kt) : tl K (lX11_goes) 139 = o_iload 4 141 := rfl
set_option maxRecDepth 8000 in
theorem aX11_goes_141 (K : Kt) : tl K (lX11_goes) 141 = o_aload 0 142 := rfl
set_option maxRecDepth 8000 in
theorem aX11_goes_142 (K : Kt) : tl K (lX11_goes) 142 = o_iload 4 144 := rfl
set_option maxRecDepth 8000 in
theorem aX11_goes_144 (K : Kt) : tl K (lX11_goes) 144 = o_iload 5 146 := rfl
set_option maxRecDepth 8000 in
theorem aX11_goes_146 (K : Kt) : tl K (lX11_goes) 146 = o_callV fX11_throwsAt 2 11 149 := rfl
set_option maxRecDepth 8000 in
theorem aX11_goes_149 (K : Kt) : tl K (lX11_goes) 149 = o_callV fX11_worthOf 3 11 152 := rfl
set_option maxRecDepth 8000 in
theorem aX11_goes_152 (K : Kt) : tl K (lX11_goes) 152 = o_iadd 153 := rfl
set_option maxRecDepth 8000 in
theorem aX11_goes_153 (K : Kt) : tl K (lX11_goes) 153 = o_iast 154 := rfl
set_option maxRecDepth 8000 in
theorem aX11_goes_154 (K : Kt) : tl K (lX11_goes) 154 = o_lload 2 155 := rfl
set_option maxRecDepth 8000 in
theorem aX11_goes_155 (K : Kt) : tl K (lX11_goes) 155 = o_pushL (lN 16807) 158 := rfl
set_option maxRecDepth 8000 in
theorem aX11_goes_158 (K : Kt) : tl K (lX11_goes) 158 = o_lmul 159 := rfl
set_option maxRecDepth 8000 in
theorem aX11_goes_159 (K : Kt) : tl K (lX11_goes) 159 = o_pushL (lN 2147483647) 162 := rfl
set_option maxRecDepth 8000 in
theorem aX11_goes_162 (K : Kt) : tl K (lX11_goes) 162 = o_lrem 163 := rfl
set_option maxRecDepth 8000 in
theorem aX11_goes_163 (K : Kt) : tl K (lX11_goes) 163 = o_lstore 2 164 := rfl
set_option maxRecDepth 8000 in
theorem aX11_goes_164 (K : Kt) : tl K (lX11_goes) 164 = o_lload 2 165 := rfl
set_option maxRecDepth 8000 in
theorem aX11_goes_165 (K : Kt) : tl K (lX11_goes) 165 = o_pushL (lN 1000) 168 := rfl
set_option maxRecDepth 8000 in
theorem aX11_goes_168 (K : Kt) : tl K (lX11_goes) 168 = o_lrem 169 := rfl
set_option maxRecDepth 8000 in
theorem aX11_goes_169 (K : Kt) : tl K (lX11_goes) 169 = o_aload 0 170 := rfl
set_option maxRecDepth 8000 in
theorem aX11_goes_170 (K : Kt) : tl K (lX11_goes) 170 = o_iload 6 172 := rfl
set_option maxRecDepth 8000 in
theorem aX11_goes_172 (K : Kt) : tl K (lX11_goes) 172 = o_aload 0 173 := rfl
set_option maxRecDepth 8000 in
theorem aX11_goes_173 (K : Kt) : tl K (lX11_goes) 173 = o_iload 4 175 := rfl
set_option maxRecDepth 8000 in
theorem aX11_goes_175 (K : Kt) : tl K (lX11_goes) 175 = o_iload 5 177 := rfl
set_option maxRecDepth 8000 in
theorem aX11_goes_177 (K : Kt) : tl K (lX11_goes) 177 = o_callV fX11_throwsAt 2 11 180 := rfl
set_option maxRecDepth 8000 in
theorem aX11_goes_180 (K : Kt) : tl K (lX11_goes) 180 = o_callV fX11_riskOf 2 11 183 := rfl
set_option maxRecDepth 8000 in
theorem aX11_goes_183 (K : Kt) : tl K (lX11_goes) 183 = o_i2l 184 := rfl
set_option maxRecDepth 8000 in
theorem aX11_goes_184 (K : Kt) : tl K (lX11_goes) 184 = o_lcmp 185 := rfl
set_option maxRecDepth 8000 in
theorem aX11_goes_185 (K : Kt) : tl K (lX11_goes) 185 = o_if_ge 263 188 := rfl
set_option maxRecDepth 8000 in
theorem aX11_goes_188 (K : Kt) : tl K (lX11_goes) 188 = o_aload 0 189 := rfl
set_option maxRecDepth 8000 in
theorem aX11_goes_189 (K : Kt) : tl K (lX11_goes) 189 = o_get 11 23 192 := rfl
set_option maxRecDepth 8000 in
theorem aX11_goes_192 (K : Kt) : tl K (lX11_goes) 192 = o_pushI (nI 0) 193 := rfl
set_option maxRecDepth 8000 in
theorem aX11_goes_193 (K : Kt) : tl K (lX11_goes) 193 = o_dup2 194 := rfl
set_option maxRecDepth 8000 in
theorem aX11_goes_194 (K : Kt) : tl K (lX11_goes) 194 = o_iald 195 := rfl
set_option maxRecDepth 8000 in
theorem aX11_goes_195 (K : Kt) : tl K (lX11_goes) 195 = o_pushI (nI 1) 196 := rfl
set_option maxRecDepth 8000 in
theorem aX11_goes_196 (K : Kt) : tl K (lX11_goes) 196 = o_iadd 197 := rfl
set_option maxRecDepth 8000 in
theorem aX11_goes_197 (K : Kt) : tl K (lX11_goes) 197 = o_iast 198 := rfl
set_option maxRecDepth 8000 in
theorem aX11_goes_198 (K : Kt) : tl K (lX11_goes) 198 = o_aload 0 199 := rfl
set_option maxRecDepth 8000 in
theorem aX11_goes_199 (K : Kt) : tl K (lX11_goes) 199 = o_get 11 23 202 := rfl
set_option maxRecDepth 8000 in
theorem aX11_goes_202 (K : Kt) : tl K (lX11_goes) 202 = o_pushI (nI 1) 203 := rfl
set_option maxRecDepth 8000 in
theorem aX11_goes_203 (K : Kt) : tl K (lX11_goes) 203 = o_dup2 204 := rfl
set_option maxRecDepth 8000 in
theorem aX11_goes_204 (K : Kt) : tl K (lX11_goes) 204 = o_iald 205 := rfl
set_option maxRecDepth 8000 in
theorem aX11_goes_205 (K : Kt) : tl K (lX11_goes) 205 = o_pushI (nI 1) 206 := rfl
set_option maxRecDepth 8000 in
theorem aX11_goes_206 (K : Kt) : tl K (lX11_goes) 206 = o_iload 6 208 := rfl
set_option maxRecDepth 8000 in
theorem aX11_goes_208 (K : Kt) : tl K (lX11_goes) 208 = o_ishl 209 := rfl
set_option maxRecDepth 8000 in
theorem aX11_goes_209 (K : Kt) : tl K (lX11_goes) 209 = o_ior 210 := rfl
set_option maxRecDepth 8000 in
theorem aX11_goes_210 (K : Kt) : tl K (lX11_goes) 210 = o_iast 211 := rfl
set_option maxRecDepth 8000 in
theorem aX11_goes_211 (K : Kt) : tl K (lX11_goes) 211 = o_aload 0 212 := rfl
set_option maxRecDepth 8000 in
theorem aX11_goes_212 (K : Kt) : tl K (lX11_goes) 212 = o_get 11 23 215 := rfl
set_option maxRecDepth 8000 in
theorem aX11_goes_215 (K : Kt) : tl K (lX11_goes) 215 = o_pushI (nI 4) 216 := rfl
set_option maxRecDepth 8000 in
theorem aX11_goes_216 (K : Kt) : tl K (lX11_goes) 216 = o_aload 0 217 := rfl
set_option maxRecDepth 8000 in
theorem aX11_goes_217 (K : Kt) : tl K (lX11_goes) 217 = o_get 11 23 220 := rfl
set_option maxRecDepth 8000 in
theorem aX11_goes_220 (K : Kt) : tl K (lX11_goes) 220 = o_pushI (nI 4) 221 := rfl
set_option maxRecDepth 8000 in
theorem aX11_goes_221 (K : Kt) : tl K (lX11_goes) 221 = o_iald 222 := rfl
set_option maxRecDepth 8000 in
theorem aX11_goes_222 (K : Kt) : tl K (lX11_goes) 222 = o_pushI ((-2)) 224 := rfl
set_option maxRecDepth 8000 in
theorem aX11_goes_224 (K : Kt) : tl K (lX11_goes) 224 = o_icmp_ne 232 227 := rfl
set_option maxRecDepth 8000 in
theorem aX11_goes_227 (K : Kt) : tl K (lX11_goes) 227 = o_iload 4 229 := rfl
set_option maxRecDepth 8000 in
theorem aX11_goes_229 (K : Kt) : tl K (lX11_goes) 229 = o_goto 238 := rfl
set_option maxRecDepth 8000 in
theorem aX11_goes_232 (K : Kt) : tl K (lX11_goes) 232 = o_aload 0 233 := rfl
set_option maxRecDepth 8000 in
theorem aX11_goes_233 (K : Kt) : tl K (lX11_goes) 233 = o_get 11 23 236 := rfl
set_option maxRecDepth 8000 in
theorem aX11_goes_236 (K : Kt) : tl K (lX11_goes) 236 = o_pushI (nI 4) 237 := rfl
set_option maxRecDepth 8000 in
theorem aX11_goes_237 (K : Kt) : tl K (lX11_goes) 237 = o_iald 238 := rfl
set_option maxRecDepth 8000 in
theorem aX11_goes_238 (K : Kt) : tl K (lX11_goes) 238 = o_iast 239 := rfl
set_option maxRecDepth 8000 in
theorem aX11_goes_239 (K : Kt) : tl K (lX11_goes) 239 = o_aload 0 240 := rfl
set_option maxRecDepth 8000 in
theorem aX11_goes_240 (K : Kt) : tl K (lX11_goes) 240 = o_get 11 22 243 := rfl
set_option maxRecDepth 8000 in
theorem aX11_goes_243 (K : Kt) : tl K (lX11_goes) 243 = o_iload 6 245 := rfl
set_option maxRecDepth 8000 in
theorem aX11_goes_245 (K : Kt) : tl K (lX11_goes) 245 = o_aload 0 246 := rfl
set_option maxRecDepth 8000 in
theorem aX11_goes_246 (K : Kt) : tl K (lX11_goes) 246 = o_get 11 7 249 := rfl
set_option maxRecDepth 8000 in
theorem aX11_goes_249 (K : Kt) : tl K (lX11_goes) 249 = o_pushI (nI 46) 251 := rfl
set_option maxRecDepth 8000 in
theorem aX11_goes_251 (K : Kt) : tl K (lX11_goes) 251 = o_iload 4 253 := rfl
set_option maxRecDepth 8000 in
theorem aX11_goes_253 (K : Kt) : tl K (lX11_goes) 253 = o_iadd 254 := rfl
set_option maxRecDepth 8000 in
theorem aX11_goes_254 (K : Kt) : tl K (lX11_goes) 254 = o_iald 255 := rfl
set_option maxRecDepth 8000 in
theorem aX11_goes_255 (K : Kt) : tl K (lX11_goes) 255 = o_aload 0 256 := rfl
set_option maxRecDepth 8000 in
theorem aX11_goes_256 (K : Kt) : tl K (lX11_goes) 256 = o_get 11 7 259 := rfl
set_option maxRecDepth 8000 in
theorem aX11_goes_259 (K : Kt) : tl K (lX11_goes) 259 = o_pushI (nI 5) 260 := rfl
set_option maxRecDepth 8000 in
theorem aX11_goes_260 (K : Kt) : tl K (lX11_goes) 260 = o_iald 261 := rfl
set_option maxRecDepth 8000 in
theorem aX11_goes_261 (K : Kt) : tl K (lX11_goes) 261 = o_iadd 262 := rfl
set_option maxRecDepth 8000 in
theorem aX11_goes_262 (K : Kt) : tl K (lX11_goes) 262 = o_iast 263 := rfl
set_option maxRecDepth 8000 in
theorem aX11_goes_263 (K : Kt) : tl K (lX11_goes) 263 = o_iinc 5 (nI 1) 266 := rfl
set_option maxRecDepth 8000 in
theorem aX11_goes_266 (K : Kt) : tl K (lX11_goes) 266 = o_goto 71 := rfl
set_option maxRecDepth 8000 in
theorem aX11_goes_269 (K : Kt) : tl K (lX11_goes) 269 = o_iinc 4 (nI 1) 272 := rfl
set_option maxRecDepth 8000 in
theorem aX11_goes_272 (K : Kt) : tl K (lX11_goes) 272 = o_goto 57 := rfl
set_option maxRecDepth 8000 in
theorem aX11_goes_275 (K : Kt) : tl K (lX11_goes) 275 = o_vret K := rfl
theorem eX11_season {As L : List Value} {w : Wd} {K : Kt} (hw : wds As ≤ 3) (hL : ent 3 As = L) (h : RR (tl K lX11_season) 0 L [] w) : fX11_season As w K := ⟨hw, by rw [hL]; exact h⟩
theorem nX11_season : MonoF fX11_season := mono_f 3 lX11_season
theorem aX11_season_0 (K : Kt) : tl K (lX11_season) 0 = o_aload 0 1 := rfl
theorem aX11_season_1 (K : Kt) : tl K (lX11_season) 1 = o_aload 0 2 := rfl
theorem aX11_season_2 (K : Kt) : tl K (lX11_season) 2 = o_get 11 6 5 := rfl
theorem aX11_season_5 (K : Kt) : tl K (lX11_season) 5 = o_if_eq 21 8 := rfl
theorem aX11_season_8 (K : Kt) : tl K (lX11_season) 8 = o_iload 2 9 := rfl
theorem aX11_season_9 (K : Kt) : tl K (lX11_season) 9 = o_pushI (nI 0) 10 := rfl
theorem aX11_season_10 (K : Kt) : tl K (lX11_season) 10 = o_pushI (nI 4) 11 := rfl
theorem aX11_season_11 (K : Kt) : tl K (lX11_season) 11 = o_callS fX11_in 3 14 := rfl
theorem aX11_season_14 (K : Kt) : tl K (lX11_season) 14 = o_if_eq 21 17 := rfl
theorem aX11_season_17 (K : Kt) : tl K (lX11_season) 17 = o_pushI (nI 1) 18 := rfl
theorem aX11_season_18 (K : Kt) : tl K (lX11_season) 18 = o_goto 22 := rfl
theorem aX11_season_21 (K : Kt) : tl K (lX11_season) 21 = o_pushI (nI 0) 22 := rfl
theorem aX11_season_22 (K : Kt) : tl K (lX11_season) 22 = o_iload 1 23 := rfl
theorem aX11_season_23 (K : Kt) : tl K (lX11_season) 23 = o_pushI (nI 1) 24 := rfl
theorem aX11_season_24 (K : Kt) : tl K (lX11_season) 24 = o_pushI (nI 2147483646) 27 := rfl
theorem aX11_season_27 (K : Kt) : tl K (lX11_season) 27 = o_callS fX11_in 3 30 := rfl
theorem aX11_season_30 (K : Kt) : tl K (lX11_season) 30 = o_callS fX11_unless_ 2 33 := rfl
theorem aX11_season_33 (K : Kt) : tl K (lX11_season) 33 = o_callV fX11_isRefused 1 11 36 := rfl
theorem aX11_season_36 (K : Kt) : tl K (lX11_season) 36 = o_if_eq 41 39 := rfl
theorem aX11_season_39 (K : Kt) : tl K (lX11_season) 39 = o_pushI ((-1)) 40 := rfl
theorem aX11_season_40 (K : Kt) : tl K (lX11_season) 40 = o_iret K := rfl
theorem aX11_season_41 (K : Kt) : tl K (lX11_season) 41 = o_aload 0 42 := rfl
theorem aX11_season_42 (K : Kt) : tl K (lX11_season) 42 = o_iload 1 43 := rfl
theorem aX11_season_43 (K : Kt) : tl K (lX11_season) 43 = o_callV fX11_goes 1 11 46 := rfl
theorem aX11_season_46 (K : Kt) : tl K (lX11_season) 46 = o_aload 0 47 := rfl
theorem aX11_season_47 (K : Kt) : tl K (lX11_season) 47 = o_get 11 23 50 := rfl
theorem aX11_season_50 (K : Kt) : tl K (lX11_season) 50 = o_iload 2 51 := rfl
theorem aX11_season_51 (K : Kt) : tl K (lX11_season) 51 = o_iald 52 := rfl
theorem aX11_season_52 (K : Kt) : tl K (lX11_season) 52 = o_iret K := rfl
theorem eX11_span {As L : List Value} {w : Wd} {K : Kt} (hw : wds As ≤ 9) (hL : ent 9 As = L) (h : RR (tl K lX11_span) 0 L [] w) : fX11_span As w K := ⟨hw, by rw [hL]; exact h⟩
theorem nX11_span : MonoF fX11_span := mono_f 9 lX11_span
theorem aX11_span_0 (K : Kt) : tl K (lX11_span) 0 = o_iload 2 1 := rfl
theorem aX11_span_1 (K : Kt) : tl K (lX11_span) 1 = o_pushI (nI 1) 2 := rfl
theorem aX11_span_2 (K : Kt) : tl K (lX11_span) 2 = o_pushI (nI 100) 4 := rfl
theorem aX11_span_4 (K : Kt) : tl K (lX11_span) 4 = o_callS fX11_in 3 7 := rfl
theorem aX11_span_7 (K : Kt) : tl K (lX11_span) 7 = o_if_eq 36 10 := rfl
theorem aX11_span_10 (K : Kt) : tl K (lX11_span) 10 = o_iload 1 11 := rfl
theorem aX11_span_11 (K : Kt) : tl K (lX11_span) 11 = o_pushI (nI 1) 12 := rfl
theorem aX11_span_12 (K : Kt) : tl K (lX11_span) 12 = o_pushI (nI 2147483646) 15 := rfl
theorem aX11_span_15 (K : Kt) : tl K (lX11_span) 15 = o_callS fX11_in 3 18 := rfl
theorem aX11_span_18 (K : Kt) : tl K (lX11_span) 18 = o_if_eq 36 21 := rfl
theorem aX11_span_21 (K : Kt) : tl K (lX11_span) 21 = o_iload 2 22 := rfl
theorem aX11_span_22 (K : Kt) : tl K (lX11_span) 22 = o_pushI (nI 1) 23 := rfl
theorem aX11_span_23 (K : Kt) : tl K (lX11_span) 23 = o_isub 24 := rfl
theorem aX11_span_24 (K : Kt) : tl K (lX11_span) 24 = o_pushI (nI 2147483646) 27 := rfl
theorem aX11_span_27 (K : Kt) : tl K (lX11_span) 27 = o_iload 1 28 := rfl
theorem aX11_span_28 (K : Kt) : tl K (lX11_span) 28 = o_isub 29 := rfl
theorem aX11_span_29 (K : Kt) : tl K (lX11_span) 29 = o_icmp_gt 36 32 := rfl
theorem aX11_span_32 (K : Kt) : tl K (lX11_span) 32 = o_pushI (nI 1) 33 := rfl
theorem aX11_span_33 (K : Kt) : tl K (lX11_span) 33 = o_goto 37 := rfl
theorem aX11_span_36 (K : Kt) : tl K (lX11_span) 36 = o_pushI (nI 0) 37 := rfl
theorem aX11_span_37 (K : Kt) : tl K (lX11_span) 37 = o_istore 4 39 := rfl
theorem aX11_span_39 (K : Kt) : tl K (lX11_span) 39 = o_aload 0 40 := rfl
theorem aX11_span_40 (K : Kt) : tl K (lX11_span) 40 = o_aload 0 41 := rfl
theorem aX11_span_41 (K : Kt) : tl K (lX11_span) 41 = o_get 11 6 44 := rfl
theorem aX11_span_44 (K : Kt) : tl K (lX11_span) 44 = o_if_eq 60 47 := rfl
theorem aX11_span_47 (K : Kt) : tl K (lX11_span) 47 = o_iload 3 48 := rfl
theorem aX11_span_48 (K : Kt) : tl K (lX11_span) 48 = o_pushI (nI 0) 49 := rfl
theorem aX11_span_49 (K : Kt) : tl K (lX11_span) 49 = o_pushI (nI 2) 50 := rfl
theorem aX11_span_50 (K : Kt) : tl K (lX11_span) 50 = o_callS fX11_in 3 53 := rfl
theorem aX11_span_53 (K : Kt) : tl K (lX11_span) 53 = o_if_eq 60 56 := rfl
theorem aX11_span_56 (K : Kt) : tl K (lX11_span) 56 = o_pushI (nI 1) 57 := rfl
theorem aX11_span_57 (K : Kt) : tl K (lX11_span) 57 = o_goto 61 := rfl
theorem aX11_span_60 (K : Kt) : tl K (lX11_span) 60 = o_pushI (nI 0) 61 := rfl
theorem aX11_span_61 (K : Kt) : tl K (lX11_span) 61 = o_iload 4 63 := rfl
theorem aX11_span_63 (K : Kt) : tl K (lX11_span) 63 = o_callS fX11_unless_ 2 66 := rfl
theorem aX11_span_66 (K : Kt) : tl K (lX11_span) 66 = o_callV fX11_isRefused 1 11 69 := rfl
theorem aX11_span_69 (K : Kt) : tl K (lX11_span) 69 = o_if_eq 74 72 := rfl
theorem aX11_span_72 (K : Kt) : tl K (lX11_span) 72 = o_pushI ((-1)) 73 := rfl
theorem aX11_span_73 (K : Kt) : tl K (lX11_span) 73 = o_iret K := rfl
theorem aX11_span_74 (K : Kt) : tl K (lX11_span) 74 = o_pushI (nI 0) 75 := rfl
theorem aX11_span_75 (K : Kt) : tl K (lX11_span) 75 = o_istore 5 77 := rfl
theorem aX11_span_77 (K : Kt) : tl K (lX11_span) 77 = o_pushI (nI 0) 78 := rfl
theorem aX11_span_78 (K : Kt) : tl K (lX11_span) 78 = o_istore 6 80 := rfl
theorem aX11_span_80 (K : Kt) : tl K (lX11_span) 80 = o_pushI (nI 0) 81 := rfl
theorem aX11_span_81 (K : Kt) : tl K (lX11_span) 81 = o_istore 7 83 := rfl
theorem aX11_span_83 (K : Kt) : tl K (lX11_span) 83 = o_pushI (nI 0) 84 := rfl
theorem aX11_span_84 (K : Kt) : tl K (lX11_span) 84 = o_istore 8 86 := rfl
theorem aX11_span_86 (K : Kt) : tl K (lX11_span) 86 = o_iload 8 88 := rfl
theorem aX11_span_88 (K : Kt) : tl K (lX11_span) 88 = o_iload 2 89 := rfl
theorem aX11_span_89 (K : Kt) : tl K (lX11_span) 89 = o_icmp_ge 178 92 := rfl
theorem aX11_span_92 (K : Kt) : tl K (lX11_span) 92 = o_aload 0 93 := rfl
theorem aX11_span_93 (K : Kt) : tl K (lX11_span) 93 = o_iload 1 94 := rfl
theorem aX11_span_94 (K : Kt) : tl K (lX11_span) 94 = o_iload 8 96 := rfl
theorem aX11_span_96 (K : Kt) : tl K (lX11_span) 96 = o_iadd 97 := rfl
theorem aX11_span_97 (K : Kt) : tl K (lX11_span) 97 = o_callV fX11_goes 1 11 100 := rfl
theorem aX11_span_100 (K : Kt) : tl K (lX11_span) 100 = o_iload 5 102 := rfl
theorem aX11_span_102 (K : Kt) : tl K (lX11_span) 102 = o_aload 0 103 := rfl
theorem aX11_span_103 (K : Kt) : tl K (lX11_span) 103 = o_get 11 23 106 := rfl
theorem aX11_span_106 (K : Kt) : tl K (lX11_span) 106 = o_pushI (nI 0) 107 := rfl
theorem aX11_span_107 (K : Kt) : tl K (lX11_span) 107 = o_iald 108 := rfl
theorem aX11_span_108 (K : Kt) : tl K (lX11_span) 108 = o_if_ne 115 111 := rfl
set_option maxRecDepth 8000 in
theorem aX11_span_111 (K : Kt) : tl K (lX11_span) 111 = o_pushI (nI 1) 112 := rfl
set_option maxRecDepth 8000 in
theorem aX11_span_112 (K : Kt) : tl K (lX11_span) 112 = o_goto 116 := rfl
set_option maxRecDepth 8000 in
theorem aX11_span_115 (K : Kt) : tl K (lX11_span) 115 = o_pushI (nI 0) 116 := rfl
set_option maxRecDepth 8000 in
theorem aX11_span_116 (K : Kt) : tl K (lX11_span) 116 = o_iadd 117 := rfl
set_option maxRecDepth 8000 in
theorem aX11_span_117 (K : Kt) : tl K (lX11_span) 117 = o_istore 5 119 := rfl
set_option maxRecDepth 8000 in
theorem aX11_span_119 (K : Kt) : tl K (lX11_span) 119 = o_iload 8 121 := rfl
set_option maxRecDepth 8000 in
theorem aX11_span_121 (K : Kt) : tl K (lX11_span) 121 = o_if_eq 135 124 := rfl
set_option maxRecDepth 8000 in
theorem aX11_span_124 (K : Kt) : tl K (lX11_span) 124 = o_aload 0 125 := rfl
set_option maxRecDepth 8000 in
theorem aX11_span_125 (K : Kt) : tl K (lX11_span) 125 = o_get 11 23 128 := rfl
set_option maxRecDepth 8000 in
theorem aX11_span_128 (K : Kt) : tl K (lX11_span) 128 = o_pushI (nI 3) 129 := rfl
set_option maxRecDepth 8000 in
theorem aX11_span_129 (K : Kt) : tl K (lX11_span) 129 = o_iald 130 := rfl
set_option maxRecDepth 8000 in
theorem aX11_span_130 (K : Kt) : tl K (lX11_span) 130 = o_iload 6 132 := rfl
set_option maxRecDepth 8000 in
theorem aX11_span_132 (K : Kt) : tl K (lX11_span) 132 = o_icmp_ge 144 135 := rfl
set_option maxRecDepth 8000 in
theorem aX11_span_135 (K : Kt) : tl K (lX11_span) 135 = o_aload 0 136 := rfl
set_option maxRecDepth 8000 in
theorem aX11_span_136 (K : Kt) : tl K (lX11_span) 136 = o_get 11 23 139 := rfl
set_option maxRecDepth 8000 in
theorem aX11_span_139 (K : Kt) : tl K (lX11_span) 139 = o_pushI (nI 3) 140 := rfl
set_option maxRecDepth 8000 in
theorem aX11_span_140 (K : Kt) : tl K (lX11_span) 140 = o_iald 141 := rfl
set_option maxRecDepth 8000 in
theorem aX11_span_141 (K : Kt) : tl K (lX11_span) 141 = o_goto 146 := rfl
set_option maxRecDepth 8000 in
theorem aX11_span_144 (K : Kt) : tl K (lX11_span) 144 = o_iload 6 146 := rfl
set_option maxRecDepth 8000 in
theorem aX11_span_146 (K : Kt) : tl K (lX11_span) 146 = o_istore 6 148 := rfl
set_option maxRecDepth 8000 in
theorem aX11_span_148 (K : Kt) : tl K (lX11_span) 148 = o_aload 0 149 := rfl
set_option maxRecDepth 8000 in
theorem aX11_span_149 (K : Kt) : tl K (lX11_span) 149 = o_get 11 23 152 := rfl
set_option maxRecDepth 8000 in
theorem aX11_span_152 (K : Kt) : tl K (lX11_span) 152 = o_pushI (nI 3) 153 := rfl
set_option maxRecDepth 8000 in
theorem aX11_span_153 (K : Kt) : tl K (lX11_span) 153 = o_iald 154 := rfl
set_option maxRecDepth 8000 in
theorem aX11_span_154 (K : Kt) : tl K (lX11_span) 154 = o_iload 7 156 := rfl
set_option maxRecDepth 8000 in
theorem aX11_span_156 (K : Kt) : tl K (lX11_span) 156 = o_icmp_le 168 159 := rfl
set_option maxRecDepth 8000 in
theorem aX11_span_159 (K : Kt) : tl K (lX11_span) 159 = o_aload 0 160 := rfl
set_option maxRecDepth 8000 in
theorem aX11_span_160 (K : Kt) : tl K (lX11_span) 160 = o_get 11 23 163 := rfl
set_option maxRecDepth 8000 in
theorem aX11_span_163 (K : Kt) : tl K (lX11_span) 163 = o_pushI (nI 3) 164 := rfl
set_option maxRecDepth 8000 in
theorem aX11_span_164 (K : Kt) : tl K (lX11_span) 164 = o_iald 165 := rfl
set_option maxRecDepth 8000 in
theorem aX11_span_165 (K : Kt) : tl K (lX11_span) 165 = o_goto 170 := rfl
set_option maxRecDepth 8000 in
theorem aX11_span_168 (K : Kt) : tl K (lX11_span) 168 = o_iload 7 170 := rfl
set_option maxRecDepth 8000 in
theorem aX11_span_170 (K : Kt) : tl K (lX11_span) 170 = o_istore 7 172 := rfl
set_option maxRecDepth 8000 in
theorem aX11_span_172 (K : Kt) : tl K (lX11_span) 172 = o_iinc 8 (nI 1) 175 := rfl
set_option maxRecDepth 8000 in
theorem aX11_span_175 (K : Kt) : tl K (lX11_span) 175 = o_goto 86 := rfl
set_option maxRecDepth 8000 in
theorem aX11_span_178 (K : Kt) : tl K (lX11_span) 178 = o_iload 3 179 := rfl
set_option maxRecDepth 8000 in
theorem aX11_span_179 (K : Kt) : tl K (lX11_span) 179 = o_if_ne 187 182 := rfl
set_option maxRecDepth 8000 in
theorem aX11_span_182 (K : Kt) : tl K (lX11_span) 182 = o_iload 5 184 := rfl
set_option maxRecDepth 8000 in
theorem aX11_span_184 (K : Kt) : tl K (lX11_span) 184 = o_goto 199 := rfl
set_option maxRecDepth 8000 in
theorem aX11_span_187 (K : Kt) : tl K (lX11_span) 187 = o_iload 3 188 := rfl
set_option maxRecDepth 8000 in
theorem aX11_span_188 (K : Kt) : tl K (lX11_span) 188 = o_pushI (nI 1) 189 := rfl
set_option maxRecDepth 8000 in
theorem aX11_span_189 (K : Kt) : tl K (lX11_span) 189 = o_icmp_ne 197 192 := rfl
set_option maxRecDepth 8000 in
theorem aX11_span_192 (K : Kt) : tl K (lX11_span) 192 = o_iload 6 194 := rfl
set_option maxRecDepth 8000 in
theorem aX11_span_194 (K : Kt) : tl K (lX11_span) 194 = o_goto 199 := rfl
set_option maxRecDepth 8000 in
theorem aX11_span_197 (K : Kt) : tl K (lX11_span) 197 = o_iload 7 199 := rfl
set_option maxRecDepth 8000 in
theorem aX11_span_199 (K : Kt) : tl K (lX11_span) 199 = o_iret K := rfl
theorem eX11_remembers {As L : List Value} {w : Wd} {K : Kt} (hw : wds As ≤ 2) (hL : ent 2 As = L) (h : RR (tl K lX11_remembers) 0 L [] w) : fX11_remembers As w K := ⟨hw, by rw [hL]; exact h⟩
theorem nX11_remembers : MonoF fX11_remembers := mono_f 2 lX11_remembers
theorem aX11_remembers_0 (K : Kt) : tl K (lX11_remembers) 0 = o_aload 0 1 := rfl
theorem aX11_remembers_1 (K : Kt) : tl K (lX11_remembers) 1 = o_get 11 24 4 := rfl
theorem aX11_remembers_4 (K : Kt) : tl K (lX11_remembers) 4 = o_pushI (nI 10) 6 := rfl
theorem aX11_remembers_6 (K : Kt) : tl K (lX11_remembers) 6 = o_icmp_ne 55 9 := rfl
theorem aX11_remembers_9 (K : Kt) : tl K (lX11_remembers) 9 = o_aload 0 10 := rfl
theorem aX11_remembers_10 (K : Kt) : tl K (lX11_remembers) 10 = o_dup 11 := rfl
theorem aX11_remembers_11 (K : Kt) : tl K (lX11_remembers) 11 = o_get 11 24 14 := rfl
theorem aX11_remembers_14 (K : Kt) : tl K (lX11_remembers) 14 = o_pushI (nI 1) 15 := rfl
theorem aX11_remembers_15 (K : Kt) : tl K (lX11_remembers) 15 = o_isub 16 := rfl
theorem aX11_remembers_16 (K : Kt) : tl K (lX11_remembers) 16 = o_putI 11 24 19 := rfl
theorem aX11_remembers_19 (K : Kt) : tl K (lX11_remembers) 19 = o_pushI (nI 0) 20 := rfl
theorem aX11_remembers_20 (K : Kt) : tl K (lX11_remembers) 20 = o_istore 1 21 := rfl
theorem aX11_remembers_21 (K : Kt) : tl K (lX11_remembers) 21 = o_iload 1 22 := rfl
theorem aX11_remembers_22 (K : Kt) : tl K (lX11_remembers) 22 = o_aload 0 23 := rfl
theorem aX11_remembers_23 (K : Kt) : tl K (lX11_remembers) 23 = o_get 11 24 26 := rfl
theorem aX11_remembers_26 (K : Kt) : tl K (lX11_remembers) 26 = o_pushI (nI 256) 29 := rfl
theorem aX11_remembers_29 (K : Kt) : tl K (lX11_remembers) 29 = o_imul 30 := rfl
theorem aX11_remembers_30 (K : Kt) : tl K (lX11_remembers) 30 = o_icmp_ge 55 33 := rfl
theorem aX11_remembers_33 (K : Kt) : tl K (lX11_remembers) 33 = o_aload 0 34 := rfl
theorem aX11_remembers_34 (K : Kt) : tl K (lX11_remembers) 34 = o_get 11 25 37 := rfl
theorem aX11_remembers_37 (K : Kt) : tl K (lX11_remembers) 37 = o_iload 1 38 := rfl
theorem aX11_remembers_38 (K : Kt) : tl K (lX11_remembers) 38 = o_aload 0 39 := rfl
theorem aX11_remembers_39 (K : Kt) : tl K (lX11_remembers) 39 = o_get 11 25 42 := rfl
theorem aX11_remembers_42 (K : Kt) : tl K (lX11_remembers) 42 = o_iload 1 43 := rfl
theorem aX11_remembers_43 (K : Kt) : tl K (lX11_remembers) 43 = o_pushI (nI 256) 46 := rfl
theorem aX11_remembers_46 (K : Kt) : tl K (lX11_remembers) 46 = o_iadd 47 := rfl
theorem aX11_remembers_47 (K : Kt) : tl K (lX11_remembers) 47 = o_iald 48 := rfl
theorem aX11_remembers_48 (K : Kt) : tl K (lX11_remembers) 48 = o_iast 49 := rfl
theorem aX11_remembers_49 (K : Kt) : tl K (lX11_remembers) 49 = o_iinc 1 (nI 1) 52 := rfl
theorem aX11_remembers_52 (K : Kt) : tl K (lX11_remembers) 52 = o_goto 21 := rfl
theorem aX11_remembers_55 (K : Kt) : tl K (lX11_remembers) 55 = o_aload 0 56 := rfl
theorem aX11_remembers_56 (K : Kt) : tl K (lX11_remembers) 56 = o_get 11 25 59 := rfl
theorem aX11_remembers_59 (K : Kt) : tl K (lX11_remembers) 59 = o_pushI (nI 256) 62 := rfl
theorem aX11_remembers_62 (K : Kt) : tl K (lX11_remembers) 62 = o_aload 0 63 := rfl
theorem aX11_remembers_63 (K : Kt) : tl K (lX11_remembers) 63 = o_get 11 24 66 := rfl
theorem aX11_remembers_66 (K : Kt) : tl K (lX11_remembers) 66 = o_imul 67 := rfl
theorem aX11_remembers_67 (K : Kt) : tl K (lX11_remembers) 67 = o_aload 0 68 := rfl
theorem aX11_remembers_68 (K : Kt) : tl K (lX11_remembers) 68 = o_get 11 7 71 := rfl
theorem aX11_remembers_71 (K : Kt) : tl K (lX11_remembers) 71 = o_pushI (nI 0) 72 := rfl
theorem aX11_remembers_72 (K : Kt) : tl K (lX11_remembers) 72 = o_pushI (nI 256) 75 := rfl
theorem aX11_remembers_75 (K : Kt) : tl K (lX11_remembers) 75 = o_callS fX11_lays 5 78 := rfl
theorem aX11_remembers_78 (K : Kt) : tl K (lX11_remembers) 78 = o_aload 0 79 := rfl
theorem aX11_remembers_79 (K : Kt) : tl K (lX11_remembers) 79 = o_dup 80 := rfl
theorem aX11_remembers_80 (K : Kt) : tl K (lX11_remembers) 80 = o_get 11 24 83 := rfl
theorem aX11_remembers_83 (K : Kt) : tl K (lX11_remembers) 83 = o_pushI (nI 1) 84 := rfl
theorem aX11_remembers_84 (K : Kt) : tl K (lX11_remembers) 84 = o_iadd 85 := rfl
theorem aX11_remembers_85 (K : Kt) : tl K (lX11_remembers) 85 = o_putI 11 24 88 := rfl
theorem aX11_remembers_88 (K : Kt) : tl K (lX11_remembers) 88 = o_vret K := rfl
theorem eX11_comes {As L : List Value} {w : Wd} {K : Kt} (hw : wds As ≤ 4) (hL : ent 4 As = L) (h : RR (tl K lX11_comes) 0 L [] w) : fX11_comes As w K := ⟨hw, by rw [hL]; exact h⟩
theorem nX11_comes : MonoF fX11_comes := mono_f 4 lX11_comes
theorem aX11_comes_0 (K : Kt) : tl K (lX11_comes) 0 = o_aload 0 1 := rfl
theorem aX11_comes_1 (K : Kt) : tl K (lX11_comes) 1 = o_get 11 7 4 := rfl
theorem aX11_comes_4 (K : Kt) : tl K (lX11_comes) 4 = o_pushI (nI 126) 6 := rfl
theorem aX11_comes_6 (K : Kt) : tl K (lX11_comes) 6 = o_aload 0 7 := rfl
theorem aX11_comes_7 (K : Kt) : tl K (lX11_comes) 7 = o_iload 1 8 := rfl
theorem aX11_comes_8 (K : Kt) : tl K (lX11_comes) 8 = o_aload 0 9 := rfl
theorem aX11_comes_9 (K : Kt) : tl K (lX11_comes) 9 = o_get 11 7 12 := rfl
theorem aX11_comes_12 (K : Kt) : tl K (lX11_comes) 12 = o_pushI (nI 106) 14 := rfl
theorem aX11_comes_14 (K : Kt) : tl K (lX11_comes) 14 = o_iload 1 15 := rfl
theorem aX11_comes_15 (K : Kt) : tl K (lX11_comes) 15 = o_iadd 16 := rfl
theorem aX11_comes_16 (K : Kt) : tl K (lX11_comes) 16 = o_iald 17 := rfl
theorem aX11_comes_17 (K : Kt) : tl K (lX11_comes) 17 = o_callV fX11_slot 2 11 20 := rfl
theorem aX11_comes_20 (K : Kt) : tl K (lX11_comes) 20 = o_iadd 21 := rfl
theorem aX11_comes_21 (K : Kt) : tl K (lX11_comes) 21 = o_iload 2 22 := rfl
theorem aX11_comes_22 (K : Kt) : tl K (lX11_comes) 22 = o_iast 23 := rfl
theorem aX11_comes_23 (K : Kt) : tl K (lX11_comes) 23 = o_aload 0 24 := rfl
theorem aX11_comes_24 (K : Kt) : tl K (lX11_comes) 24 = o_get 11 7 27 := rfl
theorem aX11_comes_27 (K : Kt) : tl K (lX11_comes) 27 = o_pushI (nI 186) 30 := rfl
theorem aX11_comes_30 (K : Kt) : tl K (lX11_comes) 30 = o_aload 0 31 := rfl
theorem aX11_comes_31 (K : Kt) : tl K (lX11_comes) 31 = o_iload 1 32 := rfl
theorem aX11_comes_32 (K : Kt) : tl K (lX11_comes) 32 = o_aload 0 33 := rfl
theorem aX11_comes_33 (K : Kt) : tl K (lX11_comes) 33 = o_get 11 7 36 := rfl
theorem aX11_comes_36 (K : Kt) : tl K (lX11_comes) 36 = o_pushI (nI 106) 38 := rfl
theorem aX11_comes_38 (K : Kt) : tl K (lX11_comes) 38 = o_iload 1 39 := rfl
theorem aX11_comes_39 (K : Kt) : tl K (lX11_comes) 39 = o_iadd 40 := rfl
theorem aX11_comes_40 (K : Kt) : tl K (lX11_comes) 40 = o_iald 41 := rfl
theorem aX11_comes_41 (K : Kt) : tl K (lX11_comes) 41 = o_callV fX11_slot 2 11 44 := rfl
theorem aX11_comes_44 (K : Kt) : tl K (lX11_comes) 44 = o_iadd 45 := rfl
theorem aX11_comes_45 (K : Kt) : tl K (lX11_comes) 45 = o_iload 3 46 := rfl
theorem aX11_comes_46 (K : Kt) : tl K (lX11_comes) 46 = o_iast 47 := rfl
theorem aX11_comes_47 (K : Kt) : tl K (lX11_comes) 47 = o_aload 0 48 := rfl
theorem aX11_comes_48 (K : Kt) : tl K (lX11_comes) 48 = o_get 11 7 51 := rfl
theorem aX11_comes_51 (K : Kt) : tl K (lX11_comes) 51 = o_pushI (nI 106) 53 := rfl
theorem aX11_comes_53 (K : Kt) : tl K (lX11_comes) 53 = o_iload 1 54 := rfl
theorem aX11_comes_54 (K : Kt) : tl K (lX11_comes) 54 = o_iadd 55 := rfl
theorem aX11_comes_55 (K : Kt) : tl K (lX11_comes) 55 = o_dup2 56 := rfl
theorem aX11_comes_56 (K : Kt) : tl K (lX11_comes) 56 = o_iald 57 := rfl
theorem aX11_comes_57 (K : Kt) : tl K (lX11_comes) 57 = o_pushI (nI 1) 58 := rfl
theorem aX11_comes_58 (K : Kt) : tl K (lX11_comes) 58 = o_iadd 59 := rfl
theorem aX11_comes_59 (K : Kt) : tl K (lX11_comes) 59 = o_iast 60 := rfl
theorem aX11_comes_60 (K : Kt) : tl K (lX11_comes) 60 = o_vret K := rfl
theorem eX11_put {As L : List Value} {w : Wd} {K : Kt} (hw : wds As ≤ 6) (hL : ent 6 As = L) (h : RR (tl K lX11_put) 0 L [] w) : fX11_put As w K := ⟨hw, by rw [hL]; exact h⟩
theorem nX11_put : MonoF fX11_put := mono_f 6 lX11_put
theorem aX11_put_0 (K : Kt) : tl K (lX11_put) 0 = o_aload 0 1 := rfl
theorem aX11_put_1 (K : Kt) : tl K (lX11_put) 1 = o_iload 1 2 := rfl
theorem aX11_put_2 (K : Kt) : tl K (lX11_put) 2 = o_callV fX11_isGame 1 11 5 := rfl
theorem aX11_put_5 (K : Kt) : tl K (lX11_put) 5 = o_if_eq 20 8 := rfl
theorem aX11_put_8 (K : Kt) : tl K (lX11_put) 8 = o_aload 0 9 := rfl
theorem aX11_put_9 (K : Kt) : tl K (lX11_put) 9 = o_iload 2 10 := rfl
theorem aX11_put_10 (K : Kt) : tl K (lX11_put) 10 = o_callV fX11_isArm 1 11 13 := rfl
theorem aX11_put_13 (K : Kt) : tl K (lX11_put) 13 = o_if_eq 20 16 := rfl
theorem aX11_put_16 (K : Kt) : tl K (lX11_put) 16 = o_pushI (nI 1) 17 := rfl
theorem aX11_put_17 (K : Kt) : tl K (lX11_put) 17 = o_goto 21 := rfl
theorem aX11_put_20 (K : Kt) : tl K (lX11_put) 20 = o_pushI (nI 0) 21 := rfl
theorem aX11_put_21 (K : Kt) : tl K (lX11_put) 21 = o_aload 0 22 := rfl
theorem aX11_put_22 (K : Kt) : tl K (lX11_put) 22 = o_iload 2 23 := rfl
theorem aX11_put_23 (K : Kt) : tl K (lX11_put) 23 = o_callV fX11_isArm 1 11 26 := rfl
theorem aX11_put_26 (K : Kt) : tl K (lX11_put) 26 = o_if_eq 50 29 := rfl
theorem aX11_put_29 (K : Kt) : tl K (lX11_put) 29 = o_iload 3 30 := rfl
theorem aX11_put_30 (K : Kt) : tl K (lX11_put) 30 = o_pushI (nI 1) 31 := rfl
theorem aX11_put_31 (K : Kt) : tl K (lX11_put) 31 = o_aload 0 32 := rfl
theorem aX11_put_32 (K : Kt) : tl K (lX11_put) 32 = o_get 11 7 35 := rfl
theorem aX11_put_35 (K : Kt) : tl K (lX11_put) 35 = o_pushI (nI 22) 37 := rfl
theorem aX11_put_37 (K : Kt) : tl K (lX11_put) 37 = o_iload 2 38 := rfl
theorem aX11_put_38 (K : Kt) : tl K (lX11_put) 38 = o_iadd 39 := rfl
theorem aX11_put_39 (K : Kt) : tl K (lX11_put) 39 = o_iald 40 := rfl
theorem aX11_put_40 (K : Kt) : tl K (lX11_put) 40 = o_callS fX11_in 3 43 := rfl
theorem aX11_put_43 (K : Kt) : tl K (lX11_put) 43 = o_if_eq 50 46 := rfl
theorem aX11_put_46 (K : Kt) : tl K (lX11_put) 46 = o_pushI (nI 1) 47 := rfl
theorem aX11_put_47 (K : Kt) : tl K (lX11_put) 47 = o_goto 51 := rfl
theorem aX11_put_50 (K : Kt) : tl K (lX11_put) 50 = o_pushI (nI 0) 51 := rfl
theorem aX11_put_51 (K : Kt) : tl K (lX11_put) 51 = o_callS fX11_unless_ 2 54 := rfl
theorem aX11_put_54 (K : Kt) : tl K (lX11_put) 54 = o_istore 5 56 := rfl
theorem aX11_put_56 (K : Kt) : tl K (lX11_put) 56 = o_iload 5 58 := rfl
theorem aX11_put_58 (K : Kt) : tl K (lX11_put) 58 = o_if_ne 118 61 := rfl
theorem aX11_put_61 (K : Kt) : tl K (lX11_put) 61 = o_aload 0 62 := rfl
theorem aX11_put_62 (K : Kt) : tl K (lX11_put) 62 = o_get 11 7 65 := rfl
theorem aX11_put_65 (K : Kt) : tl K (lX11_put) 65 = o_pushI (nI 106) 67 := rfl
theorem aX11_put_67 (K : Kt) : tl K (lX11_put) 67 = o_iload 1 68 := rfl
theorem aX11_put_68 (K : Kt) : tl K (lX11_put) 68 = o_iadd 69 := rfl
theorem aX11_put_69 (K : Kt) : tl K (lX11_put) 69 = o_iald 70 := rfl
theorem aX11_put_70 (K : Kt) : tl K (lX11_put) 70 = o_pushI (nI 3) 71 := rfl
theorem aX11_put_71 (K : Kt) : tl K (lX11_put) 71 = o_icmp_eq 83 74 := rfl
theorem aX11_put_74 (K : Kt) : tl K (lX11_put) 74 = o_iload 3 75 := rfl
theorem aX11_put_75 (K : Kt) : tl K (lX11_put) 75 = o_aload 0 76 := rfl
theorem aX11_put_76 (K : Kt) : tl K (lX11_put) 76 = o_iload 1 77 := rfl
theorem aX11_put_77 (K : Kt) : tl K (lX11_put) 77 = o_callV fX11_leftOf 1 11 80 := rfl
theorem aX11_put_80 (K : Kt) : tl K (lX11_put) 80 = o_icmp_le 87 83 := rfl
theorem aX11_put_83 (K : Kt) : tl K (lX11_put) 83 = o_pushI (nI 3) 84 := rfl
theorem aX11_put_84 (K : Kt) : tl K (lX11_put) 84 = o_goto 116 := rfl
theorem aX11_put_87 (K : Kt) : tl K (lX11_put) 87 = o_aload 0 88 := rfl
theorem aX11_put_88 (K : Kt) : tl K (lX11_put) 88 = o_iload 2 89 := rfl
theorem aX11_put_89 (K : Kt) : tl K (lX11_put) 89 = o_iload 1 90 := rfl
theorem aX11_put_90 (K : Kt) : tl K (lX11_put) 90 = o_callV fX11_isIn 2 11 93 := rfl
theorem aX11_put_93 (K : Kt) : tl K (lX11_put) 93 = o_if_ne 111 96 := rfl
theorem aX11_put_96 (K : Kt) : tl K (lX11_put) 96 = o_iload 4 98 := rfl
theorem aX11_put_98 (K : Kt) : tl K (lX11_put) 98 = o_if_ne 115 101 := rfl
theorem aX11_put_101 (K : Kt) : tl K (lX11_put) 101 = o_aload 0 102 := rfl
theorem aX11_put_102 (K : Kt) : tl K (lX11_put) 102 = o_iload 2 103 := rfl
theorem aX11_put_103 (K : Kt) : tl K (lX11_put) 103 = o_iload 1 104 := rfl
theorem aX11_put_104 (K : Kt) : tl K (lX11_put) 104 = o_iload 3 105 := rfl
theorem aX11_put_105 (K : Kt) : tl K (lX11_put) 105 = o_callV fX11_isAloneAllowed 3 11 108 := rfl
theorem aX11_put_108 (K : Kt) : tl K (lX11_put) 108 = o_if_ne 115 111 := rfl
theorem aX11_put_111 (K : Kt) : tl K (lX11_put) 111 = o_pushI (nI 5) 112 := rfl
set_option maxRecDepth 8000 in
theorem aX11_put_112 (K : Kt) : tl K (lX11_put) 112 = o_goto 116 := rfl
set_option maxRecDepth 8000 in
theorem aX11_put_115 (K : Kt) : tl K (lX11_put) 115 = o_pushI (nI 0) 116 := rfl
set_option maxRecDepth 8000 in
theorem aX11_put_116 (K : Kt) : tl K (lX11_put) 116 = o_istore 5 118 := rfl
set_option maxRecDepth 8000 in
theorem aX11_put_118 (K : Kt) : tl K (lX11_put) 118 = o_aload 0 119 := rfl
set_option maxRecDepth 8000 in
theorem aX11_put_119 (K : Kt) : tl K (lX11_put) 119 = o_iload 5 121 := rfl
set_option maxRecDepth 8000 in
theorem aX11_put_121 (K : Kt) : tl K (lX11_put) 121 = o_callV fX11_isRefused 1 11 124 := rfl
set_option maxRecDepth 8000 in
theorem aX11_put_124 (K : Kt) : tl K (lX11_put) 124 = o_if_eq 129 127 := rfl
set_option maxRecDepth 8000 in
theorem aX11_put_127 (K : Kt) : tl K (lX11_put) 127 = o_pushI ((-1)) 128 := rfl
set_option maxRecDepth 8000 in
theorem aX11_put_128 (K : Kt) : tl K (lX11_put) 128 = o_iret K := rfl
set_option maxRecDepth 8000 in
theorem aX11_put_129 (K : Kt) : tl K (lX11_put) 129 = o_aload 0 130 := rfl
set_option maxRecDepth 8000 in
theorem aX11_put_130 (K : Kt) : tl K (lX11_put) 130 = o_callV fX11_remembers 0 11 133 := rfl
set_option maxRecDepth 8000 in
theorem aX11_put_133 (K : Kt) : tl K (lX11_put) 133 = o_aload 0 134 := rfl
set_option maxRecDepth 8000 in
theorem aX11_put_134 (K : Kt) : tl K (lX11_put) 134 = o_iload 1 135 := rfl
set_option maxRecDepth 8000 in
theorem aX11_put_135 (K : Kt) : tl K (lX11_put) 135 = o_iload 2 136 := rfl
set_option maxRecDepth 8000 in
theorem aX11_put_136 (K : Kt) : tl K (lX11_put) 136 = o_iload 3 137 := rfl
set_option maxRecDepth 8000 in
theorem aX11_put_137 (K : Kt) : tl K (lX11_put) 137 = o_callV fX11_comes 3 11 140 := rfl
set_option maxRecDepth 8000 in
theorem aX11_put_140 (K : Kt) : tl K (lX11_put) 140 = o_aload 0 141 := rfl
set_option maxRecDepth 8000 in
theorem aX11_put_141 (K : Kt) : tl K (lX11_put) 141 = o_get 11 7 144 := rfl
set_option maxRecDepth 8000 in
theorem aX11_put_144 (K : Kt) : tl K (lX11_put) 144 = o_pushI (nI 106) 146 := rfl
set_option maxRecDepth 8000 in
theorem aX11_put_146 (K : Kt) : tl K (lX11_put) 146 = o_iload 1 147 := rfl
set_option maxRecDepth 8000 in
theorem aX11_put_147 (K : Kt) : tl K (lX11_put) 147 = o_iadd 148 := rfl
set_option maxRecDepth 8000 in
theorem aX11_put_148 (K : Kt) : tl K (lX11_put) 148 = o_iald 149 := rfl
set_option maxRecDepth 8000 in
theorem aX11_put_149 (K : Kt) : tl K (lX11_put) 149 = o_iret K := rfl
theorem eX11_take {As L : List Value} {w : Wd} {K : Kt} (hw : wds As ≤ 5) (hL : ent 5 As = L) (h : RR (tl K lX11_take) 0 L [] w) : fX11_take As w K := ⟨hw, by rw [hL]; exact h⟩
theorem nX11_take : MonoF fX11_take := mono_f 5 lX11_take
theorem aX11_take_0 (K : Kt) : tl K (lX11_take) 0 = o_aload 0 1 := rfl
theorem aX11_take_1 (K : Kt) : tl K (lX11_take) 1 = o_aload 0 2 := rfl
theorem aX11_take_2 (K : Kt) : tl K (lX11_take) 2 = o_iload 1 3 := rfl
theorem aX11_take_3 (K : Kt) : tl K (lX11_take) 3 = o_callV fX11_isGame 1 11 6 := rfl
theorem aX11_take_6 (K : Kt) : tl K (lX11_take) 6 = o_if_eq 32 9 := rfl
theorem aX11_take_9 (K : Kt) : tl K (lX11_take) 9 = o_iload 2 10 := rfl
theorem aX11_take_10 (K : Kt) : tl K (lX11_take) 10 = o_pushI (nI 0) 11 := rfl
theorem aX11_take_11 (K : Kt) : tl K (lX11_take) 11 = o_aload 0 12 := rfl
theorem aX11_take_12 (K : Kt) : tl K (lX11_take) 12 = o_get 11 7 15 := rfl
theorem aX11_take_15 (K : Kt) : tl K (lX11_take) 15 = o_pushI (nI 106) 17 := rfl
theorem aX11_take_17 (K : Kt) : tl K (lX11_take) 17 = o_iload 1 18 := rfl
theorem aX11_take_18 (K : Kt) : tl K (lX11_take) 18 = o_iadd 19 := rfl
theorem aX11_take_19 (K : Kt) : tl K (lX11_take) 19 = o_iald 20 := rfl
theorem aX11_take_20 (K : Kt) : tl K (lX11_take) 20 = o_pushI (nI 1) 21 := rfl
theorem aX11_take_21 (K : Kt) : tl K (lX11_take) 21 = o_isub 22 := rfl
theorem aX11_take_22 (K : Kt) : tl K (lX11_take) 22 = o_callS fX11_in 3 25 := rfl
theorem aX11_take_25 (K : Kt) : tl K (lX11_take) 25 = o_if_eq 32 28 := rfl
theorem aX11_take_28 (K : Kt) : tl K (lX11_take) 28 = o_pushI (nI 1) 29 := rfl
theorem aX11_take_29 (K : Kt) : tl K (lX11_take) 29 = o_goto 33 := rfl
theorem aX11_take_32 (K : Kt) : tl K (lX11_take) 32 = o_pushI (nI 0) 33 := rfl
theorem aX11_take_33 (K : Kt) : tl K (lX11_take) 33 = o_callS fX11_unless 1 36 := rfl
theorem aX11_take_36 (K : Kt) : tl K (lX11_take) 36 = o_callV fX11_isRefused 1 11 39 := rfl
theorem aX11_take_39 (K : Kt) : tl K (lX11_take) 39 = o_if_eq 44 42 := rfl
theorem aX11_take_42 (K : Kt) : tl K (lX11_take) 42 = o_pushI ((-1)) 43 := rfl
theorem aX11_take_43 (K : Kt) : tl K (lX11_take) 43 = o_iret K := rfl
theorem aX11_take_44 (K : Kt) : tl K (lX11_take) 44 = o_aload 0 45 := rfl
theorem aX11_take_45 (K : Kt) : tl K (lX11_take) 45 = o_callV fX11_remembers 0 11 48 := rfl
theorem aX11_take_48 (K : Kt) : tl K (lX11_take) 48 = o_aload 0 49 := rfl
theorem aX11_take_49 (K : Kt) : tl K (lX11_take) 49 = o_iload 1 50 := rfl
theorem aX11_take_50 (K : Kt) : tl K (lX11_take) 50 = o_iload 2 51 := rfl
theorem aX11_take_51 (K : Kt) : tl K (lX11_take) 51 = o_callV fX11_throwsAt 2 11 54 := rfl
theorem aX11_take_54 (K : Kt) : tl K (lX11_take) 54 = o_istore 3 55 := rfl
theorem aX11_take_55 (K : Kt) : tl K (lX11_take) 55 = o_aload 0 56 := rfl
theorem aX11_take_56 (K : Kt) : tl K (lX11_take) 56 = o_get 11 7 59 := rfl
theorem aX11_take_59 (K : Kt) : tl K (lX11_take) 59 = o_pushI (nI 106) 61 := rfl
theorem aX11_take_61 (K : Kt) : tl K (lX11_take) 61 = o_iload 1 62 := rfl
theorem aX11_take_62 (K : Kt) : tl K (lX11_take) 62 = o_iadd 63 := rfl
theorem aX11_take_63 (K : Kt) : tl K (lX11_take) 63 = o_dup2 64 := rfl
theorem aX11_take_64 (K : Kt) : tl K (lX11_take) 64 = o_iald 65 := rfl
theorem aX11_take_65 (K : Kt) : tl K (lX11_take) 65 = o_pushI (nI 1) 66 := rfl
theorem aX11_take_66 (K : Kt) : tl K (lX11_take) 66 = o_isub 67 := rfl
theorem aX11_take_67 (K : Kt) : tl K (lX11_take) 67 = o_iast 68 := rfl
theorem aX11_take_68 (K : Kt) : tl K (lX11_take) 68 = o_iload 2 69 := rfl
theorem aX11_take_69 (K : Kt) : tl K (lX11_take) 69 = o_istore 4 71 := rfl
theorem aX11_take_71 (K : Kt) : tl K (lX11_take) 71 = o_iload 4 73 := rfl
theorem aX11_take_73 (K : Kt) : tl K (lX11_take) 73 = o_aload 0 74 := rfl
theorem aX11_take_74 (K : Kt) : tl K (lX11_take) 74 = o_get 11 7 77 := rfl
theorem aX11_take_77 (K : Kt) : tl K (lX11_take) 77 = o_pushI (nI 106) 79 := rfl
theorem aX11_take_79 (K : Kt) : tl K (lX11_take) 79 = o_iload 1 80 := rfl
theorem aX11_take_80 (K : Kt) : tl K (lX11_take) 80 = o_iadd 81 := rfl
theorem aX11_take_81 (K : Kt) : tl K (lX11_take) 81 = o_iald 82 := rfl
theorem aX11_take_82 (K : Kt) : tl K (lX11_take) 82 = o_icmp_ge 140 85 := rfl
theorem aX11_take_85 (K : Kt) : tl K (lX11_take) 85 = o_aload 0 86 := rfl
theorem aX11_take_86 (K : Kt) : tl K (lX11_take) 86 = o_get 11 7 89 := rfl
theorem aX11_take_89 (K : Kt) : tl K (lX11_take) 89 = o_pushI (nI 126) 91 := rfl
theorem aX11_take_91 (K : Kt) : tl K (lX11_take) 91 = o_aload 0 92 := rfl
theorem aX11_take_92 (K : Kt) : tl K (lX11_take) 92 = o_iload 1 93 := rfl
theorem aX11_take_93 (K : Kt) : tl K (lX11_take) 93 = o_iload 4 95 := rfl
theorem aX11_take_95 (K : Kt) : tl K (lX11_take) 95 = o_callV fX11_slot 2 11 98 := rfl
theorem aX11_take_98 (K : Kt) : tl K (lX11_take) 98 = o_iadd 99 := rfl
theorem aX11_take_99 (K : Kt) : tl K (lX11_take) 99 = o_aload 0 100 := rfl
set_option maxRecDepth 8000 in
theorem aX11_take_100 (K : Kt) : tl K (lX11_take) 100 = o_iload 1 101 := rfl
set_option maxRecDepth 8000 in
theorem aX11_take_101 (K : Kt) : tl K (lX11_take) 101 = o_iload 4 103 := rfl
set_option maxRecDepth 8000 in
theorem aX11_take_103 (K : Kt) : tl K (lX11_take) 103 = o_pushI (nI 1) 104 := rfl
set_option maxRecDepth 8000 in
theorem aX11_take_104 (K : Kt) : tl K (lX11_take) 104 = o_iadd 105 := rfl
set_option maxRecDepth 8000 in
theorem aX11_take_105 (K : Kt) : tl K (lX11_take) 105 = o_callV fX11_who 2 11 108 := rfl
set_option maxRecDepth 8000 in
theorem aX11_take_108 (K : Kt) : tl K (lX11_take) 108 = o_iast 109 := rfl
set_option maxRecDepth 8000 in
theorem aX11_take_109 (K : Kt) : tl K (lX11_take) 109 = o_aload 0 110 := rfl
set_option maxRecDepth 8000 in
theorem aX11_take_110 (K : Kt) : tl K (lX11_take) 110 = o_get 11 7 113 := rfl
set_option maxRecDepth 8000 in
theorem aX11_take_113 (K : Kt) : tl K (lX11_take) 113 = o_pushI (nI 186) 116 := rfl
set_option maxRecDepth 8000 in
theorem aX11_take_116 (K : Kt) : tl K (lX11_take) 116 = o_aload 0 117 := rfl
set_option maxRecDepth 8000 in
theorem aX11_take_117 (K : Kt) : tl K (lX11_take) 117 = o_iload 1 118 := rfl
set_option maxRecDepth 8000 in
theorem aX11_take_118 (K : Kt) : tl K (lX11_take) 118 = o_iload 4 120 := rfl
set_option maxRecDepth 8000 in
theorem aX11_take_120 (K : Kt) : tl K (lX11_take) 120 = o_callV fX11_slot 2 11 123 := rfl
set_option maxRecDepth 8000 in
theorem aX11_take_123 (K : Kt) : tl K (lX11_take) 123 = o_iadd 124 := rfl
set_option maxRecDepth 8000 in
theorem aX11_take_124 (K : Kt) : tl K (lX11_take) 124 = o_aload 0 125 := rfl
set_option maxRecDepth 8000 in
theorem aX11_take_125 (K : Kt) : tl K (lX11_take) 125 = o_iload 1 126 := rfl
set_option maxRecDepth 8000 in
theorem aX11_take_126 (K : Kt) : tl K (lX11_take) 126 = o_iload 4 128 := rfl
set_option maxRecDepth 8000 in
theorem aX11_take_128 (K : Kt) : tl K (lX11_take) 128 = o_pushI (nI 1) 129 := rfl
set_option maxRecDepth 8000 in
theorem aX11_take_129 (K : Kt) : tl K (lX11_take) 129 = o_iadd 130 := rfl
set_option maxRecDepth 8000 in
theorem aX11_take_130 (K : Kt) : tl K (lX11_take) 130 = o_callV fX11_throwsAt 2 11 133 := rfl
set_option maxRecDepth 8000 in
theorem aX11_take_133 (K : Kt) : tl K (lX11_take) 133 = o_iast 134 := rfl
set_option maxRecDepth 8000 in
theorem aX11_take_134 (K : Kt) : tl K (lX11_take) 134 = o_iinc 4 (nI 1) 137 := rfl
set_option maxRecDepth 8000 in
theorem aX11_take_137 (K : Kt) : tl K (lX11_take) 137 = o_goto 71 := rfl
set_option maxRecDepth 8000 in
theorem aX11_take_140 (K : Kt) : tl K (lX11_take) 140 = o_iload 3 141 := rfl
set_option maxRecDepth 8000 in
theorem aX11_take_141 (K : Kt) : tl K (lX11_take) 141 = o_iret K := rfl
theorem eX11_shift {As L : List Value} {w : Wd} {K : Kt} (hw : wds As ≤ 7) (hL : ent 7 As = L) (h : RR (tl K lX11_shift) 0 L [] w) : fX11_shift As w K := ⟨hw, by rw [hL]; exact h⟩
theorem nX11_shift : MonoF fX11_shift := mono_f 7 lX11_shift
theorem aX11_shift_0 (K : Kt) : tl K (lX11_shift) 0 = o_aload 0 1 := rfl
theorem aX11_shift_1 (K : Kt) : tl K (lX11_shift) 1 = o_iload 1 2 := rfl
theorem aX11_shift_2 (K : Kt) : tl K (lX11_shift) 2 = o_callV fX11_isGame 1 11 5 := rfl
theorem aX11_shift_5 (K : Kt) : tl K (lX11_shift) 5 = o_if_eq 31 8 := rfl
theorem aX11_shift_8 (K : Kt) : tl K (lX11_shift) 8 = o_iload 2 9 := rfl
theorem aX11_shift_9 (K : Kt) : tl K (lX11_shift) 9 = o_pushI (nI 0) 10 := rfl
theorem aX11_shift_10 (K : Kt) : tl K (lX11_shift) 10 = o_aload 0 11 := rfl
theorem aX11_shift_11 (K : Kt) : tl K (lX11_shift) 11 = o_get 11 7 14 := rfl
theorem aX11_shift_14 (K : Kt) : tl K (lX11_shift) 14 = o_pushI (nI 106) 16 := rfl
theorem aX11_shift_16 (K : Kt) : tl K (lX11_shift) 16 = o_iload 1 17 := rfl
theorem aX11_shift_17 (K : Kt) : tl K (lX11_shift) 17 = o_iadd 18 := rfl
theorem aX11_shift_18 (K : Kt) : tl K (lX11_shift) 18 = o_iald 19 := rfl
theorem aX11_shift_19 (K : Kt) : tl K (lX11_shift) 19 = o_pushI (nI 1) 20 := rfl
theorem aX11_shift_20 (K : Kt) : tl K (lX11_shift) 20 = o_isub 21 := rfl
theorem aX11_shift_21 (K : Kt) : tl K (lX11_shift) 21 = o_callS fX11_in 3 24 := rfl
theorem aX11_shift_24 (K : Kt) : tl K (lX11_shift) 24 = o_if_eq 31 27 := rfl
theorem aX11_shift_27 (K : Kt) : tl K (lX11_shift) 27 = o_pushI (nI 1) 28 := rfl
theorem aX11_shift_28 (K : Kt) : tl K (lX11_shift) 28 = o_goto 32 := rfl
theorem aX11_shift_31 (K : Kt) : tl K (lX11_shift) 31 = o_pushI (nI 0) 32 := rfl
theorem aX11_shift_32 (K : Kt) : tl K (lX11_shift) 32 = o_istore 4 34 := rfl
theorem aX11_shift_34 (K : Kt) : tl K (lX11_shift) 34 = o_iload 4 36 := rfl
theorem aX11_shift_36 (K : Kt) : tl K (lX11_shift) 36 = o_iload 4 38 := rfl
theorem aX11_shift_38 (K : Kt) : tl K (lX11_shift) 38 = o_if_eq 67 41 := rfl
theorem aX11_shift_41 (K : Kt) : tl K (lX11_shift) 41 = o_iload 3 42 := rfl
theorem aX11_shift_42 (K : Kt) : tl K (lX11_shift) 42 = o_pushI (nI 1) 43 := rfl
theorem aX11_shift_43 (K : Kt) : tl K (lX11_shift) 43 = o_aload 0 44 := rfl
theorem aX11_shift_44 (K : Kt) : tl K (lX11_shift) 44 = o_get 11 7 47 := rfl
theorem aX11_shift_47 (K : Kt) : tl K (lX11_shift) 47 = o_pushI (nI 22) 49 := rfl
theorem aX11_shift_49 (K : Kt) : tl K (lX11_shift) 49 = o_aload 0 50 := rfl
theorem aX11_shift_50 (K : Kt) : tl K (lX11_shift) 50 = o_iload 1 51 := rfl
theorem aX11_shift_51 (K : Kt) : tl K (lX11_shift) 51 = o_iload 2 52 := rfl
theorem aX11_shift_52 (K : Kt) : tl K (lX11_shift) 52 = o_callV fX11_who 2 11 55 := rfl
theorem aX11_shift_55 (K : Kt) : tl K (lX11_shift) 55 = o_iadd 56 := rfl
theorem aX11_shift_56 (K : Kt) : tl K (lX11_shift) 56 = o_iald 57 := rfl
theorem aX11_shift_57 (K : Kt) : tl K (lX11_shift) 57 = o_callS fX11_in 3 60 := rfl
theorem aX11_shift_60 (K : Kt) : tl K (lX11_shift) 60 = o_if_eq 67 63 := rfl
theorem aX11_shift_63 (K : Kt) : tl K (lX11_shift) 63 = o_pushI (nI 1) 64 := rfl
theorem aX11_shift_64 (K : Kt) : tl K (lX11_shift) 64 = o_goto 68 := rfl
theorem aX11_shift_67 (K : Kt) : tl K (lX11_shift) 67 = o_pushI (nI 0) 68 := rfl
theorem aX11_shift_68 (K : Kt) : tl K (lX11_shift) 68 = o_callS fX11_unless_ 2 71 := rfl
theorem aX11_shift_71 (K : Kt) : tl K (lX11_shift) 71 = o_istore 5 73 := rfl
theorem aX11_shift_73 (K : Kt) : tl K (lX11_shift) 73 = o_iload 5 75 := rfl
theorem aX11_shift_75 (K : Kt) : tl K (lX11_shift) 75 = o_if_ne 120 78 := rfl
theorem aX11_shift_78 (K : Kt) : tl K (lX11_shift) 78 = o_iload 3 79 := rfl
theorem aX11_shift_79 (K : Kt) : tl K (lX11_shift) 79 = o_aload 0 80 := rfl
theorem aX11_shift_80 (K : Kt) : tl K (lX11_shift) 80 = o_iload 1 81 := rfl
theorem aX11_shift_81 (K : Kt) : tl K (lX11_shift) 81 = o_callV fX11_leftOf 1 11 84 := rfl
theorem aX11_shift_84 (K : Kt) : tl K (lX11_shift) 84 = o_aload 0 85 := rfl
theorem aX11_shift_85 (K : Kt) : tl K (lX11_shift) 85 = o_iload 1 86 := rfl
theorem aX11_shift_86 (K : Kt) : tl K (lX11_shift) 86 = o_iload 2 87 := rfl
theorem aX11_shift_87 (K : Kt) : tl K (lX11_shift) 87 = o_callV fX11_throwsAt 2 11 90 := rfl
theorem aX11_shift_90 (K : Kt) : tl K (lX11_shift) 90 = o_iadd 91 := rfl
theorem aX11_shift_91 (K : Kt) : tl K (lX11_shift) 91 = o_icmp_le 98 94 := rfl
theorem aX11_shift_94 (K : Kt) : tl K (lX11_shift) 94 = o_pushI (nI 3) 95 := rfl
theorem aX11_shift_95 (K : Kt) : tl K (lX11_shift) 95 = o_goto 118 := rfl
theorem aX11_shift_98 (K : Kt) : tl K (lX11_shift) 98 = o_aload 0 99 := rfl
theorem aX11_shift_99 (K : Kt) : tl K (lX11_shift) 99 = o_aload 0 100 := rfl
theorem aX11_shift_100 (K : Kt) : tl K (lX11_shift) 100 = o_iload 1 101 := rfl
theorem aX11_shift_101 (K : Kt) : tl K (lX11_shift) 101 = o_iload 2 102 := rfl
theorem aX11_shift_102 (K : Kt) : tl K (lX11_shift) 102 = o_callV fX11_who 2 11 105 := rfl
theorem aX11_shift_105 (K : Kt) : tl K (lX11_shift) 105 = o_iload 1 106 := rfl
set_option maxRecDepth 8000 in
theorem aX11_shift_106 (K : Kt) : tl K (lX11_shift) 106 = o_iload 3 107 := rfl
set_option maxRecDepth 8000 in
theorem aX11_shift_107 (K : Kt) : tl K (lX11_shift) 107 = o_callV fX11_isAloneAllowed 3 11 110 := rfl
set_option maxRecDepth 8000 in
theorem aX11_shift_110 (K : Kt) : tl K (lX11_shift) 110 = o_if_eq 117 113 := rfl
set_option maxRecDepth 8000 in
theorem aX11_shift_113 (K : Kt) : tl K (lX11_shift) 113 = o_pushI (nI 0) 114 := rfl
set_option maxRecDepth 8000 in
theorem aX11_shift_114 (K : Kt) : tl K (lX11_shift) 114 = o_goto 118 := rfl
set_option maxRecDepth 8000 in
theorem aX11_shift_117 (K : Kt) : tl K (lX11_shift) 117 = o_pushI (nI 5) 118 := rfl
set_option maxRecDepth 8000 in
theorem aX11_shift_118 (K : Kt) : tl K (lX11_shift) 118 = o_istore 5 120 := rfl
set_option maxRecDepth 8000 in
theorem aX11_shift_120 (K : Kt) : tl K (lX11_shift) 120 = o_aload 0 121 := rfl
set_option maxRecDepth 8000 in
theorem aX11_shift_121 (K : Kt) : tl K (lX11_shift) 121 = o_iload 5 123 := rfl
set_option maxRecDepth 8000 in
theorem aX11_shift_123 (K : Kt) : tl K (lX11_shift) 123 = o_callV fX11_isRefused 1 11 126 := rfl
set_option maxRecDepth 8000 in
theorem aX11_shift_126 (K : Kt) : tl K (lX11_shift) 126 = o_if_eq 131 129 := rfl
set_option maxRecDepth 8000 in
theorem aX11_shift_129 (K : Kt) : tl K (lX11_shift) 129 = o_pushI ((-1)) 130 := rfl
set_option maxRecDepth 8000 in
theorem aX11_shift_130 (K : Kt) : tl K (lX11_shift) 130 = o_iret K := rfl
set_option maxRecDepth 8000 in
theorem aX11_shift_131 (K : Kt) : tl K (lX11_shift) 131 = o_aload 0 132 := rfl
set_option maxRecDepth 8000 in
theorem aX11_shift_132 (K : Kt) : tl K (lX11_shift) 132 = o_callV fX11_remembers 0 11 135 := rfl
set_option maxRecDepth 8000 in
theorem aX11_shift_135 (K : Kt) : tl K (lX11_shift) 135 = o_aload 0 136 := rfl
set_option maxRecDepth 8000 in
theorem aX11_shift_136 (K : Kt) : tl K (lX11_shift) 136 = o_iload 1 137 := rfl
set_option maxRecDepth 8000 in
theorem aX11_shift_137 (K : Kt) : tl K (lX11_shift) 137 = o_iload 2 138 := rfl
set_option maxRecDepth 8000 in
theorem aX11_shift_138 (K : Kt) : tl K (lX11_shift) 138 = o_callV fX11_throwsAt 2 11 141 := rfl
set_option maxRecDepth 8000 in
theorem aX11_shift_141 (K : Kt) : tl K (lX11_shift) 141 = o_istore 6 143 := rfl
set_option maxRecDepth 8000 in
theorem aX11_shift_143 (K : Kt) : tl K (lX11_shift) 143 = o_aload 0 144 := rfl
set_option maxRecDepth 8000 in
theorem aX11_shift_144 (K : Kt) : tl K (lX11_shift) 144 = o_get 11 7 147 := rfl
set_option maxRecDepth 8000 in
theorem aX11_shift_147 (K : Kt) : tl K (lX11_shift) 147 = o_pushI (nI 186) 150 := rfl
set_option maxRecDepth 8000 in
theorem aX11_shift_150 (K : Kt) : tl K (lX11_shift) 150 = o_aload 0 151 := rfl
set_option maxRecDepth 8000 in
theorem aX11_shift_151 (K : Kt) : tl K (lX11_shift) 151 = o_iload 1 152 := rfl
set_option maxRecDepth 8000 in
theorem aX11_shift_152 (K : Kt) : tl K (lX11_shift) 152 = o_iload 2 153 := rfl
set_option maxRecDepth 8000 in
theorem aX11_shift_153 (K : Kt) : tl K (lX11_shift) 153 = o_callV fX11_slot 2 11 156 := rfl
set_option maxRecDepth 8000 in
theorem aX11_shift_156 (K : Kt) : tl K (lX11_shift) 156 = o_iadd 157 := rfl
set_option maxRecDepth 8000 in
theorem aX11_shift_157 (K : Kt) : tl K (lX11_shift) 157 = o_iload 3 158 := rfl
set_option maxRecDepth 8000 in
theorem aX11_shift_158 (K : Kt) : tl K (lX11_shift) 158 = o_iast 159 := rfl
set_option maxRecDepth 8000 in
theorem aX11_shift_159 (K : Kt) : tl K (lX11_shift) 159 = o_iload 6 161 := rfl
set_option maxRecDepth 8000 in
theorem aX11_shift_161 (K : Kt) : tl K (lX11_shift) 161 = o_iret K := rfl
theorem eX11_exchanges {As L : List Value} {w : Wd} {K : Kt} (hw : wds As ≤ 6) (hL : ent 6 As = L) (h : RR (tl K lX11_exchanges) 0 L [] w) : fX11_exchanges As w K := ⟨hw, by rw [hL]; exact h⟩
theorem nX11_exchanges : MonoF fX11_exchanges := mono_f 6 lX11_exchanges
theorem aX11_exchanges_0 (K : Kt) : tl K (lX11_exchanges) 0 = o_aload 0 1 := rfl
theorem aX11_exchanges_1 (K : Kt) : tl K (lX11_exchanges) 1 = o_iload 1 2 := rfl
theorem aX11_exchanges_2 (K : Kt) : tl K (lX11_exchanges) 2 = o_iload 2 3 := rfl
theorem aX11_exchanges_3 (K : Kt) : tl K (lX11_exchanges) 3 = o_callV fX11_who 2 11 6 := rfl
theorem aX11_exchanges_6 (K : Kt) : tl K (lX11_exchanges) 6 = o_istore 5 8 := rfl
theorem aX11_exchanges_8 (K : Kt) : tl K (lX11_exchanges) 8 = o_aload 0 9 := rfl
theorem aX11_exchanges_9 (K : Kt) : tl K (lX11_exchanges) 9 = o_get 11 7 12 := rfl
theorem aX11_exchanges_12 (K : Kt) : tl K (lX11_exchanges) 12 = o_pushI (nI 126) 14 := rfl
theorem aX11_exchanges_14 (K : Kt) : tl K (lX11_exchanges) 14 = o_aload 0 15 := rfl
theorem aX11_exchanges_15 (K : Kt) : tl K (lX11_exchanges) 15 = o_iload 1 16 := rfl
theorem aX11_exchanges_16 (K : Kt) : tl K (lX11_exchanges) 16 = o_iload 2 17 := rfl
theorem aX11_exchanges_17 (K : Kt) : tl K (lX11_exchanges) 17 = o_callV fX11_slot 2 11 20 := rfl
theorem aX11_exchanges_20 (K : Kt) : tl K (lX11_exchanges) 20 = o_iadd 21 := rfl
theorem aX11_exchanges_21 (K : Kt) : tl K (lX11_exchanges) 21 = o_aload 0 22 := rfl
theorem aX11_exchanges_22 (K : Kt) : tl K (lX11_exchanges) 22 = o_iload 3 23 := rfl
theorem aX11_exchanges_23 (K : Kt) : tl K (lX11_exchanges) 23 = o_iload 4 25 := rfl
theorem aX11_exchanges_25 (K : Kt) : tl K (lX11_exchanges) 25 = o_callV fX11_who 2 11 28 := rfl
theorem aX11_exchanges_28 (K : Kt) : tl K (lX11_exchanges) 28 = o_iast 29 := rfl
theorem aX11_exchanges_29 (K : Kt) : tl K (lX11_exchanges) 29 = o_aload 0 30 := rfl
theorem aX11_exchanges_30 (K : Kt) : tl K (lX11_exchanges) 30 = o_get 11 7 33 := rfl
theorem aX11_exchanges_33 (K : Kt) : tl K (lX11_exchanges) 33 = o_pushI (nI 126) 35 := rfl
theorem aX11_exchanges_35 (K : Kt) : tl K (lX11_exchanges) 35 = o_aload 0 36 := rfl
theorem aX11_exchanges_36 (K : Kt) : tl K (lX11_exchanges) 36 = o_iload 3 37 := rfl
theorem aX11_exchanges_37 (K : Kt) : tl K (lX11_exchanges) 37 = o_iload 4 39 := rfl
theorem aX11_exchanges_39 (K : Kt) : tl K (lX11_exchanges) 39 = o_callV fX11_slot 2 11 42 := rfl
theorem aX11_exchanges_42 (K : Kt) : tl K (lX11_exchanges) 42 = o_iadd 43 := rfl
theorem aX11_exchanges_43 (K : Kt) : tl K (lX11_exchanges) 43 = o_iload 5 45 := rfl
theorem aX11_exchanges_45 (K : Kt) : tl K (lX11_exchanges) 45 = o_iast 46 := rfl
theorem aX11_exchanges_46 (K : Kt) : tl K (lX11_exchanges) 46 = o_vret K := rfl
theorem eX11_swap {As L : List Value} {w : Wd} {K : Kt} (hw : wds As ≤ 7) (hL : ent 7 As = L) (h : RR (tl K lX11_swap) 0 L [] w) : fX11_swap As w K := ⟨hw, by rw [hL]; exact h⟩
theorem nX11_swap : MonoF fX11_swap := mono_f 7 lX11_swap
theorem aX11_swap_0 (K : Kt) : tl K (lX11_swap) 0 = o_aload 0 1 := rfl
theorem aX11_swap_1 (K : Kt) : tl K (lX11_swap) 1 = o_iload 1 2 := rfl
theorem aX11_swap_2 (K : Kt) : tl K (lX11_swap) 2 = o_callV fX11_isGame 1 11 5 := rfl
theorem aX11_swap_5 (K : Kt) : tl K (lX11_swap) 5 = o_if_eq 59 8 := rfl
theorem aX11_swap_8 (K : Kt) : tl K (lX11_swap) 8 = o_iload 2 9 := rfl
theorem aX11_swap_9 (K : Kt) : tl K (lX11_swap) 9 = o_pushI (nI 0) 10 := rfl
theorem aX11_swap_10 (K : Kt) : tl K (lX11_swap) 10 = o_aload 0 11 := rfl
theorem aX11_swap_11 (K : Kt) : tl K (lX11_swap) 11 = o_get 11 7 14 := rfl
theorem aX11_swap_14 (K : Kt) : tl K (lX11_swap) 14 = o_pushI (nI 106) 16 := rfl
theorem aX11_swap_16 (K : Kt) : tl K (lX11_swap) 16 = o_iload 1 17 := rfl
theorem aX11_swap_17 (K : Kt) : tl K (lX11_swap) 17 = o_iadd 18 := rfl
theorem aX11_swap_18 (K : Kt) : tl K (lX11_swap) 18 = o_iald 19 := rfl
theorem aX11_swap_19 (K : Kt) : tl K (lX11_swap) 19 = o_pushI (nI 1) 20 := rfl
theorem aX11_swap_20 (K : Kt) : tl K (lX11_swap) 20 = o_isub 21 := rfl
theorem aX11_swap_21 (K : Kt) : tl K (lX11_swap) 21 = o_callS fX11_in 3 24 := rfl
theorem aX11_swap_24 (K : Kt) : tl K (lX11_swap) 24 = o_if_eq 59 27 := rfl
theorem aX11_swap_27 (K : Kt) : tl K (lX11_swap) 27 = o_aload 0 28 := rfl
theorem aX11_swap_28 (K : Kt) : tl K (lX11_swap) 28 = o_iload 3 29 := rfl
theorem aX11_swap_29 (K : Kt) : tl K (lX11_swap) 29 = o_callV fX11_isGame 1 11 32 := rfl
theorem aX11_swap_32 (K : Kt) : tl K (lX11_swap) 32 = o_if_eq 59 35 := rfl
theorem aX11_swap_35 (K : Kt) : tl K (lX11_swap) 35 = o_iload 4 37 := rfl
theorem aX11_swap_37 (K : Kt) : tl K (lX11_swap) 37 = o_pushI (nI 0) 38 := rfl
theorem aX11_swap_38 (K : Kt) : tl K (lX11_swap) 38 = o_aload 0 39 := rfl
theorem aX11_swap_39 (K : Kt) : tl K (lX11_swap) 39 = o_get 11 7 42 := rfl
theorem aX11_swap_42 (K : Kt) : tl K (lX11_swap) 42 = o_pushI (nI 106) 44 := rfl
theorem aX11_swap_44 (K : Kt) : tl K (lX11_swap) 44 = o_iload 3 45 := rfl
theorem aX11_swap_45 (K : Kt) : tl K (lX11_swap) 45 = o_iadd 46 := rfl
theorem aX11_swap_46 (K : Kt) : tl K (lX11_swap) 46 = o_iald 47 := rfl
theorem aX11_swap_47 (K : Kt) : tl K (lX11_swap) 47 = o_pushI (nI 1) 48 := rfl
theorem aX11_swap_48 (K : Kt) : tl K (lX11_swap) 48 = o_isub 49 := rfl
theorem aX11_swap_49 (K : Kt) : tl K (lX11_swap) 49 = o_callS fX11_in 3 52 := rfl
theorem aX11_swap_52 (K : Kt) : tl K (lX11_swap) 52 = o_if_eq 59 55 := rfl
theorem aX11_swap_55 (K : Kt) : tl K (lX11_swap) 55 = o_pushI (nI 1) 56 := rfl
theorem aX11_swap_56 (K : Kt) : tl K (lX11_swap) 56 = o_goto 60 := rfl
theorem aX11_swap_59 (K : Kt) : tl K (lX11_swap) 59 = o_pushI (nI 0) 60 := rfl
theorem aX11_swap_60 (K : Kt) : tl K (lX11_swap) 60 = o_istore 5 62 := rfl
theorem aX11_swap_62 (K : Kt) : tl K (lX11_swap) 62 = o_iload 5 64 := rfl
theorem aX11_swap_64 (K : Kt) : tl K (lX11_swap) 64 = o_if_ne 71 67 := rfl
theorem aX11_swap_67 (K : Kt) : tl K (lX11_swap) 67 = o_pushI (nI 1) 68 := rfl
theorem aX11_swap_68 (K : Kt) : tl K (lX11_swap) 68 = o_goto 110 := rfl
theorem aX11_swap_71 (K : Kt) : tl K (lX11_swap) 71 = o_iload 1 72 := rfl
theorem aX11_swap_72 (K : Kt) : tl K (lX11_swap) 72 = o_iload 3 73 := rfl
theorem aX11_swap_73 (K : Kt) : tl K (lX11_swap) 73 = o_icmp_eq 105 76 := rfl
theorem aX11_swap_76 (K : Kt) : tl K (lX11_swap) 76 = o_aload 0 77 := rfl
theorem aX11_swap_77 (K : Kt) : tl K (lX11_swap) 77 = o_aload 0 78 := rfl
theorem aX11_swap_78 (K : Kt) : tl K (lX11_swap) 78 = o_iload 1 79 := rfl
theorem aX11_swap_79 (K : Kt) : tl K (lX11_swap) 79 = o_iload 2 80 := rfl
theorem aX11_swap_80 (K : Kt) : tl K (lX11_swap) 80 = o_callV fX11_who 2 11 83 := rfl
theorem aX11_swap_83 (K : Kt) : tl K (lX11_swap) 83 = o_iload 3 84 := rfl
theorem aX11_swap_84 (K : Kt) : tl K (lX11_swap) 84 = o_callV fX11_isIn 2 11 87 := rfl
theorem aX11_swap_87 (K : Kt) : tl K (lX11_swap) 87 = o_if_ne 105 90 := rfl
theorem aX11_swap_90 (K : Kt) : tl K (lX11_swap) 90 = o_aload 0 91 := rfl
theorem aX11_swap_91 (K : Kt) : tl K (lX11_swap) 91 = o_aload 0 92 := rfl
theorem aX11_swap_92 (K : Kt) : tl K (lX11_swap) 92 = o_iload 3 93 := rfl
theorem aX11_swap_93 (K : Kt) : tl K (lX11_swap) 93 = o_iload 4 95 := rfl
theorem aX11_swap_95 (K : Kt) : tl K (lX11_swap) 95 = o_callV fX11_who 2 11 98 := rfl
theorem aX11_swap_98 (K : Kt) : tl K (lX11_swap) 98 = o_iload 1 99 := rfl
theorem aX11_swap_99 (K : Kt) : tl K (lX11_swap) 99 = o_callV fX11_isIn 2 11 102 := rfl
theorem aX11_swap_102 (K : Kt) : tl K (lX11_swap) 102 = o_if_eq 109 105 := rfl
theorem aX11_swap_105 (K : Kt) : tl K (lX11_swap) 105 = o_pushI (nI 5) 106 := rfl
theorem aX11_swap_106 (K : Kt) : tl K (lX11_swap) 106 = o_goto 110 := rfl
set_option maxRecDepth 8000 in
theorem aX11_swap_109 (K : Kt) : tl K (lX11_swap) 109 = o_pushI (nI 0) 110 := rfl
set_option maxRecDepth 8000 in
theorem aX11_swap_110 (K : Kt) : tl K (lX11_swap) 110 = o_istore 6 112 := rfl
set_option maxRecDepth 8000 in
theorem aX11_swap_112 (K : Kt) : tl K (lX11_swap) 112 = o_iload 6 114 := rfl
set_option maxRecDepth 8000 in
theorem aX11_swap_114 (K : Kt) : tl K (lX11_swap) 114 = o_if_ne 161 117 := rfl
set_option maxRecDepth 8000 in
theorem aX11_swap_117 (K : Kt) : tl K (lX11_swap) 117 = o_aload 0 118 := rfl
set_option maxRecDepth 8000 in
theorem aX11_swap_118 (K : Kt) : tl K (lX11_swap) 118 = o_iload 1 119 := rfl
set_option maxRecDepth 8000 in
theorem aX11_swap_119 (K : Kt) : tl K (lX11_swap) 119 = o_iload 2 120 := rfl
set_option maxRecDepth 8000 in
theorem aX11_swap_120 (K : Kt) : tl K (lX11_swap) 120 = o_iload 3 121 := rfl
set_option maxRecDepth 8000 in
theorem aX11_swap_121 (K : Kt) : tl K (lX11_swap) 121 = o_iload 4 123 := rfl
set_option maxRecDepth 8000 in
theorem aX11_swap_123 (K : Kt) : tl K (lX11_swap) 123 = o_callV fX11_exchanges 4 11 126 := rfl
set_option maxRecDepth 8000 in
theorem aX11_swap_126 (K : Kt) : tl K (lX11_swap) 126 = o_aload 0 127 := rfl
set_option maxRecDepth 8000 in
theorem aX11_swap_127 (K : Kt) : tl K (lX11_swap) 127 = o_iload 1 128 := rfl
set_option maxRecDepth 8000 in
theorem aX11_swap_128 (K : Kt) : tl K (lX11_swap) 128 = o_iload 2 129 := rfl
set_option maxRecDepth 8000 in
theorem aX11_swap_129 (K : Kt) : tl K (lX11_swap) 129 = o_callV fX11_isAllowedAt 2 11 132 := rfl
set_option maxRecDepth 8000 in
theorem aX11_swap_132 (K : Kt) : tl K (lX11_swap) 132 = o_if_eq 149 135 := rfl
set_option maxRecDepth 8000 in
theorem aX11_swap_135 (K : Kt) : tl K (lX11_swap) 135 = o_aload 0 136 := rfl
set_option maxRecDepth 8000 in
theorem aX11_swap_136 (K : Kt) : tl K (lX11_swap) 136 = o_iload 3 137 := rfl
set_option maxRecDepth 8000 in
theorem aX11_swap_137 (K : Kt) : tl K (lX11_swap) 137 = o_iload 4 139 := rfl
set_option maxRecDepth 8000 in
theorem aX11_swap_139 (K : Kt) : tl K (lX11_swap) 139 = o_callV fX11_isAllowedAt 2 11 142 := rfl
set_option maxRecDepth 8000 in
theorem aX11_swap_142 (K : Kt) : tl K (lX11_swap) 142 = o_if_eq 149 145 := rfl
set_option maxRecDepth 8000 in
theorem aX11_swap_145 (K : Kt) : tl K (lX11_swap) 145 = o_pushI (nI 0) 146 := rfl
set_option maxRecDepth 8000 in
theorem aX11_swap_146 (K : Kt) : tl K (lX11_swap) 146 = o_goto 150 := rfl
set_option maxRecDepth 8000 in
theorem aX11_swap_149 (K : Kt) : tl K (lX11_swap) 149 = o_pushI (nI 5) 150 := rfl
set_option maxRecDepth 8000 in
theorem aX11_swap_150 (K : Kt) : tl K (lX11_swap) 150 = o_istore 6 152 := rfl
set_option maxRecDepth 8000 in
theorem aX11_swap_152 (K : Kt) : tl K (lX11_swap) 152 = o_aload 0 153 := rfl
set_option maxRecDepth 8000 in
theorem aX11_swap_153 (K : Kt) : tl K (lX11_swap) 153 = o_iload 1 154 := rfl
set_option maxRecDepth 8000 in
theorem aX11_swap_154 (K : Kt) : tl K (lX11_swap) 154 = o_iload 2 155 := rfl
set_option maxRecDepth 8000 in
theorem aX11_swap_155 (K : Kt) : tl K (lX11_swap) 155 = o_iload 3 156 := rfl
set_option maxRecDepth 8000 in
theorem aX11_swap_156 (K : Kt) : tl K (lX11_swap) 156 = o_iload 4 158 := rfl
set_option maxRecDepth 8000 in
theorem aX11_swap_158 (K : Kt) : tl K (lX11_swap) 158 = o_callV fX11_exchanges 4 11 161 := rfl
set_option maxRecDepth 8000 in
theorem aX11_swap_161 (K : Kt) : tl K (lX11_swap) 161 = o_aload 0 162 := rfl
set_option maxRecDepth 8000 in
theorem aX11_swap_162 (K : Kt) : tl K (lX11_swap) 162 = o_iload 6 164 := rfl
set_option maxRecDepth 8000 in
theorem aX11_swap_164 (K : Kt) : tl K (lX11_swap) 164 = o_callV fX11_isRefused 1 11 167 := rfl
set_option maxRecDepth 8000 in
theorem aX11_swap_167 (K : Kt) : tl K (lX11_swap) 167 = o_if_eq 172 170 := rfl
set_option maxRecDepth 8000 in
theorem aX11_swap_170 (K : Kt) : tl K (lX11_swap) 170 = o_pushI (nI 0) 171 := rfl
set_option maxRecDepth 8000 in
theorem aX11_swap_171 (K : Kt) : tl K (lX11_swap) 171 = o_zret K := rfl
set_option maxRecDepth 8000 in
theorem aX11_swap_172 (K : Kt) : tl K (lX11_swap) 172 = o_aload 0 173 := rfl
set_option maxRecDepth 8000 in
theorem aX11_swap_173 (K : Kt) : tl K (lX11_swap) 173 = o_callV fX11_remembers 0 11 176 := rfl
set_option maxRecDepth 8000 in
theorem aX11_swap_176 (K : Kt) : tl K (lX11_swap) 176 = o_aload 0 177 := rfl
set_option maxRecDepth 8000 in
theorem aX11_swap_177 (K : Kt) : tl K (lX11_swap) 177 = o_iload 1 178 := rfl
set_option maxRecDepth 8000 in
theorem aX11_swap_178 (K : Kt) : tl K (lX11_swap) 178 = o_iload 2 179 := rfl
set_option maxRecDepth 8000 in
theorem aX11_swap_179 (K : Kt) : tl K (lX11_swap) 179 = o_iload 3 180 := rfl
set_option maxRecDepth 8000 in
theorem aX11_swap_180 (K : Kt) : tl K (lX11_swap) 180 = o_iload 4 182 := rfl
set_option maxRecDepth 8000 in
theorem aX11_swap_182 (K : Kt) : tl K (lX11_swap) 182 = o_callV fX11_exchanges 4 11 185 := rfl
set_option maxRecDepth 8000 in
theorem aX11_swap_185 (K : Kt) : tl K (lX11_swap) 185 = o_pushI (nI 1) 186 := rfl
set_option maxRecDepth 8000 in
theorem aX11_swap_186 (K : Kt) : tl K (lX11_swap) 186 = o_zret K := rfl
