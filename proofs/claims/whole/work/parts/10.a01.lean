theorem eX6_readRest {As L : List Value} {w : Wd} {K : Kt} (hw : wds As ≤ 3) (hL : ent 3 As = L) (h : RR (tl K lX6_readRest) 0 L [] w) : fX6_readRest As w K := ⟨hw, by rw [hL]; exact h⟩
theorem nX6_readRest : MonoF fX6_readRest := mono_f 3 lX6_readRest
theorem aX6_readRest_0 (K : Kt) : tl K (lX6_readRest) 0 = o_aload 0 1 := rfl
theorem aX6_readRest_1 (K : Kt) : tl K (lX6_readRest) 1 = o_get 6 2 4 := rfl
theorem aX6_readRest_4 (K : Kt) : tl K (lX6_readRest) 4 = o_get 9 7 7 := rfl
theorem aX6_readRest_7 (K : Kt) : tl K (lX6_readRest) 7 = o_istore 1 8 := rfl
theorem aX6_readRest_8 (K : Kt) : tl K (lX6_readRest) 8 = o_iload 1 9 := rfl
theorem aX6_readRest_9 (K : Kt) : tl K (lX6_readRest) 9 = o_pushI (nI 5) 10 := rfl
theorem aX6_readRest_10 (K : Kt) : tl K (lX6_readRest) 10 = o_icmp_lt 19 13 := rfl
theorem aX6_readRest_13 (K : Kt) : tl K (lX6_readRest) 13 = o_aload 0 14 := rfl
theorem aX6_readRest_14 (K : Kt) : tl K (lX6_readRest) 14 = o_pushI (nI 4) 15 := rfl
theorem aX6_readRest_15 (K : Kt) : tl K (lX6_readRest) 15 = o_callV fX6_fail 1 6 18 := rfl
theorem aX6_readRest_18 (K : Kt) : tl K (lX6_readRest) 18 = o_zret K := rfl
theorem aX6_readRest_19 (K : Kt) : tl K (lX6_readRest) 19 = o_iload 1 20 := rfl
theorem aX6_readRest_20 (K : Kt) : tl K (lX6_readRest) 20 = o_if_le 39 23 := rfl
theorem aX6_readRest_23 (K : Kt) : tl K (lX6_readRest) 23 = o_aload 0 24 := rfl
theorem aX6_readRest_24 (K : Kt) : tl K (lX6_readRest) 24 = o_get 6 2 27 := rfl
theorem aX6_readRest_27 (K : Kt) : tl K (lX6_readRest) 27 = o_get 9 8 30 := rfl
theorem aX6_readRest_30 (K : Kt) : tl K (lX6_readRest) 30 = o_iload 1 31 := rfl
theorem aX6_readRest_31 (K : Kt) : tl K (lX6_readRest) 31 = o_pushI (nI 1) 32 := rfl
theorem aX6_readRest_32 (K : Kt) : tl K (lX6_readRest) 32 = o_isub 33 := rfl
theorem aX6_readRest_33 (K : Kt) : tl K (lX6_readRest) 33 = o_iald 34 := rfl
theorem aX6_readRest_34 (K : Kt) : tl K (lX6_readRest) 34 = o_pushI (nI 1) 35 := rfl
theorem aX6_readRest_35 (K : Kt) : tl K (lX6_readRest) 35 = o_iadd 36 := rfl
theorem aX6_readRest_36 (K : Kt) : tl K (lX6_readRest) 36 = o_goto 40 := rfl
theorem aX6_readRest_39 (K : Kt) : tl K (lX6_readRest) 39 = o_pushI (nI 1) 40 := rfl
theorem aX6_readRest_40 (K : Kt) : tl K (lX6_readRest) 40 = o_istore 2 41 := rfl
theorem aX6_readRest_41 (K : Kt) : tl K (lX6_readRest) 41 = o_aload 0 42 := rfl
theorem aX6_readRest_42 (K : Kt) : tl K (lX6_readRest) 42 = o_iload 2 43 := rfl
theorem aX6_readRest_43 (K : Kt) : tl K (lX6_readRest) 43 = o_pushI (nI 120) 45 := rfl
theorem aX6_readRest_45 (K : Kt) : tl K (lX6_readRest) 45 = o_callV fX6_readWhole 2 6 48 := rfl
theorem aX6_readRest_48 (K : Kt) : tl K (lX6_readRest) 48 = o_if_ne 53 51 := rfl
theorem aX6_readRest_51 (K : Kt) : tl K (lX6_readRest) 51 = o_pushI (nI 0) 52 := rfl
theorem aX6_readRest_52 (K : Kt) : tl K (lX6_readRest) 52 = o_zret K := rfl
theorem aX6_readRest_53 (K : Kt) : tl K (lX6_readRest) 53 = o_aload 0 54 := rfl
theorem aX6_readRest_54 (K : Kt) : tl K (lX6_readRest) 54 = o_get 6 2 57 := rfl
theorem aX6_readRest_57 (K : Kt) : tl K (lX6_readRest) 57 = o_get 9 8 60 := rfl
theorem aX6_readRest_60 (K : Kt) : tl K (lX6_readRest) 60 = o_iload 1 61 := rfl
theorem aX6_readRest_61 (K : Kt) : tl K (lX6_readRest) 61 = o_aload 0 62 := rfl
theorem aX6_readRest_62 (K : Kt) : tl K (lX6_readRest) 62 = o_get 6 0 65 := rfl
theorem aX6_readRest_65 (K : Kt) : tl K (lX6_readRest) 65 = o_get 8 6 68 := rfl
theorem aX6_readRest_68 (K : Kt) : tl K (lX6_readRest) 68 = o_iast 69 := rfl
theorem aX6_readRest_69 (K : Kt) : tl K (lX6_readRest) 69 = o_aload 0 70 := rfl
theorem aX6_readRest_70 (K : Kt) : tl K (lX6_readRest) 70 = o_pushI (nI 0) 71 := rfl
theorem aX6_readRest_71 (K : Kt) : tl K (lX6_readRest) 71 = o_pushI (nI 9) 73 := rfl
theorem aX6_readRest_73 (K : Kt) : tl K (lX6_readRest) 73 = o_callV fX6_readWhole 2 6 76 := rfl
theorem aX6_readRest_76 (K : Kt) : tl K (lX6_readRest) 76 = o_if_ne 81 79 := rfl
theorem aX6_readRest_79 (K : Kt) : tl K (lX6_readRest) 79 = o_pushI (nI 0) 80 := rfl
theorem aX6_readRest_80 (K : Kt) : tl K (lX6_readRest) 80 = o_zret K := rfl
theorem aX6_readRest_81 (K : Kt) : tl K (lX6_readRest) 81 = o_aload 0 82 := rfl
theorem aX6_readRest_82 (K : Kt) : tl K (lX6_readRest) 82 = o_get 6 2 85 := rfl
theorem aX6_readRest_85 (K : Kt) : tl K (lX6_readRest) 85 = o_get 9 9 88 := rfl
theorem aX6_readRest_88 (K : Kt) : tl K (lX6_readRest) 88 = o_iload 1 89 := rfl
theorem aX6_readRest_89 (K : Kt) : tl K (lX6_readRest) 89 = o_aload 0 90 := rfl
theorem aX6_readRest_90 (K : Kt) : tl K (lX6_readRest) 90 = o_get 6 0 93 := rfl
theorem aX6_readRest_93 (K : Kt) : tl K (lX6_readRest) 93 = o_get 8 6 96 := rfl
theorem aX6_readRest_96 (K : Kt) : tl K (lX6_readRest) 96 = o_iast 97 := rfl
theorem aX6_readRest_97 (K : Kt) : tl K (lX6_readRest) 97 = o_aload 0 98 := rfl
theorem aX6_readRest_98 (K : Kt) : tl K (lX6_readRest) 98 = o_get 6 2 101 := rfl
theorem aX6_readRest_101 (K : Kt) : tl K (lX6_readRest) 101 = o_dup 102 := rfl
theorem aX6_readRest_102 (K : Kt) : tl K (lX6_readRest) 102 = o_get 9 7 105 := rfl
theorem aX6_readRest_105 (K : Kt) : tl K (lX6_readRest) 105 = o_pushI (nI 1) 106 := rfl
theorem aX6_readRest_106 (K : Kt) : tl K (lX6_readRest) 106 = o_iadd 107 := rfl
set_option maxRecDepth 8000 in
theorem aX6_readRest_107 (K : Kt) : tl K (lX6_readRest) 107 = o_putI 9 7 110 := rfl
set_option maxRecDepth 8000 in
theorem aX6_readRest_110 (K : Kt) : tl K (lX6_readRest) 110 = o_pushI (nI 1) 111 := rfl
set_option maxRecDepth 8000 in
theorem aX6_readRest_111 (K : Kt) : tl K (lX6_readRest) 111 = o_zret K := rfl
theorem eX6_readBound {As L : List Value} {w : Wd} {K : Kt} (hw : wds As ≤ 2) (hL : ent 2 As = L) (h : RR (tl K lX6_readBound) 0 L [] w) : fX6_readBound As w K := ⟨hw, by rw [hL]; exact h⟩
theorem nX6_readBound : MonoF fX6_readBound := mono_f 2 lX6_readBound
theorem aX6_readBound_0 (K : Kt) : tl K (lX6_readBound) 0 = o_aload 0 1 := rfl
theorem aX6_readBound_1 (K : Kt) : tl K (lX6_readBound) 1 = o_get 6 1 4 := rfl
theorem aX6_readBound_4 (K : Kt) : tl K (lX6_readBound) 4 = o_iload 1 5 := rfl
theorem aX6_readBound_5 (K : Kt) : tl K (lX6_readBound) 5 = o_zald 6 := rfl
theorem aX6_readBound_6 (K : Kt) : tl K (lX6_readBound) 6 = o_if_eq 15 9 := rfl
theorem aX6_readBound_9 (K : Kt) : tl K (lX6_readBound) 9 = o_aload 0 10 := rfl
theorem aX6_readBound_10 (K : Kt) : tl K (lX6_readBound) 10 = o_pushI (nI 3) 11 := rfl
theorem aX6_readBound_11 (K : Kt) : tl K (lX6_readBound) 11 = o_callV fX6_fail 1 6 14 := rfl
theorem aX6_readBound_14 (K : Kt) : tl K (lX6_readBound) 14 = o_zret K := rfl
theorem aX6_readBound_15 (K : Kt) : tl K (lX6_readBound) 15 = o_aload 0 16 := rfl
theorem aX6_readBound_16 (K : Kt) : tl K (lX6_readBound) 16 = o_get 6 1 19 := rfl
theorem aX6_readBound_19 (K : Kt) : tl K (lX6_readBound) 19 = o_iload 1 20 := rfl
theorem aX6_readBound_20 (K : Kt) : tl K (lX6_readBound) 20 = o_pushI (nI 1) 21 := rfl
theorem aX6_readBound_21 (K : Kt) : tl K (lX6_readBound) 21 = o_zast 22 := rfl
theorem aX6_readBound_22 (K : Kt) : tl K (lX6_readBound) 22 = o_aload 0 23 := rfl
theorem aX6_readBound_23 (K : Kt) : tl K (lX6_readBound) 23 = o_pushR 104 26 := rfl
theorem aX6_readBound_26 (K : Kt) : tl K (lX6_readBound) 26 = o_iload 1 27 := rfl
theorem aX6_readBound_27 (K : Kt) : tl K (lX6_readBound) 27 = o_iaro 28 := rfl
theorem aX6_readBound_28 (K : Kt) : tl K (lX6_readBound) 28 = o_pushR 105 31 := rfl
theorem aX6_readBound_31 (K : Kt) : tl K (lX6_readBound) 31 = o_iload 1 32 := rfl
theorem aX6_readBound_32 (K : Kt) : tl K (lX6_readBound) 32 = o_iaro 33 := rfl
theorem aX6_readBound_33 (K : Kt) : tl K (lX6_readBound) 33 = o_callV fX6_readWhole 2 6 36 := rfl
theorem aX6_readBound_36 (K : Kt) : tl K (lX6_readBound) 36 = o_if_ne 41 39 := rfl
theorem aX6_readBound_39 (K : Kt) : tl K (lX6_readBound) 39 = o_pushI (nI 0) 40 := rfl
theorem aX6_readBound_40 (K : Kt) : tl K (lX6_readBound) 40 = o_zret K := rfl
theorem aX6_readBound_41 (K : Kt) : tl K (lX6_readBound) 41 = o_aload 0 42 := rfl
theorem aX6_readBound_42 (K : Kt) : tl K (lX6_readBound) 42 = o_get 6 2 45 := rfl
theorem aX6_readBound_45 (K : Kt) : tl K (lX6_readBound) 45 = o_get 9 6 48 := rfl
theorem aX6_readBound_48 (K : Kt) : tl K (lX6_readBound) 48 = o_iload 1 49 := rfl
theorem aX6_readBound_49 (K : Kt) : tl K (lX6_readBound) 49 = o_aload 0 50 := rfl
theorem aX6_readBound_50 (K : Kt) : tl K (lX6_readBound) 50 = o_get 6 0 53 := rfl
theorem aX6_readBound_53 (K : Kt) : tl K (lX6_readBound) 53 = o_get 8 6 56 := rfl
theorem aX6_readBound_56 (K : Kt) : tl K (lX6_readBound) 56 = o_iast 57 := rfl
theorem aX6_readBound_57 (K : Kt) : tl K (lX6_readBound) 57 = o_pushI (nI 1) 58 := rfl
theorem aX6_readBound_58 (K : Kt) : tl K (lX6_readBound) 58 = o_zret K := rfl
theorem eX6_readLine {As L : List Value} {w : Wd} {K : Kt} (hw : wds As ≤ 1) (hL : ent 1 As = L) (h : RR (tl K lX6_readLine) 0 L [] w) : fX6_readLine As w K := ⟨hw, by rw [hL]; exact h⟩
theorem nX6_readLine : MonoF fX6_readLine := mono_f 1 lX6_readLine
theorem aX6_readLine_0 (K : Kt) : tl K (lX6_readLine) 0 = o_aload 0 1 := rfl
theorem aX6_readLine_1 (K : Kt) : tl K (lX6_readLine) 1 = o_get 6 0 4 := rfl
theorem aX6_readLine_4 (K : Kt) : tl K (lX6_readLine) 4 = o_callV fX8_nextToken 0 8 7 := rfl
theorem aX6_readLine_7 (K : Kt) : tl K (lX6_readLine) 7 = o_aload 0 8 := rfl
theorem aX6_readLine_8 (K : Kt) : tl K (lX6_readLine) 8 = o_get 6 0 11 := rfl
theorem aX6_readLine_11 (K : Kt) : tl K (lX6_readLine) 11 = o_pushR 200 13 := rfl
theorem aX6_readLine_13 (K : Kt) : tl K (lX6_readLine) 13 = o_callV fX8_isWord 1 8 16 := rfl
theorem aX6_readLine_16 (K : Kt) : tl K (lX6_readLine) 16 = o_if_eq 24 19 := rfl
theorem aX6_readLine_19 (K : Kt) : tl K (lX6_readLine) 19 = o_aload 0 20 := rfl
theorem aX6_readLine_20 (K : Kt) : tl K (lX6_readLine) 20 = o_callV fX6_readArm 0 6 23 := rfl
theorem aX6_readLine_23 (K : Kt) : tl K (lX6_readLine) 23 = o_zret K := rfl
theorem aX6_readLine_24 (K : Kt) : tl K (lX6_readLine) 24 = o_aload 0 25 := rfl
theorem aX6_readLine_25 (K : Kt) : tl K (lX6_readLine) 25 = o_get 6 0 28 := rfl
theorem aX6_readLine_28 (K : Kt) : tl K (lX6_readLine) 28 = o_pushR 203 30 := rfl
theorem aX6_readLine_30 (K : Kt) : tl K (lX6_readLine) 30 = o_callV fX8_isWord 1 8 33 := rfl
theorem aX6_readLine_33 (K : Kt) : tl K (lX6_readLine) 33 = o_if_eq 41 36 := rfl
theorem aX6_readLine_36 (K : Kt) : tl K (lX6_readLine) 36 = o_aload 0 37 := rfl
theorem aX6_readLine_37 (K : Kt) : tl K (lX6_readLine) 37 = o_callV fX6_readGame 0 6 40 := rfl
theorem aX6_readLine_40 (K : Kt) : tl K (lX6_readLine) 40 = o_zret K := rfl
theorem aX6_readLine_41 (K : Kt) : tl K (lX6_readLine) 41 = o_aload 0 42 := rfl
theorem aX6_readLine_42 (K : Kt) : tl K (lX6_readLine) 42 = o_get 6 0 45 := rfl
theorem aX6_readLine_45 (K : Kt) : tl K (lX6_readLine) 45 = o_pushR 204 47 := rfl
theorem aX6_readLine_47 (K : Kt) : tl K (lX6_readLine) 47 = o_callV fX8_isWord 1 8 50 := rfl
theorem aX6_readLine_50 (K : Kt) : tl K (lX6_readLine) 50 = o_if_eq 58 53 := rfl
theorem aX6_readLine_53 (K : Kt) : tl K (lX6_readLine) 53 = o_aload 0 54 := rfl
theorem aX6_readLine_54 (K : Kt) : tl K (lX6_readLine) 54 = o_callV fX6_readRest 0 6 57 := rfl
theorem aX6_readLine_57 (K : Kt) : tl K (lX6_readLine) 57 = o_zret K := rfl
theorem aX6_readLine_58 (K : Kt) : tl K (lX6_readLine) 58 = o_aload 0 59 := rfl
theorem aX6_readLine_59 (K : Kt) : tl K (lX6_readLine) 59 = o_get 6 0 62 := rfl
theorem aX6_readLine_62 (K : Kt) : tl K (lX6_readLine) 62 = o_pushR 205 64 := rfl
theorem aX6_readLine_64 (K : Kt) : tl K (lX6_readLine) 64 = o_callV fX8_isWord 1 8 67 := rfl
theorem aX6_readLine_67 (K : Kt) : tl K (lX6_readLine) 67 = o_if_eq 76 70 := rfl
theorem aX6_readLine_70 (K : Kt) : tl K (lX6_readLine) 70 = o_aload 0 71 := rfl
theorem aX6_readLine_71 (K : Kt) : tl K (lX6_readLine) 71 = o_pushI (nI 0) 72 := rfl
theorem aX6_readLine_72 (K : Kt) : tl K (lX6_readLine) 72 = o_callV fX6_readBound 1 6 75 := rfl
theorem aX6_readLine_75 (K : Kt) : tl K (lX6_readLine) 75 = o_zret K := rfl
theorem aX6_readLine_76 (K : Kt) : tl K (lX6_readLine) 76 = o_aload 0 77 := rfl
theorem aX6_readLine_77 (K : Kt) : tl K (lX6_readLine) 77 = o_get 6 0 80 := rfl
theorem aX6_readLine_80 (K : Kt) : tl K (lX6_readLine) 80 = o_pushR 206 82 := rfl
theorem aX6_readLine_82 (K : Kt) : tl K (lX6_readLine) 82 = o_callV fX8_isWord 1 8 85 := rfl
theorem aX6_readLine_85 (K : Kt) : tl K (lX6_readLine) 85 = o_if_eq 94 88 := rfl
theorem aX6_readLine_88 (K : Kt) : tl K (lX6_readLine) 88 = o_aload 0 89 := rfl
theorem aX6_readLine_89 (K : Kt) : tl K (lX6_readLine) 89 = o_pushI (nI 1) 90 := rfl
theorem aX6_readLine_90 (K : Kt) : tl K (lX6_readLine) 90 = o_callV fX6_readBound 1 6 93 := rfl
theorem aX6_readLine_93 (K : Kt) : tl K (lX6_readLine) 93 = o_zret K := rfl
theorem aX6_readLine_94 (K : Kt) : tl K (lX6_readLine) 94 = o_aload 0 95 := rfl
theorem aX6_readLine_95 (K : Kt) : tl K (lX6_readLine) 95 = o_get 6 0 98 := rfl
theorem aX6_readLine_98 (K : Kt) : tl K (lX6_readLine) 98 = o_pushR 207 100 := rfl
theorem aX6_readLine_100 (K : Kt) : tl K (lX6_readLine) 100 = o_callV fX8_isWord 1 8 103 := rfl
theorem aX6_readLine_103 (K : Kt) : tl K (lX6_readLine) 103 = o_if_eq 114 106 := rfl
theorem aX6_readLine_106 (K : Kt) : tl K (lX6_readLine) 106 = o_aload 0 107 := rfl
theorem aX6_readLine_107 (K : Kt) : tl K (lX6_readLine) 107 = o_pushI (nI 2) 108 := rfl
theorem aX6_readLine_108 (K : Kt) : tl K (lX6_readLine) 108 = o_callV fX6_readBound 1 6 111 := rfl
theorem aX6_readLine_111 (K : Kt) : tl K (lX6_readLine) 111 = o_goto 119 := rfl
theorem aX6_readLine_114 (K : Kt) : tl K (lX6_readLine) 114 = o_aload 0 115 := rfl
theorem aX6_readLine_115 (K : Kt) : tl K (lX6_readLine) 115 = o_pushI (nI 1) 116 := rfl
theorem aX6_readLine_116 (K : Kt) : tl K (lX6_readLine) 116 = o_callV fX6_fail 1 6 119 := rfl
theorem aX6_readLine_119 (K : Kt) : tl K (lX6_readLine) 119 = o_zret K := rfl
theorem eX6_read {As L : List Value} {w : Wd} {K : Kt} (hw : wds As ≤ 3) (hL : ent 3 As = L) (h : RR (tl K lX6_read) 0 L [] w) : fX6_read As w K := ⟨hw, by rw [hL]; exact h⟩
theorem nX6_read : MonoF fX6_read := mono_f 3 lX6_read
theorem aX6_read_0 (K : Kt) : tl K (lX6_read) 0 = o_aload 0 1 := rfl
theorem aX6_read_1 (K : Kt) : tl K (lX6_read) 1 = o_pushI (nI 0) 2 := rfl
theorem aX6_read_2 (K : Kt) : tl K (lX6_read) 2 = o_putI 6 3 5 := rfl
theorem aX6_read_5 (K : Kt) : tl K (lX6_read) 5 = o_aload 0 6 := rfl
theorem aX6_read_6 (K : Kt) : tl K (lX6_read) 6 = o_pushI ((-1)) 7 := rfl
theorem aX6_read_7 (K : Kt) : tl K (lX6_read) 7 = o_putI 6 4 10 := rfl
theorem aX6_read_10 (K : Kt) : tl K (lX6_read) 10 = o_aload 0 11 := rfl
theorem aX6_read_11 (K : Kt) : tl K (lX6_read) 11 = o_get 6 2 14 := rfl
theorem aX6_read_14 (K : Kt) : tl K (lX6_read) 14 = o_callV fX9_empty 0 9 17 := rfl
theorem aX6_read_17 (K : Kt) : tl K (lX6_read) 17 = o_pushI (nI 0) 18 := rfl
theorem aX6_read_18 (K : Kt) : tl K (lX6_read) 18 = o_istore 2 19 := rfl
theorem aX6_read_19 (K : Kt) : tl K (lX6_read) 19 = o_iload 2 20 := rfl
theorem aX6_read_20 (K : Kt) : tl K (lX6_read) 20 = o_pushI (nI 3) 21 := rfl
theorem aX6_read_21 (K : Kt) : tl K (lX6_read) 21 = o_icmp_ge 37 24 := rfl
theorem aX6_read_24 (K : Kt) : tl K (lX6_read) 24 = o_aload 0 25 := rfl
theorem aX6_read_25 (K : Kt) : tl K (lX6_read) 25 = o_get 6 1 28 := rfl
theorem aX6_read_28 (K : Kt) : tl K (lX6_read) 28 = o_iload 2 29 := rfl
theorem aX6_read_29 (K : Kt) : tl K (lX6_read) 29 = o_pushI (nI 0) 30 := rfl
theorem aX6_read_30 (K : Kt) : tl K (lX6_read) 30 = o_zast 31 := rfl
theorem aX6_read_31 (K : Kt) : tl K (lX6_read) 31 = o_iinc 2 (nI 1) 34 := rfl
theorem aX6_read_34 (K : Kt) : tl K (lX6_read) 34 = o_goto 19 := rfl
theorem aX6_read_37 (K : Kt) : tl K (lX6_read) 37 = o_aload 0 38 := rfl
theorem aX6_read_38 (K : Kt) : tl K (lX6_read) 38 = o_get 6 0 41 := rfl
theorem aX6_read_41 (K : Kt) : tl K (lX6_read) 41 = o_iload 1 42 := rfl
theorem aX6_read_42 (K : Kt) : tl K (lX6_read) 42 = o_callV fX8_beginTokens 1 8 45 := rfl
theorem aX6_read_45 (K : Kt) : tl K (lX6_read) 45 = o_pushI (nI 0) 46 := rfl
theorem aX6_read_46 (K : Kt) : tl K (lX6_read) 46 = o_istore 2 47 := rfl
theorem aX6_read_47 (K : Kt) : tl K (lX6_read) 47 = o_iload 2 48 := rfl
theorem aX6_read_48 (K : Kt) : tl K (lX6_read) 48 = o_pushI (nI 36) 50 := rfl
theorem aX6_read_50 (K : Kt) : tl K (lX6_read) 50 = o_icmp_gt 136 53 := rfl
theorem aX6_read_53 (K : Kt) : tl K (lX6_read) 53 = o_aload 0 54 := rfl
theorem aX6_read_54 (K : Kt) : tl K (lX6_read) 54 = o_callV fX6_readLine 0 6 57 := rfl
theorem aX6_read_57 (K : Kt) : tl K (lX6_read) 57 = o_if_ne 62 60 := rfl
theorem aX6_read_60 (K : Kt) : tl K (lX6_read) 60 = o_pushI (nI 0) 61 := rfl
theorem aX6_read_61 (K : Kt) : tl K (lX6_read) 61 = o_zret K := rfl
theorem aX6_read_62 (K : Kt) : tl K (lX6_read) 62 = o_aload 0 63 := rfl
theorem aX6_read_63 (K : Kt) : tl K (lX6_read) 63 = o_get 6 0 66 := rfl
theorem aX6_read_66 (K : Kt) : tl K (lX6_read) 66 = o_callV fX8_nextToken 0 8 69 := rfl
theorem aX6_read_69 (K : Kt) : tl K (lX6_read) 69 = o_aload 0 70 := rfl
theorem aX6_read_70 (K : Kt) : tl K (lX6_read) 70 = o_get 6 0 73 := rfl
theorem aX6_read_73 (K : Kt) : tl K (lX6_read) 73 = o_get 8 4 76 := rfl
theorem aX6_read_76 (K : Kt) : tl K (lX6_read) 76 = o_if_ne 113 79 := rfl
theorem aX6_read_79 (K : Kt) : tl K (lX6_read) 79 = o_aload 0 80 := rfl
theorem aX6_read_80 (K : Kt) : tl K (lX6_read) 80 = o_get 6 2 83 := rfl
theorem aX6_read_83 (K : Kt) : tl K (lX6_read) 83 = o_get 9 0 86 := rfl
theorem aX6_read_86 (K : Kt) : tl K (lX6_read) 86 = o_if_le 99 89 := rfl
theorem aX6_read_89 (K : Kt) : tl K (lX6_read) 89 = o_aload 0 90 := rfl
theorem aX6_read_90 (K : Kt) : tl K (lX6_read) 90 = o_get 6 2 93 := rfl
theorem aX6_read_93 (K : Kt) : tl K (lX6_read) 93 = o_get 9 4 96 := rfl
theorem aX6_read_96 (K : Kt) : tl K (lX6_read) 96 = o_if_gt 107 99 := rfl
theorem aX6_read_99 (K : Kt) : tl K (lX6_read) 99 = o_aload 0 100 := rfl
theorem aX6_read_100 (K : Kt) : tl K (lX6_read) 100 = o_pushI (nI 5) 101 := rfl
theorem aX6_read_101 (K : Kt) : tl K (lX6_read) 101 = o_callV fX6_fail 1 6 104 := rfl
theorem aX6_read_104 (K : Kt) : tl K (lX6_read) 104 = o_if_eq 111 107 := rfl
theorem aX6_read_107 (K : Kt) : tl K (lX6_read) 107 = o_pushI (nI 1) 108 := rfl
theorem aX6_read_108 (K : Kt) : tl K (lX6_read) 108 = o_goto 112 := rfl
theorem aX6_read_111 (K : Kt) : tl K (lX6_read) 111 = o_pushI (nI 0) 112 := rfl
theorem aX6_read_112 (K : Kt) : tl K (lX6_read) 112 = o_zret K := rfl
theorem aX6_read_113 (K : Kt) : tl K (lX6_read) 113 = o_aload 0 114 := rfl
theorem aX6_read_114 (K : Kt) : tl K (lX6_read) 114 = o_get 6 0 117 := rfl
theorem aX6_read_117 (K : Kt) : tl K (lX6_read) 117 = o_get 8 4 120 := rfl
set_option maxRecDepth 8000 in
theorem aX6_read_120 (K : Kt) : tl K (lX6_read) 120 = o_pushI (nI 3) 121 := rfl
set_option maxRecDepth 8000 in
theorem aX6_read_121 (K : Kt) : tl K (lX6_read) 121 = o_icmp_eq 130 124 := rfl
set_option maxRecDepth 8000 in
theorem aX6_read_124 (K : Kt) : tl K (lX6_read) 124 = o_aload 0 125 := rfl
set_option maxRecDepth 8000 in
theorem aX6_read_125 (K : Kt) : tl K (lX6_read) 125 = o_pushI (nI 1) 126 := rfl
set_option maxRecDepth 8000 in
theorem aX6_read_126 (K : Kt) : tl K (lX6_read) 126 = o_callV fX6_fail 1 6 129 := rfl
set_option maxRecDepth 8000 in
theorem aX6_read_129 (K : Kt) : tl K (lX6_read) 129 = o_zret K := rfl
set_option maxRecDepth 8000 in
theorem aX6_read_130 (K : Kt) : tl K (lX6_read) 130 = o_iinc 2 (nI 1) 133 := rfl
set_option maxRecDepth 8000 in
theorem aX6_read_133 (K : Kt) : tl K (lX6_read) 133 = o_goto 47 := rfl
set_option maxRecDepth 8000 in
theorem aX6_read_136 (K : Kt) : tl K (lX6_read) 136 = o_aload 0 137 := rfl
set_option maxRecDepth 8000 in
theorem aX6_read_137 (K : Kt) : tl K (lX6_read) 137 = o_pushI (nI 1) 138 := rfl
set_option maxRecDepth 8000 in
theorem aX6_read_138 (K : Kt) : tl K (lX6_read) 138 = o_callV fX6_fail 1 6 141 := rfl
set_option maxRecDepth 8000 in
theorem aX6_read_141 (K : Kt) : tl K (lX6_read) 141 = o_zret K := rfl
theorem eX7_playOuting {As L : List Value} {w : Wd} {K : Kt} (hw : wds As ≤ 5) (hL : ent 5 As = L) (h : RR (tl K lX7_playOuting) 0 L [] w) : fX7_playOuting As w K := ⟨hw, by rw [hL]; exact h⟩
theorem nX7_playOuting : MonoF fX7_playOuting := mono_f 5 lX7_playOuting
theorem aX7_playOuting_0 (K : Kt) : tl K (lX7_playOuting) 0 = o_aload 0 1 := rfl
theorem aX7_playOuting_1 (K : Kt) : tl K (lX7_playOuting) 1 = o_get 7 0 4 := rfl
theorem aX7_playOuting_4 (K : Kt) : tl K (lX7_playOuting) 4 = o_get 1 1 7 := rfl
theorem aX7_playOuting_7 (K : Kt) : tl K (lX7_playOuting) 7 = o_iload 1 8 := rfl
theorem aX7_playOuting_8 (K : Kt) : tl K (lX7_playOuting) 8 = o_iload 2 9 := rfl
theorem aX7_playOuting_9 (K : Kt) : tl K (lX7_playOuting) 9 = o_callV fX5_armAt 2 5 12 := rfl
theorem aX7_playOuting_12 (K : Kt) : tl K (lX7_playOuting) 12 = o_istore 3 13 := rfl
theorem aX7_playOuting_13 (K : Kt) : tl K (lX7_playOuting) 13 = o_aload 0 14 := rfl
theorem aX7_playOuting_14 (K : Kt) : tl K (lX7_playOuting) 14 = o_get 7 0 17 := rfl
theorem aX7_playOuting_17 (K : Kt) : tl K (lX7_playOuting) 17 = o_get 1 0 20 := rfl
theorem aX7_playOuting_20 (K : Kt) : tl K (lX7_playOuting) 20 = o_iload 1 21 := rfl
theorem aX7_playOuting_21 (K : Kt) : tl K (lX7_playOuting) 21 = o_pushI (nI 0) 22 := rfl
theorem aX7_playOuting_22 (K : Kt) : tl K (lX7_playOuting) 22 = o_callV fX9_fact 2 9 25 := rfl
theorem aX7_playOuting_25 (K : Kt) : tl K (lX7_playOuting) 25 = o_istore 4 27 := rfl
theorem aX7_playOuting_27 (K : Kt) : tl K (lX7_playOuting) 27 = o_iload 4 29 := rfl
theorem aX7_playOuting_29 (K : Kt) : tl K (lX7_playOuting) 29 = o_aload 0 30 := rfl
theorem aX7_playOuting_30 (K : Kt) : tl K (lX7_playOuting) 30 = o_get 7 1 33 := rfl
theorem aX7_playOuting_33 (K : Kt) : tl K (lX7_playOuting) 33 = o_iload 3 34 := rfl
theorem aX7_playOuting_34 (K : Kt) : tl K (lX7_playOuting) 34 = o_iald 35 := rfl
theorem aX7_playOuting_35 (K : Kt) : tl K (lX7_playOuting) 35 = o_icmp_ge 49 38 := rfl
theorem aX7_playOuting_38 (K : Kt) : tl K (lX7_playOuting) 38 = o_aload 0 39 := rfl
theorem aX7_playOuting_39 (K : Kt) : tl K (lX7_playOuting) 39 = o_dup 40 := rfl
theorem aX7_playOuting_40 (K : Kt) : tl K (lX7_playOuting) 40 = o_get 7 5 43 := rfl
theorem aX7_playOuting_43 (K : Kt) : tl K (lX7_playOuting) 43 = o_pushI (nI 1) 44 := rfl
theorem aX7_playOuting_44 (K : Kt) : tl K (lX7_playOuting) 44 = o_iadd 45 := rfl
theorem aX7_playOuting_45 (K : Kt) : tl K (lX7_playOuting) 45 = o_putI 7 5 48 := rfl
theorem aX7_playOuting_48 (K : Kt) : tl K (lX7_playOuting) 48 = o_vret K := rfl
theorem aX7_playOuting_49 (K : Kt) : tl K (lX7_playOuting) 49 = o_aload 0 50 := rfl
theorem aX7_playOuting_50 (K : Kt) : tl K (lX7_playOuting) 50 = o_dup 51 := rfl
theorem aX7_playOuting_51 (K : Kt) : tl K (lX7_playOuting) 51 = o_get 7 6 54 := rfl
theorem aX7_playOuting_54 (K : Kt) : tl K (lX7_playOuting) 54 = o_aload 0 55 := rfl
theorem aX7_playOuting_55 (K : Kt) : tl K (lX7_playOuting) 55 = o_get 7 0 58 := rfl
theorem aX7_playOuting_58 (K : Kt) : tl K (lX7_playOuting) 58 = o_iload 1 59 := rfl
theorem aX7_playOuting_59 (K : Kt) : tl K (lX7_playOuting) 59 = o_iload 2 60 := rfl
theorem aX7_playOuting_60 (K : Kt) : tl K (lX7_playOuting) 60 = o_callV fX1_valueAt 2 1 63 := rfl
theorem aX7_playOuting_63 (K : Kt) : tl K (lX7_playOuting) 63 = o_iadd 64 := rfl
theorem aX7_playOuting_64 (K : Kt) : tl K (lX7_playOuting) 64 = o_putI 7 6 67 := rfl
theorem aX7_playOuting_67 (K : Kt) : tl K (lX7_playOuting) 67 = o_aload 0 68 := rfl
theorem aX7_playOuting_68 (K : Kt) : tl K (lX7_playOuting) 68 = o_pushL (lN 16807) 71 := rfl
theorem aX7_playOuting_71 (K : Kt) : tl K (lX7_playOuting) 71 = o_aload 0 72 := rfl
theorem aX7_playOuting_72 (K : Kt) : tl K (lX7_playOuting) 72 = o_get 7 2 75 := rfl
theorem aX7_playOuting_75 (K : Kt) : tl K (lX7_playOuting) 75 = o_lmul 76 := rfl
theorem aX7_playOuting_76 (K : Kt) : tl K (lX7_playOuting) 76 = o_pushL (lN 2147483647) 79 := rfl
theorem aX7_playOuting_79 (K : Kt) : tl K (lX7_playOuting) 79 = o_lrem 80 := rfl
theorem aX7_playOuting_80 (K : Kt) : tl K (lX7_playOuting) 80 = o_putL 7 2 83 := rfl
theorem aX7_playOuting_83 (K : Kt) : tl K (lX7_playOuting) 83 = o_aload 0 84 := rfl
theorem aX7_playOuting_84 (K : Kt) : tl K (lX7_playOuting) 84 = o_get 7 2 87 := rfl
theorem aX7_playOuting_87 (K : Kt) : tl K (lX7_playOuting) 87 = o_pushL (lN 1000) 90 := rfl
theorem aX7_playOuting_90 (K : Kt) : tl K (lX7_playOuting) 90 = o_lrem 91 := rfl
theorem aX7_playOuting_91 (K : Kt) : tl K (lX7_playOuting) 91 = o_aload 0 92 := rfl
theorem aX7_playOuting_92 (K : Kt) : tl K (lX7_playOuting) 92 = o_get 7 0 95 := rfl
theorem aX7_playOuting_95 (K : Kt) : tl K (lX7_playOuting) 95 = o_iload 1 96 := rfl
theorem aX7_playOuting_96 (K : Kt) : tl K (lX7_playOuting) 96 = o_iload 2 97 := rfl
theorem aX7_playOuting_97 (K : Kt) : tl K (lX7_playOuting) 97 = o_callV fX1_riskAt 2 1 100 := rfl
theorem aX7_playOuting_100 (K : Kt) : tl K (lX7_playOuting) 100 = o_i2l 101 := rfl
theorem aX7_playOuting_101 (K : Kt) : tl K (lX7_playOuting) 101 = o_lcmp 102 := rfl
theorem aX7_playOuting_102 (K : Kt) : tl K (lX7_playOuting) 102 = o_if_lt 106 105 := rfl
theorem aX7_playOuting_105 (K : Kt) : tl K (lX7_playOuting) 105 = o_vret K := rfl
theorem aX7_playOuting_106 (K : Kt) : tl K (lX7_playOuting) 106 = o_aload 0 107 := rfl
theorem aX7_playOuting_107 (K : Kt) : tl K (lX7_playOuting) 107 = o_dup 108 := rfl
theorem aX7_playOuting_108 (K : Kt) : tl K (lX7_playOuting) 108 = o_get 7 3 111 := rfl
set_option maxRecDepth 8000 in
theorem aX7_playOuting_111 (K : Kt) : tl K (lX7_playOuting) 111 = o_pushI (nI 1) 112 := rfl
set_option maxRecDepth 8000 in
theorem aX7_playOuting_112 (K : Kt) : tl K (lX7_playOuting) 112 = o_iadd 113 := rfl
set_option maxRecDepth 8000 in
theorem aX7_playOuting_113 (K : Kt) : tl K (lX7_playOuting) 113 = o_putI 7 3 116 := rfl
set_option maxRecDepth 8000 in
theorem aX7_playOuting_116 (K : Kt) : tl K (lX7_playOuting) 116 = o_aload 0 117 := rfl
set_option maxRecDepth 8000 in
theorem aX7_playOuting_117 (K : Kt) : tl K (lX7_playOuting) 117 = o_dup 118 := rfl
set_option maxRecDepth 8000 in
theorem aX7_playOuting_118 (K : Kt) : tl K (lX7_playOuting) 118 = o_get 7 4 121 := rfl
set_option maxRecDepth 8000 in
theorem aX7_playOuting_121 (K : Kt) : tl K (lX7_playOuting) 121 = o_pushI (nI 1) 122 := rfl
set_option maxRecDepth 8000 in
theorem aX7_playOuting_122 (K : Kt) : tl K (lX7_playOuting) 122 = o_iload 3 123 := rfl
set_option maxRecDepth 8000 in
theorem aX7_playOuting_123 (K : Kt) : tl K (lX7_playOuting) 123 = o_ishl 124 := rfl
set_option maxRecDepth 8000 in
theorem aX7_playOuting_124 (K : Kt) : tl K (lX7_playOuting) 124 = o_ior 125 := rfl
set_option maxRecDepth 8000 in
theorem aX7_playOuting_125 (K : Kt) : tl K (lX7_playOuting) 125 = o_putI 7 4 128 := rfl
set_option maxRecDepth 8000 in
theorem aX7_playOuting_128 (K : Kt) : tl K (lX7_playOuting) 128 = o_aload 0 129 := rfl
set_option maxRecDepth 8000 in
theorem aX7_playOuting_129 (K : Kt) : tl K (lX7_playOuting) 129 = o_get 7 1 132 := rfl
set_option maxRecDepth 8000 in
theorem aX7_playOuting_132 (K : Kt) : tl K (lX7_playOuting) 132 = o_iload 3 133 := rfl
set_option maxRecDepth 8000 in
theorem aX7_playOuting_133 (K : Kt) : tl K (lX7_playOuting) 133 = o_iload 4 135 := rfl
set_option maxRecDepth 8000 in
theorem aX7_playOuting_135 (K : Kt) : tl K (lX7_playOuting) 135 = o_aload 0 136 := rfl
set_option maxRecDepth 8000 in
theorem aX7_playOuting_136 (K : Kt) : tl K (lX7_playOuting) 136 = o_get 7 0 139 := rfl
set_option maxRecDepth 8000 in
theorem aX7_playOuting_139 (K : Kt) : tl K (lX7_playOuting) 139 = o_get 1 0 142 := rfl
set_option maxRecDepth 8000 in
theorem aX7_playOuting_142 (K : Kt) : tl K (lX7_playOuting) 142 = o_get 9 6 145 := rfl
set_option maxRecDepth 8000 in
theorem aX7_playOuting_145 (K : Kt) : tl K (lX7_playOuting) 145 = o_pushI (nI 2) 146 := rfl
set_option maxRecDepth 8000 in
theorem aX7_playOuting_146 (K : Kt) : tl K (lX7_playOuting) 146 = o_iald 147 := rfl
set_option maxRecDepth 8000 in
theorem aX7_playOuting_147 (K : Kt) : tl K (lX7_playOuting) 147 = o_iadd 148 := rfl
set_option maxRecDepth 8000 in
theorem aX7_playOuting_148 (K : Kt) : tl K (lX7_playOuting) 148 = o_pushI (nI 1) 149 := rfl
set_option maxRecDepth 8000 in
theorem aX7_playOuting_149 (K : Kt) : tl K (lX7_playOuting) 149 = o_iadd 150 := rfl
set_option maxRecDepth 8000 in
theorem aX7_playOuting_150 (K : Kt) : tl K (lX7_playOuting) 150 = o_iast 151 := rfl
set_option maxRecDepth 8000 in
theorem aX7_playOuting_151 (K : Kt) : tl K (lX7_playOuting) 151 = o_aload 0 152 := rfl
set_option maxRecDepth 8000 in
theorem aX7_playOuting_152 (K : Kt) : tl K (lX7_playOuting) 152 = o_get 7 7 155 := rfl
set_option maxRecDepth 8000 in
theorem aX7_playOuting_155 (K : Kt) : tl K (lX7_playOuting) 155 = o_pushI ((-2)) 157 := rfl
set_option maxRecDepth 8000 in
theorem aX7_playOuting_157 (K : Kt) : tl K (lX7_playOuting) 157 = o_icmp_ne 165 160 := rfl
set_option maxRecDepth 8000 in
theorem aX7_playOuting_160 (K : Kt) : tl K (lX7_playOuting) 160 = o_aload 0 161 := rfl
set_option maxRecDepth 8000 in
theorem aX7_playOuting_161 (K : Kt) : tl K (lX7_playOuting) 161 = o_iload 1 162 := rfl
set_option maxRecDepth 8000 in
theorem aX7_playOuting_162 (K : Kt) : tl K (lX7_playOuting) 162 = o_putI 7 7 165 := rfl
set_option maxRecDepth 8000 in
theorem aX7_playOuting_165 (K : Kt) : tl K (lX7_playOuting) 165 = o_vret K := rfl
theorem eX7_play {As L : List Value} {w : Wd} {K : Kt} (hw : wds As ≤ 4) (hL : ent 4 As = L) (h : RR (tl K lX7_play) 0 L [] w) : fX7_play As w K := ⟨hw, by rw [hL]; exact h⟩
theorem nX7_play : MonoF fX7_play := mono_f 4 lX7_play
theorem aX7_play_0 (K : Kt) : tl K (lX7_play) 0 = o_pushI (nI 0) 1 := rfl
theorem aX7_play_1 (K : Kt) : tl K (lX7_play) 1 = o_istore 2 2 := rfl
theorem aX7_play_2 (K : Kt) : tl K (lX7_play) 2 = o_iload 2 3 := rfl
theorem aX7_play_3 (K : Kt) : tl K (lX7_play) 3 = o_pushI (nI 8) 5 := rfl
theorem aX7_play_5 (K : Kt) : tl K (lX7_play) 5 = o_icmp_ge 21 8 := rfl
theorem aX7_play_8 (K : Kt) : tl K (lX7_play) 8 = o_aload 0 9 := rfl
theorem aX7_play_9 (K : Kt) : tl K (lX7_play) 9 = o_get 7 1 12 := rfl
theorem aX7_play_12 (K : Kt) : tl K (lX7_play) 12 = o_iload 2 13 := rfl
theorem aX7_play_13 (K : Kt) : tl K (lX7_play) 13 = o_pushI (nI 0) 14 := rfl
theorem aX7_play_14 (K : Kt) : tl K (lX7_play) 14 = o_iast 15 := rfl
theorem aX7_play_15 (K : Kt) : tl K (lX7_play) 15 = o_iinc 2 (nI 1) 18 := rfl
theorem aX7_play_18 (K : Kt) : tl K (lX7_play) 18 = o_goto 2 := rfl
theorem aX7_play_21 (K : Kt) : tl K (lX7_play) 21 = o_aload 0 22 := rfl
theorem aX7_play_22 (K : Kt) : tl K (lX7_play) 22 = o_iload 1 23 := rfl
theorem aX7_play_23 (K : Kt) : tl K (lX7_play) 23 = o_i2l 24 := rfl
theorem aX7_play_24 (K : Kt) : tl K (lX7_play) 24 = o_putL 7 2 27 := rfl
theorem aX7_play_27 (K : Kt) : tl K (lX7_play) 27 = o_aload 0 28 := rfl
theorem aX7_play_28 (K : Kt) : tl K (lX7_play) 28 = o_pushI (nI 0) 29 := rfl
theorem aX7_play_29 (K : Kt) : tl K (lX7_play) 29 = o_putI 7 3 32 := rfl
theorem aX7_play_32 (K : Kt) : tl K (lX7_play) 32 = o_aload 0 33 := rfl
theorem aX7_play_33 (K : Kt) : tl K (lX7_play) 33 = o_pushI (nI 0) 34 := rfl
theorem aX7_play_34 (K : Kt) : tl K (lX7_play) 34 = o_putI 7 4 37 := rfl
theorem aX7_play_37 (K : Kt) : tl K (lX7_play) 37 = o_aload 0 38 := rfl
theorem aX7_play_38 (K : Kt) : tl K (lX7_play) 38 = o_pushI (nI 0) 39 := rfl
theorem aX7_play_39 (K : Kt) : tl K (lX7_play) 39 = o_putI 7 5 42 := rfl
theorem aX7_play_42 (K : Kt) : tl K (lX7_play) 42 = o_aload 0 43 := rfl
theorem aX7_play_43 (K : Kt) : tl K (lX7_play) 43 = o_pushI (nI 0) 44 := rfl
theorem aX7_play_44 (K : Kt) : tl K (lX7_play) 44 = o_putI 7 6 47 := rfl
theorem aX7_play_47 (K : Kt) : tl K (lX7_play) 47 = o_aload 0 48 := rfl
theorem aX7_play_48 (K : Kt) : tl K (lX7_play) 48 = o_pushI ((-2)) 50 := rfl
theorem aX7_play_50 (K : Kt) : tl K (lX7_play) 50 = o_putI 7 7 53 := rfl
theorem aX7_play_53 (K : Kt) : tl K (lX7_play) 53 = o_pushI (nI 0) 54 := rfl
theorem aX7_play_54 (K : Kt) : tl K (lX7_play) 54 = o_istore 2 55 := rfl
theorem aX7_play_55 (K : Kt) : tl K (lX7_play) 55 = o_iload 2 56 := rfl
theorem aX7_play_56 (K : Kt) : tl K (lX7_play) 56 = o_aload 0 57 := rfl
theorem aX7_play_57 (K : Kt) : tl K (lX7_play) 57 = o_get 7 0 60 := rfl
theorem aX7_play_60 (K : Kt) : tl K (lX7_play) 60 = o_get 1 0 63 := rfl
theorem aX7_play_63 (K : Kt) : tl K (lX7_play) 63 = o_get 9 4 66 := rfl
theorem aX7_play_66 (K : Kt) : tl K (lX7_play) 66 = o_icmp_ge 105 69 := rfl
theorem aX7_play_69 (K : Kt) : tl K (lX7_play) 69 = o_pushI (nI 0) 70 := rfl
theorem aX7_play_70 (K : Kt) : tl K (lX7_play) 70 = o_istore 3 71 := rfl
theorem aX7_play_71 (K : Kt) : tl K (lX7_play) 71 = o_iload 3 72 := rfl
theorem aX7_play_72 (K : Kt) : tl K (lX7_play) 72 = o_aload 0 73 := rfl
theorem aX7_play_73 (K : Kt) : tl K (lX7_play) 73 = o_get 7 0 76 := rfl
theorem aX7_play_76 (K : Kt) : tl K (lX7_play) 76 = o_get 1 1 79 := rfl
theorem aX7_play_79 (K : Kt) : tl K (lX7_play) 79 = o_get 5 0 82 := rfl
theorem aX7_play_82 (K : Kt) : tl K (lX7_play) 82 = o_iload 2 83 := rfl
theorem aX7_play_83 (K : Kt) : tl K (lX7_play) 83 = o_iald 84 := rfl
theorem aX7_play_84 (K : Kt) : tl K (lX7_play) 84 = o_icmp_ge 99 87 := rfl
theorem aX7_play_87 (K : Kt) : tl K (lX7_play) 87 = o_aload 0 88 := rfl
theorem aX7_play_88 (K : Kt) : tl K (lX7_play) 88 = o_iload 2 89 := rfl
theorem aX7_play_89 (K : Kt) : tl K (lX7_play) 89 = o_iload 3 90 := rfl
theorem aX7_play_90 (K : Kt) : tl K (lX7_play) 90 = o_callV fX7_playOuting 2 7 93 := rfl
theorem aX7_play_93 (K : Kt) : tl K (lX7_play) 93 = o_iinc 3 (nI 1) 96 := rfl
theorem aX7_play_96 (K : Kt) : tl K (lX7_play) 96 = o_goto 71 := rfl
theorem aX7_play_99 (K : Kt) : tl K (lX7_play) 99 = o_iinc 2 (nI 1) 102 := rfl
theorem aX7_play_102 (K : Kt) : tl K (lX7_play) 102 = o_goto 55 := rfl
theorem aX7_play_105 (K : Kt) : tl K (lX7_play) 105 = o_vret K := rfl
theorem eX8_append {As L : List Value} {w : Wd} {K : Kt} (hw : wds As ≤ 3) (hL : ent 3 As = L) (h : RR (tl K lX8_append) 0 L [] w) : fX8_append As w K := ⟨hw, by rw [hL]; exact h⟩
theorem nX8_append : MonoF fX8_append := mono_f 3 lX8_append
theorem aX8_append_0 (K : Kt) : tl K (lX8_append) 0 = o_pushI (nI 24) 2 := rfl
theorem aX8_append_2 (K : Kt) : tl K (lX8_append) 2 = o_istore 2 3 := rfl
theorem aX8_append_3 (K : Kt) : tl K (lX8_append) 3 = o_iload 2 4 := rfl
theorem aX8_append_4 (K : Kt) : tl K (lX8_append) 4 = o_if_lt 46 7 := rfl
theorem aX8_append_7 (K : Kt) : tl K (lX8_append) 7 = o_aload 0 8 := rfl
theorem aX8_append_8 (K : Kt) : tl K (lX8_append) 8 = o_get 8 1 11 := rfl
theorem aX8_append_11 (K : Kt) : tl K (lX8_append) 11 = o_pushI (nI 800) 14 := rfl
theorem aX8_append_14 (K : Kt) : tl K (lX8_append) 14 = o_icmp_ge 46 17 := rfl
theorem aX8_append_17 (K : Kt) : tl K (lX8_append) 17 = o_aload 0 18 := rfl
theorem aX8_append_18 (K : Kt) : tl K (lX8_append) 18 = o_get 8 0 21 := rfl
theorem aX8_append_21 (K : Kt) : tl K (lX8_append) 21 = o_aload 0 22 := rfl
theorem aX8_append_22 (K : Kt) : tl K (lX8_append) 22 = o_get 8 1 25 := rfl
theorem aX8_append_25 (K : Kt) : tl K (lX8_append) 25 = o_iload 1 26 := rfl
theorem aX8_append_26 (K : Kt) : tl K (lX8_append) 26 = o_iload 2 27 := rfl
theorem aX8_append_27 (K : Kt) : tl K (lX8_append) 27 = o_iushr 28 := rfl
theorem aX8_append_28 (K : Kt) : tl K (lX8_append) 28 = o_i2b 29 := rfl
theorem aX8_append_29 (K : Kt) : tl K (lX8_append) 29 = o_bast 30 := rfl
theorem aX8_append_30 (K : Kt) : tl K (lX8_append) 30 = o_aload 0 31 := rfl
theorem aX8_append_31 (K : Kt) : tl K (lX8_append) 31 = o_dup 32 := rfl
theorem aX8_append_32 (K : Kt) : tl K (lX8_append) 32 = o_get 8 1 35 := rfl
theorem aX8_append_35 (K : Kt) : tl K (lX8_append) 35 = o_pushI (nI 1) 36 := rfl
theorem aX8_append_36 (K : Kt) : tl K (lX8_append) 36 = o_iadd 37 := rfl
theorem aX8_append_37 (K : Kt) : tl K (lX8_append) 37 = o_putI 8 1 40 := rfl
theorem aX8_append_40 (K : Kt) : tl K (lX8_append) 40 = o_iinc 2 ((-8)) 43 := rfl
theorem aX8_append_43 (K : Kt) : tl K (lX8_append) 43 = o_goto 3 := rfl
theorem aX8_append_46 (K : Kt) : tl K (lX8_append) 46 = o_vret K := rfl
theorem eX8_onlyWord {As L : List Value} {w : Wd} {K : Kt} (hw : wds As ≤ 4) (hL : ent 4 As = L) (h : RR (tl K lX8_onlyWord) 0 L [] w) : fX8_onlyWord As w K := ⟨hw, by rw [hL]; exact h⟩
theorem nX8_onlyWord : MonoF fX8_onlyWord := mono_f 4 lX8_onlyWord
theorem aX8_onlyWord_0 (K : Kt) : tl K (lX8_onlyWord) 0 = o_aload 0 1 := rfl
theorem aX8_onlyWord_1 (K : Kt) : tl K (lX8_onlyWord) 1 = o_iload 1 2 := rfl
theorem aX8_onlyWord_2 (K : Kt) : tl K (lX8_onlyWord) 2 = o_callV fX8_beginTokens 1 8 5 := rfl
theorem aX8_onlyWord_5 (K : Kt) : tl K (lX8_onlyWord) 5 = o_aload 0 6 := rfl
theorem aX8_onlyWord_6 (K : Kt) : tl K (lX8_onlyWord) 6 = o_callV fX8_nextToken 0 8 9 := rfl
theorem aX8_onlyWord_9 (K : Kt) : tl K (lX8_onlyWord) 9 = o_aload 0 10 := rfl
theorem aX8_onlyWord_10 (K : Kt) : tl K (lX8_onlyWord) 10 = o_get 8 4 13 := rfl
theorem aX8_onlyWord_13 (K : Kt) : tl K (lX8_onlyWord) 13 = o_pushI (nI 1) 14 := rfl
theorem aX8_onlyWord_14 (K : Kt) : tl K (lX8_onlyWord) 14 = o_icmp_eq 19 17 := rfl
theorem aX8_onlyWord_17 (K : Kt) : tl K (lX8_onlyWord) 17 = o_pushL (lN 0) 18 := rfl
theorem aX8_onlyWord_18 (K : Kt) : tl K (lX8_onlyWord) 18 = o_lret K := rfl
theorem aX8_onlyWord_19 (K : Kt) : tl K (lX8_onlyWord) 19 = o_aload 0 20 := rfl
theorem aX8_onlyWord_20 (K : Kt) : tl K (lX8_onlyWord) 20 = o_get 8 7 23 := rfl
theorem aX8_onlyWord_23 (K : Kt) : tl K (lX8_onlyWord) 23 = o_lstore 2 24 := rfl
theorem aX8_onlyWord_24 (K : Kt) : tl K (lX8_onlyWord) 24 = o_aload 0 25 := rfl
theorem aX8_onlyWord_25 (K : Kt) : tl K (lX8_onlyWord) 25 = o_callV fX8_nextToken 0 8 28 := rfl
theorem aX8_onlyWord_28 (K : Kt) : tl K (lX8_onlyWord) 28 = o_aload 0 29 := rfl
theorem aX8_onlyWord_29 (K : Kt) : tl K (lX8_onlyWord) 29 = o_get 8 4 32 := rfl
theorem aX8_onlyWord_32 (K : Kt) : tl K (lX8_onlyWord) 32 = o_if_ne 39 35 := rfl
theorem aX8_onlyWord_35 (K : Kt) : tl K (lX8_onlyWord) 35 = o_lload 2 36 := rfl
theorem aX8_onlyWord_36 (K : Kt) : tl K (lX8_onlyWord) 36 = o_goto 40 := rfl
theorem aX8_onlyWord_39 (K : Kt) : tl K (lX8_onlyWord) 39 = o_pushL (lN 0) 40 := rfl
theorem aX8_onlyWord_40 (K : Kt) : tl K (lX8_onlyWord) 40 = o_lret K := rfl
theorem eX9_copyFrom {As L : List Value} {w : Wd} {K : Kt} (hw : wds As ≤ 2) (hL : ent 2 As = L) (h : RR (tl K lX9_copyFrom) 0 L [] w) : fX9_copyFrom As w K := ⟨hw, by rw [hL]; exact h⟩
theorem nX9_copyFrom : MonoF fX9_copyFrom := mono_f 2 lX9_copyFrom
theorem aX9_copyFrom_0 (K : Kt) : tl K (lX9_copyFrom) 0 = o_aload 0 1 := rfl
theorem aX9_copyFrom_1 (K : Kt) : tl K (lX9_copyFrom) 1 = o_aload 1 2 := rfl
theorem aX9_copyFrom_2 (K : Kt) : tl K (lX9_copyFrom) 2 = o_get 9 0 5 := rfl
theorem aX9_copyFrom_5 (K : Kt) : tl K (lX9_copyFrom) 5 = o_putI 9 0 8 := rfl
theorem aX9_copyFrom_8 (K : Kt) : tl K (lX9_copyFrom) 8 = o_aload 0 9 := rfl
theorem aX9_copyFrom_9 (K : Kt) : tl K (lX9_copyFrom) 9 = o_aload 1 10 := rfl
theorem aX9_copyFrom_10 (K : Kt) : tl K (lX9_copyFrom) 10 = o_get 9 4 13 := rfl
theorem aX9_copyFrom_13 (K : Kt) : tl K (lX9_copyFrom) 13 = o_putI 9 4 16 := rfl
theorem aX9_copyFrom_16 (K : Kt) : tl K (lX9_copyFrom) 16 = o_aload 0 17 := rfl
theorem aX9_copyFrom_17 (K : Kt) : tl K (lX9_copyFrom) 17 = o_aload 1 18 := rfl
theorem aX9_copyFrom_18 (K : Kt) : tl K (lX9_copyFrom) 18 = o_get 9 7 21 := rfl
theorem aX9_copyFrom_21 (K : Kt) : tl K (lX9_copyFrom) 21 = o_putI 9 7 24 := rfl
theorem aX9_copyFrom_24 (K : Kt) : tl K (lX9_copyFrom) 24 = o_aload 1 25 := rfl
theorem aX9_copyFrom_25 (K : Kt) : tl K (lX9_copyFrom) 25 = o_get 9 1 28 := rfl
theorem aX9_copyFrom_28 (K : Kt) : tl K (lX9_copyFrom) 28 = o_pushI (nI 0) 29 := rfl
theorem aX9_copyFrom_29 (K : Kt) : tl K (lX9_copyFrom) 29 = o_aload 0 30 := rfl
theorem aX9_copyFrom_30 (K : Kt) : tl K (lX9_copyFrom) 30 = o_get 9 1 33 := rfl
theorem aX9_copyFrom_33 (K : Kt) : tl K (lX9_copyFrom) 33 = o_pushI (nI 0) 34 := rfl
theorem aX9_copyFrom_34 (K : Kt) : tl K (lX9_copyFrom) 34 = o_pushI (nI 8) 36 := rfl
theorem aX9_copyFrom_36 (K : Kt) : tl K (lX9_copyFrom) 36 = o_copyL 39 := rfl
theorem aX9_copyFrom_39 (K : Kt) : tl K (lX9_copyFrom) 39 = o_aload 1 40 := rfl
theorem aX9_copyFrom_40 (K : Kt) : tl K (lX9_copyFrom) 40 = o_get 9 2 43 := rfl
theorem aX9_copyFrom_43 (K : Kt) : tl K (lX9_copyFrom) 43 = o_pushI (nI 0) 44 := rfl
theorem aX9_copyFrom_44 (K : Kt) : tl K (lX9_copyFrom) 44 = o_aload 0 45 := rfl
theorem aX9_copyFrom_45 (K : Kt) : tl K (lX9_copyFrom) 45 = o_get 9 2 48 := rfl
theorem aX9_copyFrom_48 (K : Kt) : tl K (lX9_copyFrom) 48 = o_pushI (nI 0) 49 := rfl
theorem aX9_copyFrom_49 (K : Kt) : tl K (lX9_copyFrom) 49 = o_pushI (nI 8) 51 := rfl
theorem aX9_copyFrom_51 (K : Kt) : tl K (lX9_copyFrom) 51 = o_copyI 54 := rfl
theorem aX9_copyFrom_54 (K : Kt) : tl K (lX9_copyFrom) 54 = o_aload 1 55 := rfl
theorem aX9_copyFrom_55 (K : Kt) : tl K (lX9_copyFrom) 55 = o_get 9 3 58 := rfl
theorem aX9_copyFrom_58 (K : Kt) : tl K (lX9_copyFrom) 58 = o_pushI (nI 0) 59 := rfl
theorem aX9_copyFrom_59 (K : Kt) : tl K (lX9_copyFrom) 59 = o_aload 0 60 := rfl
theorem aX9_copyFrom_60 (K : Kt) : tl K (lX9_copyFrom) 60 = o_get 9 3 63 := rfl
theorem aX9_copyFrom_63 (K : Kt) : tl K (lX9_copyFrom) 63 = o_pushI (nI 0) 64 := rfl
theorem aX9_copyFrom_64 (K : Kt) : tl K (lX9_copyFrom) 64 = o_pushI (nI 32) 66 := rfl
theorem aX9_copyFrom_66 (K : Kt) : tl K (lX9_copyFrom) 66 = o_copyI 69 := rfl
theorem aX9_copyFrom_69 (K : Kt) : tl K (lX9_copyFrom) 69 = o_aload 1 70 := rfl
theorem aX9_copyFrom_70 (K : Kt) : tl K (lX9_copyFrom) 70 = o_get 9 5 73 := rfl
theorem aX9_copyFrom_73 (K : Kt) : tl K (lX9_copyFrom) 73 = o_pushI (nI 0) 74 := rfl
theorem aX9_copyFrom_74 (K : Kt) : tl K (lX9_copyFrom) 74 = o_aload 0 75 := rfl
theorem aX9_copyFrom_75 (K : Kt) : tl K (lX9_copyFrom) 75 = o_get 9 5 78 := rfl
theorem aX9_copyFrom_78 (K : Kt) : tl K (lX9_copyFrom) 78 = o_pushI (nI 0) 79 := rfl
theorem aX9_copyFrom_79 (K : Kt) : tl K (lX9_copyFrom) 79 = o_pushI (nI 60) 81 := rfl
theorem aX9_copyFrom_81 (K : Kt) : tl K (lX9_copyFrom) 81 = o_copyI 84 := rfl
theorem aX9_copyFrom_84 (K : Kt) : tl K (lX9_copyFrom) 84 = o_aload 1 85 := rfl
theorem aX9_copyFrom_85 (K : Kt) : tl K (lX9_copyFrom) 85 = o_get 9 6 88 := rfl
theorem aX9_copyFrom_88 (K : Kt) : tl K (lX9_copyFrom) 88 = o_pushI (nI 0) 89 := rfl
theorem aX9_copyFrom_89 (K : Kt) : tl K (lX9_copyFrom) 89 = o_aload 0 90 := rfl
theorem aX9_copyFrom_90 (K : Kt) : tl K (lX9_copyFrom) 90 = o_get 9 6 93 := rfl
theorem aX9_copyFrom_93 (K : Kt) : tl K (lX9_copyFrom) 93 = o_pushI (nI 0) 94 := rfl
theorem aX9_copyFrom_94 (K : Kt) : tl K (lX9_copyFrom) 94 = o_pushI (nI 3) 95 := rfl
theorem aX9_copyFrom_95 (K : Kt) : tl K (lX9_copyFrom) 95 = o_copyI 98 := rfl
theorem aX9_copyFrom_98 (K : Kt) : tl K (lX9_copyFrom) 98 = o_aload 1 99 := rfl
theorem aX9_copyFrom_99 (K : Kt) : tl K (lX9_copyFrom) 99 = o_get 9 8 102 := rfl
theorem aX9_copyFrom_102 (K : Kt) : tl K (lX9_copyFrom) 102 = o_pushI (nI 0) 103 := rfl
theorem aX9_copyFrom_103 (K : Kt) : tl K (lX9_copyFrom) 103 = o_aload 0 104 := rfl
theorem aX9_copyFrom_104 (K : Kt) : tl K (lX9_copyFrom) 104 = o_get 9 8 107 := rfl
theorem aX9_copyFrom_107 (K : Kt) : tl K (lX9_copyFrom) 107 = o_pushI (nI 0) 108 := rfl
theorem aX9_copyFrom_108 (K : Kt) : tl K (lX9_copyFrom) 108 = o_pushI (nI 5) 109 := rfl
theorem aX9_copyFrom_109 (K : Kt) : tl K (lX9_copyFrom) 109 = o_copyI 112 := rfl
theorem aX9_copyFrom_112 (K : Kt) : tl K (lX9_copyFrom) 112 = o_aload 1 113 := rfl
set_option maxRecDepth 8000 in
theorem aX9_copyFrom_113 (K : Kt) : tl K (lX9_copyFrom) 113 = o_get 9 9 116 := rfl
set_option maxRecDepth 8000 in
theorem aX9_copyFrom_116 (K : Kt) : tl K (lX9_copyFrom) 116 = o_pushI (nI 0) 117 := rfl
set_option maxRecDepth 8000 in
theorem aX9_copyFrom_117 (K : Kt) : tl K (lX9_copyFrom) 117 = o_aload 0 118 := rfl
set_option maxRecDepth 8000 in
theorem aX9_copyFrom_118 (K : Kt) : tl K (lX9_copyFrom) 118 = o_get 9 9 121 := rfl
set_option maxRecDepth 8000 in
theorem aX9_copyFrom_121 (K : Kt) : tl K (lX9_copyFrom) 121 = o_pushI (nI 0) 122 := rfl
set_option maxRecDepth 8000 in
theorem aX9_copyFrom_122 (K : Kt) : tl K (lX9_copyFrom) 122 = o_pushI (nI 5) 123 := rfl
set_option maxRecDepth 8000 in
theorem aX9_copyFrom_123 (K : Kt) : tl K (lX9_copyFrom) 123 = o_copyI 126 := rfl
set_option maxRecDepth 8000 in
theorem aX9_copyFrom_126 (K : Kt) : tl K (lX9_copyFrom) 126 = o_vret K := rfl
theorem eX10_feed {As L : List Value} {w : Wd} {K : Kt} (hw : wds As ≤ 6) (hL : ent 6 As = L) (h : RR (tl K lX10_feed) 0 L [] w) : fX10_feed As w K := ⟨hw, by rw [hL]; exact h⟩
theorem nX10_feed : MonoF fX10_feed := mono_f 6 lX10_feed
theorem aX10_feed_0 (K : Kt) : tl K (lX10_feed) 0 = o_aload 0 1 := rfl
theorem aX10_feed_1 (K : Kt) : tl K (lX10_feed) 1 = o_get 10 0 4 := rfl
theorem aX10_feed_4 (K : Kt) : tl K (lX10_feed) 4 = o_get 8 1 7 := rfl
theorem aX10_feed_7 (K : Kt) : tl K (lX10_feed) 7 = o_pushI (nI 20) 9 := rfl
theorem aX10_feed_9 (K : Kt) : tl K (lX10_feed) 9 = o_iadd 10 := rfl
theorem aX10_feed_10 (K : Kt) : tl K (lX10_feed) 10 = o_pushI (nI 800) 13 := rfl
theorem aX10_feed_13 (K : Kt) : tl K (lX10_feed) 13 = o_icmp_le 18 16 := rfl
theorem aX10_feed_16 (K : Kt) : tl K (lX10_feed) 16 = o_pushI ((-1)) 17 := rfl
theorem aX10_feed_17 (K : Kt) : tl K (lX10_feed) 17 = o_iret K := rfl
theorem aX10_feed_18 (K : Kt) : tl K (lX10_feed) 18 = o_aload 0 19 := rfl
theorem aX10_feed_19 (K : Kt) : tl K (lX10_feed) 19 = o_get 10 0 22 := rfl
theorem aX10_feed_22 (K : Kt) : tl K (lX10_feed) 22 = o_iload 1 23 := rfl
theorem aX10_feed_23 (K : Kt) : tl K (lX10_feed) 23 = o_callV fX8_append 1 8 26 := rfl
theorem aX10_feed_26 (K : Kt) : tl K (lX10_feed) 26 = o_aload 0 27 := rfl
theorem aX10_feed_27 (K : Kt) : tl K (lX10_feed) 27 = o_get 10 0 30 := rfl
theorem aX10_feed_30 (K : Kt) : tl K (lX10_feed) 30 = o_iload 2 31 := rfl
theorem aX10_feed_31 (K : Kt) : tl K (lX10_feed) 31 = o_callV fX8_append 1 8 34 := rfl
theorem aX10_feed_34 (K : Kt) : tl K (lX10_feed) 34 = o_aload 0 35 := rfl
theorem aX10_feed_35 (K : Kt) : tl K (lX10_feed) 35 = o_get 10 0 38 := rfl
theorem aX10_feed_38 (K : Kt) : tl K (lX10_feed) 38 = o_iload 3 39 := rfl
theorem aX10_feed_39 (K : Kt) : tl K (lX10_feed) 39 = o_callV fX8_append 1 8 42 := rfl
theorem aX10_feed_42 (K : Kt) : tl K (lX10_feed) 42 = o_aload 0 43 := rfl
theorem aX10_feed_43 (K : Kt) : tl K (lX10_feed) 43 = o_get 10 0 46 := rfl
theorem aX10_feed_46 (K : Kt) : tl K (lX10_feed) 46 = o_iload 4 48 := rfl
theorem aX10_feed_48 (K : Kt) : tl K (lX10_feed) 48 = o_callV fX8_append 1 8 51 := rfl
theorem aX10_feed_51 (K : Kt) : tl K (lX10_feed) 51 = o_aload 0 52 := rfl
theorem aX10_feed_52 (K : Kt) : tl K (lX10_feed) 52 = o_get 10 0 55 := rfl
theorem aX10_feed_55 (K : Kt) : tl K (lX10_feed) 55 = o_iload 5 57 := rfl
theorem aX10_feed_57 (K : Kt) : tl K (lX10_feed) 57 = o_callV fX8_append 1 8 60 := rfl
theorem aX10_feed_60 (K : Kt) : tl K (lX10_feed) 60 = o_aload 0 61 := rfl
theorem aX10_feed_61 (K : Kt) : tl K (lX10_feed) 61 = o_get 10 0 64 := rfl
theorem aX10_feed_64 (K : Kt) : tl K (lX10_feed) 64 = o_get 8 1 67 := rfl
theorem aX10_feed_67 (K : Kt) : tl K (lX10_feed) 67 = o_iret K := rfl
theorem eX10_refuse {As L : List Value} {w : Wd} {K : Kt} (hw : wds As ≤ 2) (hL : ent 2 As = L) (h : RR (tl K lX10_refuse) 0 L [] w) : fX10_refuse As w K := ⟨hw, by rw [hL]; exact h⟩
theorem nX10_refuse : MonoF fX10_refuse := mono_f 2 lX10_refuse
theorem aX10_refuse_0 (K : Kt) : tl K (lX10_refuse) 0 = o_aload 0 1 := rfl
theorem aX10_refuse_1 (K : Kt) : tl K (lX10_refuse) 1 = o_iload 1 2 := rfl
theorem aX10_refuse_2 (K : Kt) : tl K (lX10_refuse) 2 = o_putI 10 10 5 := rfl
theorem aX10_refuse_5 (K : Kt) : tl K (lX10_refuse) 5 = o_aload 0 6 := rfl
theorem aX10_refuse_6 (K : Kt) : tl K (lX10_refuse) 6 = o_pushI ((-1)) 7 := rfl
theorem aX10_refuse_7 (K : Kt) : tl K (lX10_refuse) 7 = o_putI 10 12 10 := rfl
theorem aX10_refuse_10 (K : Kt) : tl K (lX10_refuse) 10 = o_pushI ((-1)) 11 := rfl
theorem aX10_refuse_11 (K : Kt) : tl K (lX10_refuse) 11 = o_iret K := rfl
theorem eX10_answer {As L : List Value} {w : Wd} {K : Kt} (hw : wds As ≤ 2) (hL : ent 2 As = L) (h : RR (tl K lX10_answer) 0 L [] w) : fX10_answer As w K := ⟨hw, by rw [hL]; exact h⟩
theorem nX10_answer : MonoF fX10_answer := mono_f 2 lX10_answer
theorem aX10_answer_0 (K : Kt) : tl K (lX10_answer) 0 = o_aload 0 1 := rfl
theorem aX10_answer_1 (K : Kt) : tl K (lX10_answer) 1 = o_pushI (nI 0) 2 := rfl
theorem aX10_answer_2 (K : Kt) : tl K (lX10_answer) 2 = o_putI 10 10 5 := rfl
theorem aX10_answer_5 (K : Kt) : tl K (lX10_answer) 5 = o_aload 0 6 := rfl
theorem aX10_answer_6 (K : Kt) : tl K (lX10_answer) 6 = o_pushI ((-1)) 7 := rfl
theorem aX10_answer_7 (K : Kt) : tl K (lX10_answer) 7 = o_putI 10 12 10 := rfl
theorem aX10_answer_10 (K : Kt) : tl K (lX10_answer) 10 = o_iload 1 11 := rfl
theorem aX10_answer_11 (K : Kt) : tl K (lX10_answer) 11 = o_iret K := rfl
theorem eX10_text {As L : List Value} {w : Wd} {K : Kt} (hw : wds As ≤ 3) (hL : ent 3 As = L) (h : RR (tl K lX10_text) 0 L [] w) : fX10_text As w K := ⟨hw, by rw [hL]; exact h⟩
theorem nX10_text : MonoF fX10_text := mono_f 3 lX10_text
theorem aX10_text_0 (K : Kt) : tl K (lX10_text) 0 = o_iload 1 1 := rfl
theorem aX10_text_1 (K : Kt) : tl K (lX10_text) 1 = o_pushI (nI 0) 2 := rfl
theorem aX10_text_2 (K : Kt) : tl K (lX10_text) 2 = o_aload 0 3 := rfl
theorem aX10_text_3 (K : Kt) : tl K (lX10_text) 3 = o_get 10 0 6 := rfl
theorem aX10_text_6 (K : Kt) : tl K (lX10_text) 6 = o_get 8 1 9 := rfl
theorem aX10_text_9 (K : Kt) : tl K (lX10_text) 9 = o_callS fX10_within 3 12 := rfl
theorem aX10_text_12 (K : Kt) : tl K (lX10_text) 12 = o_if_ne 21 15 := rfl
theorem aX10_text_15 (K : Kt) : tl K (lX10_text) 15 = o_aload 0 16 := rfl
theorem aX10_text_16 (K : Kt) : tl K (lX10_text) 16 = o_pushI (nI 2) 17 := rfl
theorem aX10_text_17 (K : Kt) : tl K (lX10_text) 17 = o_callV fX10_refuse 1 10 20 := rfl
theorem aX10_text_20 (K : Kt) : tl K (lX10_text) 20 = o_iret K := rfl
theorem aX10_text_21 (K : Kt) : tl K (lX10_text) 21 = o_aload 0 22 := rfl
theorem aX10_text_22 (K : Kt) : tl K (lX10_text) 22 = o_get 10 1 25 := rfl
theorem aX10_text_25 (K : Kt) : tl K (lX10_text) 25 = o_iload 1 26 := rfl
theorem aX10_text_26 (K : Kt) : tl K (lX10_text) 26 = o_callV fX6_read 1 6 29 := rfl
theorem aX10_text_29 (K : Kt) : tl K (lX10_text) 29 = o_istore 2 30 := rfl
theorem aX10_text_30 (K : Kt) : tl K (lX10_text) 30 = o_aload 0 31 := rfl
theorem aX10_text_31 (K : Kt) : tl K (lX10_text) 31 = o_get 10 0 34 := rfl
theorem aX10_text_34 (K : Kt) : tl K (lX10_text) 34 = o_pushI (nI 0) 35 := rfl
theorem aX10_text_35 (K : Kt) : tl K (lX10_text) 35 = o_putI 8 1 38 := rfl
theorem aX10_text_38 (K : Kt) : tl K (lX10_text) 38 = o_aload 0 39 := rfl
theorem aX10_text_39 (K : Kt) : tl K (lX10_text) 39 = o_aload 0 40 := rfl
theorem aX10_text_40 (K : Kt) : tl K (lX10_text) 40 = o_get 10 1 43 := rfl
theorem aX10_text_43 (K : Kt) : tl K (lX10_text) 43 = o_get 6 3 46 := rfl
theorem aX10_text_46 (K : Kt) : tl K (lX10_text) 46 = o_putI 10 11 49 := rfl
theorem aX10_text_49 (K : Kt) : tl K (lX10_text) 49 = o_iload 2 50 := rfl
theorem aX10_text_50 (K : Kt) : tl K (lX10_text) 50 = o_if_ne 72 53 := rfl
theorem aX10_text_53 (K : Kt) : tl K (lX10_text) 53 = o_aload 0 54 := rfl
theorem aX10_text_54 (K : Kt) : tl K (lX10_text) 54 = o_pushI (nI 4) 55 := rfl
theorem aX10_text_55 (K : Kt) : tl K (lX10_text) 55 = o_callV fX10_refuse 1 10 58 := rfl
theorem aX10_text_58 (K : Kt) : tl K (lX10_text) 58 = o_pop 59 := rfl
theorem aX10_text_59 (K : Kt) : tl K (lX10_text) 59 = o_aload 0 60 := rfl
theorem aX10_text_60 (K : Kt) : tl K (lX10_text) 60 = o_aload 0 61 := rfl
theorem aX10_text_61 (K : Kt) : tl K (lX10_text) 61 = o_get 10 1 64 := rfl
theorem aX10_text_64 (K : Kt) : tl K (lX10_text) 64 = o_get 6 4 67 := rfl
theorem aX10_text_67 (K : Kt) : tl K (lX10_text) 67 = o_putI 10 12 70 := rfl
theorem aX10_text_70 (K : Kt) : tl K (lX10_text) 70 = o_pushI ((-1)) 71 := rfl
theorem aX10_text_71 (K : Kt) : tl K (lX10_text) 71 = o_iret K := rfl
theorem aX10_text_72 (K : Kt) : tl K (lX10_text) 72 = o_aload 0 73 := rfl
theorem aX10_text_73 (K : Kt) : tl K (lX10_text) 73 = o_get 10 2 76 := rfl
theorem aX10_text_76 (K : Kt) : tl K (lX10_text) 76 = o_aload 0 77 := rfl
theorem aX10_text_77 (K : Kt) : tl K (lX10_text) 77 = o_get 10 1 80 := rfl
theorem aX10_text_80 (K : Kt) : tl K (lX10_text) 80 = o_get 6 2 83 := rfl
theorem aX10_text_83 (K : Kt) : tl K (lX10_text) 83 = o_callV fX9_copyFrom 1 9 86 := rfl
theorem aX10_text_86 (K : Kt) : tl K (lX10_text) 86 = o_aload 0 87 := rfl
theorem aX10_text_87 (K : Kt) : tl K (lX10_text) 87 = o_get 10 3 90 := rfl
theorem aX10_text_90 (K : Kt) : tl K (lX10_text) 90 = o_callV fX5_empty 0 5 93 := rfl
theorem aX10_text_93 (K : Kt) : tl K (lX10_text) 93 = o_aload 0 94 := rfl
theorem aX10_text_94 (K : Kt) : tl K (lX10_text) 94 = o_get 10 9 97 := rfl
theorem aX10_text_97 (K : Kt) : tl K (lX10_text) 97 = o_pushI (nI 0) 98 := rfl
theorem aX10_text_98 (K : Kt) : tl K (lX10_text) 98 = o_putI 4 4 101 := rfl
theorem aX10_text_101 (K : Kt) : tl K (lX10_text) 101 = o_aload 0 102 := rfl
theorem aX10_text_102 (K : Kt) : tl K (lX10_text) 102 = o_aload 0 103 := rfl
theorem aX10_text_103 (K : Kt) : tl K (lX10_text) 103 = o_get 10 2 106 := rfl
theorem aX10_text_106 (K : Kt) : tl K (lX10_text) 106 = o_get 9 4 109 := rfl
theorem aX10_text_109 (K : Kt) : tl K (lX10_text) 109 = o_callV fX10_answer 1 10 112 := rfl
theorem aX10_text_112 (K : Kt) : tl K (lX10_text) 112 = o_iret K := rfl
theorem eX10_fault {As L : List Value} {w : Wd} {K : Kt} (hw : wds As ≤ 1) (hL : ent 1 As = L) (h : RR (tl K lX10_fault) 0 L [] w) : fX10_fault As w K := ⟨hw, by rw [hL]; exact h⟩
theorem nX10_fault : MonoF fX10_fault := mono_f 1 lX10_fault
theorem aX10_fault_0 (K : Kt) : tl K (lX10_fault) 0 = o_aload 0 1 := rfl
theorem aX10_fault_1 (K : Kt) : tl K (lX10_fault) 1 = o_get 10 11 4 := rfl
theorem aX10_fault_4 (K : Kt) : tl K (lX10_fault) 4 = o_iret K := rfl
theorem eX10_where {As L : List Value} {w : Wd} {K : Kt} (hw : wds As ≤ 1) (hL : ent 1 As = L) (h : RR (tl K lX10_where) 0 L [] w) : fX10_where As w K := ⟨hw, by rw [hL]; exact h⟩
theorem nX10_where : MonoF fX10_where := mono_f 1 lX10_where
theorem aX10_where_0 (K : Kt) : tl K (lX10_where) 0 = o_aload 0 1 := rfl
theorem aX10_where_1 (K : Kt) : tl K (lX10_where) 1 = o_get 10 12 4 := rfl
theorem aX10_where_4 (K : Kt) : tl K (lX10_where) 4 = o_iret K := rfl
theorem eX10_hasText {As L : List Value} {w : Wd} {K : Kt} (hw : wds As ≤ 1) (hL : ent 1 As = L) (h : RR (tl K lX10_hasText) 0 L [] w) : fX10_hasText As w K := ⟨hw, by rw [hL]; exact h⟩
theorem nX10_hasText : MonoF fX10_hasText := mono_f 1 lX10_hasText
theorem aX10_hasText_0 (K : Kt) : tl K (lX10_hasText) 0 = o_aload 0 1 := rfl
theorem aX10_hasText_1 (K : Kt) : tl K (lX10_hasText) 1 = o_get 10 2 4 := rfl
theorem aX10_hasText_4 (K : Kt) : tl K (lX10_hasText) 4 = o_get 9 4 7 := rfl
theorem aX10_hasText_7 (K : Kt) : tl K (lX10_hasText) 7 = o_if_le 14 10 := rfl
theorem aX10_hasText_10 (K : Kt) : tl K (lX10_hasText) 10 = o_pushI (nI 1) 11 := rfl
theorem aX10_hasText_11 (K : Kt) : tl K (lX10_hasText) 11 = o_goto 15 := rfl
theorem aX10_hasText_14 (K : Kt) : tl K (lX10_hasText) 14 = o_pushI (nI 0) 15 := rfl
theorem aX10_hasText_15 (K : Kt) : tl K (lX10_hasText) 15 = o_zret K := rfl
theorem eX10_tellAll {As L : List Value} {w : Wd} {K : Kt} (hw : wds As ≤ 2) (hL : ent 2 As = L) (h : RR (tl K lX10_tellAll) 0 L [] w) : fX10_tellAll As w K := ⟨hw, by rw [hL]; exact h⟩
theorem nX10_tellAll : MonoF fX10_tellAll := mono_f 2 lX10_tellAll
theorem aX10_tellAll_0 (K : Kt) : tl K (lX10_tellAll) 0 = o_iload 1 1 := rfl
theorem aX10_tellAll_1 (K : Kt) : tl K (lX10_tellAll) 1 = o_table 0 6 106 [44, 52, 60, 68, 78, 88, 98] := rfl
theorem aX10_tellAll_44 (K : Kt) : tl K (lX10_tellAll) 44 = o_aload 0 45 := rfl
theorem aX10_tellAll_45 (K : Kt) : tl K (lX10_tellAll) 45 = o_get 10 2 48 := rfl
theorem aX10_tellAll_48 (K : Kt) : tl K (lX10_tellAll) 48 = o_get 9 0 51 := rfl
theorem aX10_tellAll_51 (K : Kt) : tl K (lX10_tellAll) 51 = o_iret K := rfl
theorem aX10_tellAll_52 (K : Kt) : tl K (lX10_tellAll) 52 = o_aload 0 53 := rfl
theorem aX10_tellAll_53 (K : Kt) : tl K (lX10_tellAll) 53 = o_get 10 2 56 := rfl
theorem aX10_tellAll_56 (K : Kt) : tl K (lX10_tellAll) 56 = o_get 9 4 59 := rfl
theorem aX10_tellAll_59 (K : Kt) : tl K (lX10_tellAll) 59 = o_iret K := rfl
theorem aX10_tellAll_60 (K : Kt) : tl K (lX10_tellAll) 60 = o_aload 0 61 := rfl
theorem aX10_tellAll_61 (K : Kt) : tl K (lX10_tellAll) 61 = o_get 10 4 64 := rfl
theorem aX10_tellAll_64 (K : Kt) : tl K (lX10_tellAll) 64 = o_callV fX1_allOutings 0 1 67 := rfl
theorem aX10_tellAll_67 (K : Kt) : tl K (lX10_tellAll) 67 = o_iret K := rfl
theorem aX10_tellAll_68 (K : Kt) : tl K (lX10_tellAll) 68 = o_aload 0 69 := rfl
theorem aX10_tellAll_69 (K : Kt) : tl K (lX10_tellAll) 69 = o_get 10 2 72 := rfl
theorem aX10_tellAll_72 (K : Kt) : tl K (lX10_tellAll) 72 = o_get 9 6 75 := rfl
theorem aX10_tellAll_75 (K : Kt) : tl K (lX10_tellAll) 75 = o_pushI (nI 0) 76 := rfl
theorem aX10_tellAll_76 (K : Kt) : tl K (lX10_tellAll) 76 = o_iald 77 := rfl
theorem aX10_tellAll_77 (K : Kt) : tl K (lX10_tellAll) 77 = o_iret K := rfl
theorem aX10_tellAll_78 (K : Kt) : tl K (lX10_tellAll) 78 = o_aload 0 79 := rfl
theorem aX10_tellAll_79 (K : Kt) : tl K (lX10_tellAll) 79 = o_get 10 2 82 := rfl
theorem aX10_tellAll_82 (K : Kt) : tl K (lX10_tellAll) 82 = o_get 9 6 85 := rfl
theorem aX10_tellAll_85 (K : Kt) : tl K (lX10_tellAll) 85 = o_pushI (nI 1) 86 := rfl
theorem aX10_tellAll_86 (K : Kt) : tl K (lX10_tellAll) 86 = o_iald 87 := rfl
theorem aX10_tellAll_87 (K : Kt) : tl K (lX10_tellAll) 87 = o_iret K := rfl
theorem aX10_tellAll_88 (K : Kt) : tl K (lX10_tellAll) 88 = o_aload 0 89 := rfl
theorem aX10_tellAll_89 (K : Kt) : tl K (lX10_tellAll) 89 = o_get 10 2 92 := rfl
theorem aX10_tellAll_92 (K : Kt) : tl K (lX10_tellAll) 92 = o_get 9 6 95 := rfl
theorem aX10_tellAll_95 (K : Kt) : tl K (lX10_tellAll) 95 = o_pushI (nI 2) 96 := rfl
theorem aX10_tellAll_96 (K : Kt) : tl K (lX10_tellAll) 96 = o_iald 97 := rfl
theorem aX10_tellAll_97 (K : Kt) : tl K (lX10_tellAll) 97 = o_iret K := rfl
theorem aX10_tellAll_98 (K : Kt) : tl K (lX10_tellAll) 98 = o_aload 0 99 := rfl
theorem aX10_tellAll_99 (K : Kt) : tl K (lX10_tellAll) 99 = o_get 10 2 102 := rfl
theorem aX10_tellAll_102 (K : Kt) : tl K (lX10_tellAll) 102 = o_get 9 7 105 := rfl
theorem aX10_tellAll_105 (K : Kt) : tl K (lX10_tellAll) 105 = o_iret K := rfl
theorem aX10_tellAll_106 (K : Kt) : tl K (lX10_tellAll) 106 = o_aload 0 107 := rfl
theorem aX10_tellAll_107 (K : Kt) : tl K (lX10_tellAll) 107 = o_get 10 9 110 := rfl
theorem aX10_tellAll_110 (K : Kt) : tl K (lX10_tellAll) 110 = o_get 4 4 113 := rfl
theorem aX10_tellAll_113 (K : Kt) : tl K (lX10_tellAll) 113 = o_iret K := rfl
theorem eX10_about {As L : List Value} {w : Wd} {K : Kt} (hw : wds As ≤ 2) (hL : ent 2 As = L) (h : RR (tl K lX10_about) 0 L [] w) : fX10_about As w K := ⟨hw, by rw [hL]; exact h⟩
theorem nX10_about : MonoF fX10_about := mono_f 2 lX10_about
theorem aX10_about_0 (K : Kt) : tl K (lX10_about) 0 = o_aload 0 1 := rfl
theorem aX10_about_1 (K : Kt) : tl K (lX10_about) 1 = o_callV fX10_hasText 0 10 4 := rfl
theorem aX10_about_4 (K : Kt) : tl K (lX10_about) 4 = o_if_eq 17 7 := rfl
theorem aX10_about_7 (K : Kt) : tl K (lX10_about) 7 = o_iload 1 8 := rfl
theorem aX10_about_8 (K : Kt) : tl K (lX10_about) 8 = o_pushI (nI 0) 9 := rfl
theorem aX10_about_9 (K : Kt) : tl K (lX10_about) 9 = o_pushI (nI 7) 11 := rfl
theorem aX10_about_11 (K : Kt) : tl K (lX10_about) 11 = o_callS fX10_within 3 14 := rfl
theorem aX10_about_14 (K : Kt) : tl K (lX10_about) 14 = o_if_ne 23 17 := rfl
theorem aX10_about_17 (K : Kt) : tl K (lX10_about) 17 = o_aload 0 18 := rfl
theorem aX10_about_18 (K : Kt) : tl K (lX10_about) 18 = o_pushI (nI 1) 19 := rfl
theorem aX10_about_19 (K : Kt) : tl K (lX10_about) 19 = o_callV fX10_refuse 1 10 22 := rfl
theorem aX10_about_22 (K : Kt) : tl K (lX10_about) 22 = o_iret K := rfl
theorem aX10_about_23 (K : Kt) : tl K (lX10_about) 23 = o_aload 0 24 := rfl
theorem aX10_about_24 (K : Kt) : tl K (lX10_about) 24 = o_aload 0 25 := rfl
theorem aX10_about_25 (K : Kt) : tl K (lX10_about) 25 = o_iload 1 26 := rfl
theorem aX10_about_26 (K : Kt) : tl K (lX10_about) 26 = o_callV fX10_tellAll 1 10 29 := rfl
theorem aX10_about_29 (K : Kt) : tl K (lX10_about) 29 = o_callV fX10_answer 1 10 32 := rfl
theorem aX10_about_32 (K : Kt) : tl K (lX10_about) 32 = o_iret K := rfl
theorem eX10_hasArm {As L : List Value} {w : Wd} {K : Kt} (hw : wds As ≤ 2) (hL : ent 2 As = L) (h : RR (tl K lX10_hasArm) 0 L [] w) : fX10_hasArm As w K := ⟨hw, by rw [hL]; exact h⟩
theorem nX10_hasArm : MonoF fX10_hasArm := mono_f 2 lX10_hasArm
theorem aX10_hasArm_0 (K : Kt) : tl K (lX10_hasArm) 0 = o_iload 1 1 := rfl
theorem aX10_hasArm_1 (K : Kt) : tl K (lX10_hasArm) 1 = o_pushI (nI 0) 2 := rfl
theorem aX10_hasArm_2 (K : Kt) : tl K (lX10_hasArm) 2 = o_aload 0 3 := rfl
theorem aX10_hasArm_3 (K : Kt) : tl K (lX10_hasArm) 3 = o_get 10 2 6 := rfl
theorem aX10_hasArm_6 (K : Kt) : tl K (lX10_hasArm) 6 = o_get 9 0 9 := rfl
theorem aX10_hasArm_9 (K : Kt) : tl K (lX10_hasArm) 9 = o_pushI (nI 1) 10 := rfl
theorem aX10_hasArm_10 (K : Kt) : tl K (lX10_hasArm) 10 = o_isub 11 := rfl
theorem aX10_hasArm_11 (K : Kt) : tl K (lX10_hasArm) 11 = o_callS fX10_within 3 14 := rfl
theorem aX10_hasArm_14 (K : Kt) : tl K (lX10_hasArm) 14 = o_zret K := rfl
theorem eX10_tellArm {As L : List Value} {w : Wd} {K : Kt} (hw : wds As ≤ 3) (hL : ent 3 As = L) (h : RR (tl K lX10_tellArm) 0 L [] w) : fX10_tellArm As w K := ⟨hw, by rw [hL]; exact h⟩
theorem nX10_tellArm : MonoF fX10_tellArm := mono_f 3 lX10_tellArm
theorem aX10_tellArm_0 (K : Kt) : tl K (lX10_tellArm) 0 = o_iload 2 1 := rfl
theorem aX10_tellArm_1 (K : Kt) : tl K (lX10_tellArm) 1 = o_table 0 6 112 [44, 54, 64, 74, 84, 94, 103] := rfl
theorem aX10_tellArm_44 (K : Kt) : tl K (lX10_tellArm) 44 = o_aload 0 45 := rfl
theorem aX10_tellArm_45 (K : Kt) : tl K (lX10_tellArm) 45 = o_get 10 2 48 := rfl
theorem aX10_tellArm_48 (K : Kt) : tl K (lX10_tellArm) 48 = o_get 9 2 51 := rfl
theorem aX10_tellArm_51 (K : Kt) : tl K (lX10_tellArm) 51 = o_iload 1 52 := rfl
theorem aX10_tellArm_52 (K : Kt) : tl K (lX10_tellArm) 52 = o_iald 53 := rfl
theorem aX10_tellArm_53 (K : Kt) : tl K (lX10_tellArm) 53 = o_iret K := rfl
theorem aX10_tellArm_54 (K : Kt) : tl K (lX10_tellArm) 54 = o_aload 0 55 := rfl
theorem aX10_tellArm_55 (K : Kt) : tl K (lX10_tellArm) 55 = o_get 10 2 58 := rfl
theorem aX10_tellArm_58 (K : Kt) : tl K (lX10_tellArm) 58 = o_iload 1 59 := rfl
theorem aX10_tellArm_59 (K : Kt) : tl K (lX10_tellArm) 59 = o_pushI (nI 0) 60 := rfl
theorem aX10_tellArm_60 (K : Kt) : tl K (lX10_tellArm) 60 = o_callV fX9_trait 2 9 63 := rfl
theorem aX10_tellArm_63 (K : Kt) : tl K (lX10_tellArm) 63 = o_iret K := rfl
theorem aX10_tellArm_64 (K : Kt) : tl K (lX10_tellArm) 64 = o_aload 0 65 := rfl
theorem aX10_tellArm_65 (K : Kt) : tl K (lX10_tellArm) 65 = o_get 10 2 68 := rfl
theorem aX10_tellArm_68 (K : Kt) : tl K (lX10_tellArm) 68 = o_iload 1 69 := rfl
theorem aX10_tellArm_69 (K : Kt) : tl K (lX10_tellArm) 69 = o_pushI (nI 1) 70 := rfl
theorem aX10_tellArm_70 (K : Kt) : tl K (lX10_tellArm) 70 = o_callV fX9_trait 2 9 73 := rfl
theorem aX10_tellArm_73 (K : Kt) : tl K (lX10_tellArm) 73 = o_iret K := rfl
theorem aX10_tellArm_74 (K : Kt) : tl K (lX10_tellArm) 74 = o_aload 0 75 := rfl
theorem aX10_tellArm_75 (K : Kt) : tl K (lX10_tellArm) 75 = o_get 10 2 78 := rfl
theorem aX10_tellArm_78 (K : Kt) : tl K (lX10_tellArm) 78 = o_iload 1 79 := rfl
theorem aX10_tellArm_79 (K : Kt) : tl K (lX10_tellArm) 79 = o_pushI (nI 2) 80 := rfl
theorem aX10_tellArm_80 (K : Kt) : tl K (lX10_tellArm) 80 = o_callV fX9_trait 2 9 83 := rfl
theorem aX10_tellArm_83 (K : Kt) : tl K (lX10_tellArm) 83 = o_iret K := rfl
theorem aX10_tellArm_84 (K : Kt) : tl K (lX10_tellArm) 84 = o_aload 0 85 := rfl
theorem aX10_tellArm_85 (K : Kt) : tl K (lX10_tellArm) 85 = o_get 10 2 88 := rfl
theorem aX10_tellArm_88 (K : Kt) : tl K (lX10_tellArm) 88 = o_iload 1 89 := rfl
theorem aX10_tellArm_89 (K : Kt) : tl K (lX10_tellArm) 89 = o_pushI (nI 3) 90 := rfl
theorem aX10_tellArm_90 (K : Kt) : tl K (lX10_tellArm) 90 = o_callV fX9_trait 2 9 93 := rfl
theorem aX10_tellArm_93 (K : Kt) : tl K (lX10_tellArm) 93 = o_iret K := rfl
theorem aX10_tellArm_94 (K : Kt) : tl K (lX10_tellArm) 94 = o_aload 0 95 := rfl
theorem aX10_tellArm_95 (K : Kt) : tl K (lX10_tellArm) 95 = o_get 10 4 98 := rfl
theorem aX10_tellArm_98 (K : Kt) : tl K (lX10_tellArm) 98 = o_iload 1 99 := rfl
theorem aX10_tellArm_99 (K : Kt) : tl K (lX10_tellArm) 99 = o_callV fX1_throwsOfArm 1 1 102 := rfl
theorem aX10_tellArm_102 (K : Kt) : tl K (lX10_tellArm) 102 = o_iret K := rfl
theorem aX10_tellArm_103 (K : Kt) : tl K (lX10_tellArm) 103 = o_aload 0 104 := rfl
theorem aX10_tellArm_104 (K : Kt) : tl K (lX10_tellArm) 104 = o_get 10 4 107 := rfl
theorem aX10_tellArm_107 (K : Kt) : tl K (lX10_tellArm) 107 = o_iload 1 108 := rfl
theorem aX10_tellArm_108 (K : Kt) : tl K (lX10_tellArm) 108 = o_callV fX1_outingsOfArm 1 1 111 := rfl
theorem aX10_tellArm_111 (K : Kt) : tl K (lX10_tellArm) 111 = o_iret K := rfl
theorem aX10_tellArm_112 (K : Kt) : tl K (lX10_tellArm) 112 = o_aload 0 113 := rfl
theorem aX10_tellArm_113 (K : Kt) : tl K (lX10_tellArm) 113 = o_get 10 4 116 := rfl
theorem aX10_tellArm_116 (K : Kt) : tl K (lX10_tellArm) 116 = o_iload 1 117 := rfl
theorem aX10_tellArm_117 (K : Kt) : tl K (lX10_tellArm) 117 = o_callV fX1_valueOfArm 1 1 120 := rfl
theorem aX10_tellArm_120 (K : Kt) : tl K (lX10_tellArm) 120 = o_iret K := rfl
theorem eX10_arm {As L : List Value} {w : Wd} {K : Kt} (hw : wds As ≤ 3) (hL : ent 3 As = L) (h : RR (tl K lX10_arm) 0 L [] w) : fX10_arm As w K := ⟨hw, by rw [hL]; exact h⟩
theorem nX10_arm : MonoF fX10_arm := mono_f 3 lX10_arm
theorem aX10_arm_0 (K : Kt) : tl K (lX10_arm) 0 = o_aload 0 1 := rfl
theorem aX10_arm_1 (K : Kt) : tl K (lX10_arm) 1 = o_iload 1 2 := rfl
theorem aX10_arm_2 (K : Kt) : tl K (lX10_arm) 2 = o_callV fX10_hasArm 1 10 5 := rfl
theorem aX10_arm_5 (K : Kt) : tl K (lX10_arm) 5 = o_if_eq 18 8 := rfl
theorem aX10_arm_8 (K : Kt) : tl K (lX10_arm) 8 = o_iload 2 9 := rfl
theorem aX10_arm_9 (K : Kt) : tl K (lX10_arm) 9 = o_pushI (nI 0) 10 := rfl
theorem aX10_arm_10 (K : Kt) : tl K (lX10_arm) 10 = o_pushI (nI 7) 12 := rfl
theorem aX10_arm_12 (K : Kt) : tl K (lX10_arm) 12 = o_callS fX10_within 3 15 := rfl
theorem aX10_arm_15 (K : Kt) : tl K (lX10_arm) 15 = o_if_ne 24 18 := rfl
theorem aX10_arm_18 (K : Kt) : tl K (lX10_arm) 18 = o_aload 0 19 := rfl
theorem aX10_arm_19 (K : Kt) : tl K (lX10_arm) 19 = o_pushI (nI 1) 20 := rfl
theorem aX10_arm_20 (K : Kt) : tl K (lX10_arm) 20 = o_callV fX10_refuse 1 10 23 := rfl
theorem aX10_arm_23 (K : Kt) : tl K (lX10_arm) 23 = o_iret K := rfl
theorem aX10_arm_24 (K : Kt) : tl K (lX10_arm) 24 = o_aload 0 25 := rfl
theorem aX10_arm_25 (K : Kt) : tl K (lX10_arm) 25 = o_aload 0 26 := rfl
theorem aX10_arm_26 (K : Kt) : tl K (lX10_arm) 26 = o_iload 1 27 := rfl
theorem aX10_arm_27 (K : Kt) : tl K (lX10_arm) 27 = o_iload 2 28 := rfl
theorem aX10_arm_28 (K : Kt) : tl K (lX10_arm) 28 = o_callV fX10_tellArm 2 10 31 := rfl
theorem aX10_arm_31 (K : Kt) : tl K (lX10_arm) 31 = o_callV fX10_answer 1 10 34 := rfl
theorem aX10_arm_34 (K : Kt) : tl K (lX10_arm) 34 = o_iret K := rfl
theorem eX10_hasGame {As L : List Value} {w : Wd} {K : Kt} (hw : wds As ≤ 2) (hL : ent 2 As = L) (h : RR (tl K lX10_hasGame) 0 L [] w) : fX10_hasGame As w K := ⟨hw, by rw [hL]; exact h⟩
theorem nX10_hasGame : MonoF fX10_hasGame := mono_f 2 lX10_hasGame
theorem aX10_hasGame_0 (K : Kt) : tl K (lX10_hasGame) 0 = o_iload 1 1 := rfl
theorem aX10_hasGame_1 (K : Kt) : tl K (lX10_hasGame) 1 = o_pushI (nI 0) 2 := rfl
theorem aX10_hasGame_2 (K : Kt) : tl K (lX10_hasGame) 2 = o_aload 0 3 := rfl
theorem aX10_hasGame_3 (K : Kt) : tl K (lX10_hasGame) 3 = o_get 10 2 6 := rfl
theorem aX10_hasGame_6 (K : Kt) : tl K (lX10_hasGame) 6 = o_get 9 4 9 := rfl
theorem aX10_hasGame_9 (K : Kt) : tl K (lX10_hasGame) 9 = o_pushI (nI 1) 10 := rfl
theorem aX10_hasGame_10 (K : Kt) : tl K (lX10_hasGame) 10 = o_isub 11 := rfl
theorem aX10_hasGame_11 (K : Kt) : tl K (lX10_hasGame) 11 = o_callS fX10_within 3 14 := rfl
theorem aX10_hasGame_14 (K : Kt) : tl K (lX10_hasGame) 14 = o_zret K := rfl
theorem eX10_tellGame {As L : List Value} {w : Wd} {K : Kt} (hw : wds As ≤ 3) (hL : ent 3 As = L) (h : RR (tl K lX10_tellGame) 0 L [] w) : fX10_tellGame As w K := ⟨hw, by rw [hL]; exact h⟩
theorem nX10_tellGame : MonoF fX10_tellGame := mono_f 3 lX10_tellGame
theorem aX10_tellGame_0 (K : Kt) : tl K (lX10_tellGame) 0 = o_iload 2 1 := rfl
theorem aX10_tellGame_1 (K : Kt) : tl K (lX10_tellGame) 1 = o_table 0 4 85 [36, 46, 56, 66, 76] := rfl
theorem aX10_tellGame_36 (K : Kt) : tl K (lX10_tellGame) 36 = o_aload 0 37 := rfl
theorem aX10_tellGame_37 (K : Kt) : tl K (lX10_tellGame) 37 = o_get 10 2 40 := rfl
theorem aX10_tellGame_40 (K : Kt) : tl K (lX10_tellGame) 40 = o_iload 1 41 := rfl
theorem aX10_tellGame_41 (K : Kt) : tl K (lX10_tellGame) 41 = o_pushI (nI 0) 42 := rfl
theorem aX10_tellGame_42 (K : Kt) : tl K (lX10_tellGame) 42 = o_callV fX9_fact 2 9 45 := rfl
theorem aX10_tellGame_45 (K : Kt) : tl K (lX10_tellGame) 45 = o_iret K := rfl
theorem aX10_tellGame_46 (K : Kt) : tl K (lX10_tellGame) 46 = o_aload 0 47 := rfl
theorem aX10_tellGame_47 (K : Kt) : tl K (lX10_tellGame) 47 = o_get 10 2 50 := rfl
theorem aX10_tellGame_50 (K : Kt) : tl K (lX10_tellGame) 50 = o_iload 1 51 := rfl
theorem aX10_tellGame_51 (K : Kt) : tl K (lX10_tellGame) 51 = o_pushI (nI 1) 52 := rfl
theorem aX10_tellGame_52 (K : Kt) : tl K (lX10_tellGame) 52 = o_callV fX9_fact 2 9 55 := rfl
theorem aX10_tellGame_55 (K : Kt) : tl K (lX10_tellGame) 55 = o_iret K := rfl
theorem aX10_tellGame_56 (K : Kt) : tl K (lX10_tellGame) 56 = o_aload 0 57 := rfl
theorem aX10_tellGame_57 (K : Kt) : tl K (lX10_tellGame) 57 = o_get 10 2 60 := rfl
theorem aX10_tellGame_60 (K : Kt) : tl K (lX10_tellGame) 60 = o_iload 1 61 := rfl
theorem aX10_tellGame_61 (K : Kt) : tl K (lX10_tellGame) 61 = o_pushI (nI 2) 62 := rfl
theorem aX10_tellGame_62 (K : Kt) : tl K (lX10_tellGame) 62 = o_callV fX9_fact 2 9 65 := rfl
theorem aX10_tellGame_65 (K : Kt) : tl K (lX10_tellGame) 65 = o_iret K := rfl
theorem aX10_tellGame_66 (K : Kt) : tl K (lX10_tellGame) 66 = o_aload 0 67 := rfl
theorem aX10_tellGame_67 (K : Kt) : tl K (lX10_tellGame) 67 = o_get 10 3 70 := rfl
theorem aX10_tellGame_70 (K : Kt) : tl K (lX10_tellGame) 70 = o_get 5 0 73 := rfl
theorem aX10_tellGame_73 (K : Kt) : tl K (lX10_tellGame) 73 = o_iload 1 74 := rfl
theorem aX10_tellGame_74 (K : Kt) : tl K (lX10_tellGame) 74 = o_iald 75 := rfl
theorem aX10_tellGame_75 (K : Kt) : tl K (lX10_tellGame) 75 = o_iret K := rfl
theorem aX10_tellGame_76 (K : Kt) : tl K (lX10_tellGame) 76 = o_aload 0 77 := rfl
theorem aX10_tellGame_77 (K : Kt) : tl K (lX10_tellGame) 77 = o_get 10 4 80 := rfl
theorem aX10_tellGame_80 (K : Kt) : tl K (lX10_tellGame) 80 = o_iload 1 81 := rfl
theorem aX10_tellGame_81 (K : Kt) : tl K (lX10_tellGame) 81 = o_callV fX1_leftIn 1 1 84 := rfl
theorem aX10_tellGame_84 (K : Kt) : tl K (lX10_tellGame) 84 = o_iret K := rfl
theorem aX10_tellGame_85 (K : Kt) : tl K (lX10_tellGame) 85 = o_aload 0 86 := rfl
theorem aX10_tellGame_86 (K : Kt) : tl K (lX10_tellGame) 86 = o_get 10 4 89 := rfl
theorem aX10_tellGame_89 (K : Kt) : tl K (lX10_tellGame) 89 = o_iload 1 90 := rfl
theorem aX10_tellGame_90 (K : Kt) : tl K (lX10_tellGame) 90 = o_callV fX1_valueOfGame 1 1 93 := rfl
theorem aX10_tellGame_93 (K : Kt) : tl K (lX10_tellGame) 93 = o_iret K := rfl
theorem eX10_game {As L : List Value} {w : Wd} {K : Kt} (hw : wds As ≤ 3) (hL : ent 3 As = L) (h : RR (tl K lX10_game) 0 L [] w) : fX10_game As w K := ⟨hw, by rw [hL]; exact h⟩
theorem nX10_game : MonoF fX10_game := mono_f 3 lX10_game
theorem aX10_game_0 (K : Kt) : tl K (lX10_game) 0 = o_aload 0 1 := rfl
theorem aX10_game_1 (K : Kt) : tl K (lX10_game) 1 = o_iload 1 2 := rfl
theorem aX10_game_2 (K : Kt) : tl K (lX10_game) 2 = o_callV fX10_hasGame 1 10 5 := rfl
theorem aX10_game_5 (K : Kt) : tl K (lX10_game) 5 = o_if_eq 17 8 := rfl
theorem aX10_game_8 (K : Kt) : tl K (lX10_game) 8 = o_iload 2 9 := rfl
theorem aX10_game_9 (K : Kt) : tl K (lX10_game) 9 = o_pushI (nI 0) 10 := rfl
theorem aX10_game_10 (K : Kt) : tl K (lX10_game) 10 = o_pushI (nI 5) 11 := rfl
theorem aX10_game_11 (K : Kt) : tl K (lX10_game) 11 = o_callS fX10_within 3 14 := rfl
theorem aX10_game_14 (K : Kt) : tl K (lX10_game) 14 = o_if_ne 23 17 := rfl
theorem aX10_game_17 (K : Kt) : tl K (lX10_game) 17 = o_aload 0 18 := rfl
theorem aX10_game_18 (K : Kt) : tl K (lX10_game) 18 = o_pushI (nI 1) 19 := rfl
theorem aX10_game_19 (K : Kt) : tl K (lX10_game) 19 = o_callV fX10_refuse 1 10 22 := rfl
theorem aX10_game_22 (K : Kt) : tl K (lX10_game) 22 = o_iret K := rfl
theorem aX10_game_23 (K : Kt) : tl K (lX10_game) 23 = o_aload 0 24 := rfl
theorem aX10_game_24 (K : Kt) : tl K (lX10_game) 24 = o_aload 0 25 := rfl
theorem aX10_game_25 (K : Kt) : tl K (lX10_game) 25 = o_iload 1 26 := rfl
theorem aX10_game_26 (K : Kt) : tl K (lX10_game) 26 = o_iload 2 27 := rfl
theorem aX10_game_27 (K : Kt) : tl K (lX10_game) 27 = o_callV fX10_tellGame 2 10 30 := rfl
theorem aX10_game_30 (K : Kt) : tl K (lX10_game) 30 = o_callV fX10_answer 1 10 33 := rfl
theorem aX10_game_33 (K : Kt) : tl K (lX10_game) 33 = o_iret K := rfl
theorem eX10_rest {As L : List Value} {w : Wd} {K : Kt} (hw : wds As ≤ 2) (hL : ent 2 As = L) (h : RR (tl K lX10_rest) 0 L [] w) : fX10_rest As w K := ⟨hw, by rw [hL]; exact h⟩
theorem nX10_rest : MonoF fX10_rest := mono_f 2 lX10_rest
theorem aX10_rest_0 (K : Kt) : tl K (lX10_rest) 0 = o_aload 0 1 := rfl
theorem aX10_rest_1 (K : Kt) : tl K (lX10_rest) 1 = o_callV fX10_hasText 0 10 4 := rfl
theorem aX10_rest_4 (K : Kt) : tl K (lX10_rest) 4 = o_if_ne 13 7 := rfl
theorem aX10_rest_7 (K : Kt) : tl K (lX10_rest) 7 = o_aload 0 8 := rfl
theorem aX10_rest_8 (K : Kt) : tl K (lX10_rest) 8 = o_pushI (nI 1) 9 := rfl
theorem aX10_rest_9 (K : Kt) : tl K (lX10_rest) 9 = o_callV fX10_refuse 1 10 12 := rfl
theorem aX10_rest_12 (K : Kt) : tl K (lX10_rest) 12 = o_iret K := rfl
theorem aX10_rest_13 (K : Kt) : tl K (lX10_rest) 13 = o_iload 1 14 := rfl
theorem aX10_rest_14 (K : Kt) : tl K (lX10_rest) 14 = o_pushI (nI 0) 15 := rfl
theorem aX10_rest_15 (K : Kt) : tl K (lX10_rest) 15 = o_pushI (nI 200) 18 := rfl
theorem aX10_rest_18 (K : Kt) : tl K (lX10_rest) 18 = o_callS fX10_within 3 21 := rfl
theorem aX10_rest_21 (K : Kt) : tl K (lX10_rest) 21 = o_if_ne 30 24 := rfl
theorem aX10_rest_24 (K : Kt) : tl K (lX10_rest) 24 = o_aload 0 25 := rfl
theorem aX10_rest_25 (K : Kt) : tl K (lX10_rest) 25 = o_pushI (nI 2) 26 := rfl
theorem aX10_rest_26 (K : Kt) : tl K (lX10_rest) 26 = o_callV fX10_refuse 1 10 29 := rfl
theorem aX10_rest_29 (K : Kt) : tl K (lX10_rest) 29 = o_iret K := rfl
theorem aX10_rest_30 (K : Kt) : tl K (lX10_rest) 30 = o_aload 0 31 := rfl
theorem aX10_rest_31 (K : Kt) : tl K (lX10_rest) 31 = o_aload 0 32 := rfl
theorem aX10_rest_32 (K : Kt) : tl K (lX10_rest) 32 = o_get 10 2 35 := rfl
theorem aX10_rest_35 (K : Kt) : tl K (lX10_rest) 35 = o_iload 1 36 := rfl
theorem aX10_rest_36 (K : Kt) : tl K (lX10_rest) 36 = o_callV fX9_restAfter 1 9 39 := rfl
theorem aX10_rest_39 (K : Kt) : tl K (lX10_rest) 39 = o_callV fX10_answer 1 10 42 := rfl
theorem aX10_rest_42 (K : Kt) : tl K (lX10_rest) 42 = o_iret K := rfl
theorem eX10_hasOuting {As L : List Value} {w : Wd} {K : Kt} (hw : wds As ≤ 3) (hL : ent 3 As = L) (h : RR (tl K lX10_hasOuting) 0 L [] w) : fX10_hasOuting As w K := ⟨hw, by rw [hL]; exact h⟩
theorem nX10_hasOuting : MonoF fX10_hasOuting := mono_f 3 lX10_hasOuting
theorem aX10_hasOuting_0 (K : Kt) : tl K (lX10_hasOuting) 0 = o_aload 0 1 := rfl
theorem aX10_hasOuting_1 (K : Kt) : tl K (lX10_hasOuting) 1 = o_iload 1 2 := rfl
theorem aX10_hasOuting_2 (K : Kt) : tl K (lX10_hasOuting) 2 = o_callV fX10_hasGame 1 10 5 := rfl
theorem aX10_hasOuting_5 (K : Kt) : tl K (lX10_hasOuting) 5 = o_if_eq 31 8 := rfl
theorem aX10_hasOuting_8 (K : Kt) : tl K (lX10_hasOuting) 8 = o_iload 2 9 := rfl
theorem aX10_hasOuting_9 (K : Kt) : tl K (lX10_hasOuting) 9 = o_pushI (nI 0) 10 := rfl
theorem aX10_hasOuting_10 (K : Kt) : tl K (lX10_hasOuting) 10 = o_aload 0 11 := rfl
theorem aX10_hasOuting_11 (K : Kt) : tl K (lX10_hasOuting) 11 = o_get 10 3 14 := rfl
theorem aX10_hasOuting_14 (K : Kt) : tl K (lX10_hasOuting) 14 = o_get 5 0 17 := rfl
theorem aX10_hasOuting_17 (K : Kt) : tl K (lX10_hasOuting) 17 = o_iload 1 18 := rfl
theorem aX10_hasOuting_18 (K : Kt) : tl K (lX10_hasOuting) 18 = o_iald 19 := rfl
theorem aX10_hasOuting_19 (K : Kt) : tl K (lX10_hasOuting) 19 = o_pushI (nI 1) 20 := rfl
theorem aX10_hasOuting_20 (K : Kt) : tl K (lX10_hasOuting) 20 = o_isub 21 := rfl
theorem aX10_hasOuting_21 (K : Kt) : tl K (lX10_hasOuting) 21 = o_callS fX10_within 3 24 := rfl
theorem aX10_hasOuting_24 (K : Kt) : tl K (lX10_hasOuting) 24 = o_if_eq 31 27 := rfl
theorem aX10_hasOuting_27 (K : Kt) : tl K (lX10_hasOuting) 27 = o_pushI (nI 1) 28 := rfl
theorem aX10_hasOuting_28 (K : Kt) : tl K (lX10_hasOuting) 28 = o_goto 32 := rfl
theorem aX10_hasOuting_31 (K : Kt) : tl K (lX10_hasOuting) 31 = o_pushI (nI 0) 32 := rfl
theorem aX10_hasOuting_32 (K : Kt) : tl K (lX10_hasOuting) 32 = o_zret K := rfl
theorem eX10_tellOuting {As L : List Value} {w : Wd} {K : Kt} (hw : wds As ≤ 4) (hL : ent 4 As = L) (h : RR (tl K lX10_tellOuting) 0 L [] w) : fX10_tellOuting As w K := ⟨hw, by rw [hL]; exact h⟩
theorem nX10_tellOuting : MonoF fX10_tellOuting := mono_f 4 lX10_tellOuting
theorem aX10_tellOuting_0 (K : Kt) : tl K (lX10_tellOuting) 0 = o_iload 3 1 := rfl
theorem aX10_tellOuting_1 (K : Kt) : tl K (lX10_tellOuting) 1 = o_table 0 3 72 [32, 42, 52, 62] := rfl
theorem aX10_tellOuting_32 (K : Kt) : tl K (lX10_tellOuting) 32 = o_aload 0 33 := rfl
theorem aX10_tellOuting_33 (K : Kt) : tl K (lX10_tellOuting) 33 = o_get 10 3 36 := rfl
theorem aX10_tellOuting_36 (K : Kt) : tl K (lX10_tellOuting) 36 = o_iload 1 37 := rfl
theorem aX10_tellOuting_37 (K : Kt) : tl K (lX10_tellOuting) 37 = o_iload 2 38 := rfl
theorem aX10_tellOuting_38 (K : Kt) : tl K (lX10_tellOuting) 38 = o_callV fX5_armAt 2 5 41 := rfl
theorem aX10_tellOuting_41 (K : Kt) : tl K (lX10_tellOuting) 41 = o_iret K := rfl
theorem aX10_tellOuting_42 (K : Kt) : tl K (lX10_tellOuting) 42 = o_aload 0 43 := rfl
theorem aX10_tellOuting_43 (K : Kt) : tl K (lX10_tellOuting) 43 = o_get 10 3 46 := rfl
theorem aX10_tellOuting_46 (K : Kt) : tl K (lX10_tellOuting) 46 = o_iload 1 47 := rfl
theorem aX10_tellOuting_47 (K : Kt) : tl K (lX10_tellOuting) 47 = o_iload 2 48 := rfl
theorem aX10_tellOuting_48 (K : Kt) : tl K (lX10_tellOuting) 48 = o_callV fX5_throwsAt 2 5 51 := rfl
theorem aX10_tellOuting_51 (K : Kt) : tl K (lX10_tellOuting) 51 = o_iret K := rfl
theorem aX10_tellOuting_52 (K : Kt) : tl K (lX10_tellOuting) 52 = o_aload 0 53 := rfl
theorem aX10_tellOuting_53 (K : Kt) : tl K (lX10_tellOuting) 53 = o_get 10 4 56 := rfl
theorem aX10_tellOuting_56 (K : Kt) : tl K (lX10_tellOuting) 56 = o_iload 1 57 := rfl
theorem aX10_tellOuting_57 (K : Kt) : tl K (lX10_tellOuting) 57 = o_iload 2 58 := rfl
theorem aX10_tellOuting_58 (K : Kt) : tl K (lX10_tellOuting) 58 = o_callV fX1_valueAt 2 1 61 := rfl
theorem aX10_tellOuting_61 (K : Kt) : tl K (lX10_tellOuting) 61 = o_iret K := rfl
theorem aX10_tellOuting_62 (K : Kt) : tl K (lX10_tellOuting) 62 = o_aload 0 63 := rfl
theorem aX10_tellOuting_63 (K : Kt) : tl K (lX10_tellOuting) 63 = o_get 10 4 66 := rfl
theorem aX10_tellOuting_66 (K : Kt) : tl K (lX10_tellOuting) 66 = o_iload 1 67 := rfl
theorem aX10_tellOuting_67 (K : Kt) : tl K (lX10_tellOuting) 67 = o_iload 2 68 := rfl
theorem aX10_tellOuting_68 (K : Kt) : tl K (lX10_tellOuting) 68 = o_callV fX1_riskAt 2 1 71 := rfl
theorem aX10_tellOuting_71 (K : Kt) : tl K (lX10_tellOuting) 71 = o_iret K := rfl
theorem aX10_tellOuting_72 (K : Kt) : tl K (lX10_tellOuting) 72 = o_aload 0 73 := rfl
theorem aX10_tellOuting_73 (K : Kt) : tl K (lX10_tellOuting) 73 = o_get 10 5 76 := rfl
theorem aX10_tellOuting_76 (K : Kt) : tl K (lX10_tellOuting) 76 = o_iload 1 77 := rfl
theorem aX10_tellOuting_77 (K : Kt) : tl K (lX10_tellOuting) 77 = o_iload 2 78 := rfl
theorem aX10_tellOuting_78 (K : Kt) : tl K (lX10_tellOuting) 78 = o_callV fX3_allowsAt 2 3 81 := rfl
theorem aX10_tellOuting_81 (K : Kt) : tl K (lX10_tellOuting) 81 = o_if_eq 88 84 := rfl
theorem aX10_tellOuting_84 (K : Kt) : tl K (lX10_tellOuting) 84 = o_pushI (nI 1) 85 := rfl
theorem aX10_tellOuting_85 (K : Kt) : tl K (lX10_tellOuting) 85 = o_goto 89 := rfl
theorem aX10_tellOuting_88 (K : Kt) : tl K (lX10_tellOuting) 88 = o_pushI (nI 0) 89 := rfl
theorem aX10_tellOuting_89 (K : Kt) : tl K (lX10_tellOuting) 89 = o_iret K := rfl
theorem eX10_outing {As L : List Value} {w : Wd} {K : Kt} (hw : wds As ≤ 4) (hL : ent 4 As = L) (h : RR (tl K lX10_outing) 0 L [] w) : fX10_outing As w K := ⟨hw, by rw [hL]; exact h⟩
theorem nX10_outing : MonoF fX10_outing := mono_f 4 lX10_outing
theorem aX10_outing_0 (K : Kt) : tl K (lX10_outing) 0 = o_aload 0 1 := rfl
theorem aX10_outing_1 (K : Kt) : tl K (lX10_outing) 1 = o_iload 1 2 := rfl
theorem aX10_outing_2 (K : Kt) : tl K (lX10_outing) 2 = o_iload 2 3 := rfl
theorem aX10_outing_3 (K : Kt) : tl K (lX10_outing) 3 = o_callV fX10_hasOuting 2 10 6 := rfl
theorem aX10_outing_6 (K : Kt) : tl K (lX10_outing) 6 = o_if_eq 18 9 := rfl
theorem aX10_outing_9 (K : Kt) : tl K (lX10_outing) 9 = o_iload 3 10 := rfl
theorem aX10_outing_10 (K : Kt) : tl K (lX10_outing) 10 = o_pushI (nI 0) 11 := rfl
theorem aX10_outing_11 (K : Kt) : tl K (lX10_outing) 11 = o_pushI (nI 4) 12 := rfl
theorem aX10_outing_12 (K : Kt) : tl K (lX10_outing) 12 = o_callS fX10_within 3 15 := rfl
theorem aX10_outing_15 (K : Kt) : tl K (lX10_outing) 15 = o_if_ne 24 18 := rfl
theorem aX10_outing_18 (K : Kt) : tl K (lX10_outing) 18 = o_aload 0 19 := rfl
theorem aX10_outing_19 (K : Kt) : tl K (lX10_outing) 19 = o_pushI (nI 1) 20 := rfl
theorem aX10_outing_20 (K : Kt) : tl K (lX10_outing) 20 = o_callV fX10_refuse 1 10 23 := rfl
theorem aX10_outing_23 (K : Kt) : tl K (lX10_outing) 23 = o_iret K := rfl
theorem aX10_outing_24 (K : Kt) : tl K (lX10_outing) 24 = o_aload 0 25 := rfl
theorem aX10_outing_25 (K : Kt) : tl K (lX10_outing) 25 = o_aload 0 26 := rfl
theorem aX10_outing_26 (K : Kt) : tl K (lX10_outing) 26 = o_iload 1 27 := rfl
theorem aX10_outing_27 (K : Kt) : tl K (lX10_outing) 27 = o_iload 2 28 := rfl
theorem aX10_outing_28 (K : Kt) : tl K (lX10_outing) 28 = o_iload 3 29 := rfl
theorem aX10_outing_29 (K : Kt) : tl K (lX10_outing) 29 = o_callV fX10_tellOuting 3 10 32 := rfl
theorem aX10_outing_32 (K : Kt) : tl K (lX10_outing) 32 = o_callV fX10_answer 1 10 35 := rfl
theorem aX10_outing_35 (K : Kt) : tl K (lX10_outing) 35 = o_iret K := rfl
theorem eX10_value {As L : List Value} {w : Wd} {K : Kt} (hw : wds As ≤ 3) (hL : ent 3 As = L) (h : RR (tl K lX10_value) 0 L [] w) : fX10_value As w K := ⟨hw, by rw [hL]; exact h⟩
theorem nX10_value : MonoF fX10_value := mono_f 3 lX10_value
theorem aX10_value_0 (K : Kt) : tl K (lX10_value) 0 = o_aload 0 1 := rfl
theorem aX10_value_1 (K : Kt) : tl K (lX10_value) 1 = o_callV fX10_hasText 0 10 4 := rfl
theorem aX10_value_4 (K : Kt) : tl K (lX10_value) 4 = o_if_ne 13 7 := rfl
theorem aX10_value_7 (K : Kt) : tl K (lX10_value) 7 = o_aload 0 8 := rfl
theorem aX10_value_8 (K : Kt) : tl K (lX10_value) 8 = o_pushI (nI 1) 9 := rfl
theorem aX10_value_9 (K : Kt) : tl K (lX10_value) 9 = o_callV fX10_refuse 1 10 12 := rfl
theorem aX10_value_12 (K : Kt) : tl K (lX10_value) 12 = o_iret K := rfl
theorem aX10_value_13 (K : Kt) : tl K (lX10_value) 13 = o_pushI (nI 0) 14 := rfl
theorem aX10_value_14 (K : Kt) : tl K (lX10_value) 14 = o_istore 1 15 := rfl
theorem aX10_value_15 (K : Kt) : tl K (lX10_value) 15 = o_pushI (nI 0) 16 := rfl
theorem aX10_value_16 (K : Kt) : tl K (lX10_value) 16 = o_istore 2 17 := rfl
theorem aX10_value_17 (K : Kt) : tl K (lX10_value) 17 = o_iload 2 18 := rfl
theorem aX10_value_18 (K : Kt) : tl K (lX10_value) 18 = o_aload 0 19 := rfl
theorem aX10_value_19 (K : Kt) : tl K (lX10_value) 19 = o_get 10 2 22 := rfl
theorem aX10_value_22 (K : Kt) : tl K (lX10_value) 22 = o_get 9 4 25 := rfl
theorem aX10_value_25 (K : Kt) : tl K (lX10_value) 25 = o_icmp_ge 45 28 := rfl
theorem aX10_value_28 (K : Kt) : tl K (lX10_value) 28 = o_iload 1 29 := rfl
theorem aX10_value_29 (K : Kt) : tl K (lX10_value) 29 = o_aload 0 30 := rfl
theorem aX10_value_30 (K : Kt) : tl K (lX10_value) 30 = o_get 10 4 33 := rfl
theorem aX10_value_33 (K : Kt) : tl K (lX10_value) 33 = o_iload 2 34 := rfl
theorem aX10_value_34 (K : Kt) : tl K (lX10_value) 34 = o_callV fX1_valueOfGame 1 1 37 := rfl
theorem aX10_value_37 (K : Kt) : tl K (lX10_value) 37 = o_iadd 38 := rfl
theorem aX10_value_38 (K : Kt) : tl K (lX10_value) 38 = o_istore 1 39 := rfl
theorem aX10_value_39 (K : Kt) : tl K (lX10_value) 39 = o_iinc 2 (nI 1) 42 := rfl
theorem aX10_value_42 (K : Kt) : tl K (lX10_value) 42 = o_goto 17 := rfl
theorem aX10_value_45 (K : Kt) : tl K (lX10_value) 45 = o_aload 0 46 := rfl
theorem aX10_value_46 (K : Kt) : tl K (lX10_value) 46 = o_iload 1 47 := rfl
theorem aX10_value_47 (K : Kt) : tl K (lX10_value) 47 = o_callV fX10_answer 1 10 50 := rfl
theorem aX10_value_50 (K : Kt) : tl K (lX10_value) 50 = o_iret K := rfl
theorem eX10_points {As L : List Value} {w : Wd} {K : Kt} (hw : wds As ≤ 3) (hL : ent 3 As = L) (h : RR (tl K lX10_points) 0 L [] w) : fX10_points As w K := ⟨hw, by rw [hL]; exact h⟩
theorem nX10_points : MonoF fX10_points := mono_f 3 lX10_points
theorem aX10_points_0 (K : Kt) : tl K (lX10_points) 0 = o_aload 0 1 := rfl
theorem aX10_points_1 (K : Kt) : tl K (lX10_points) 1 = o_iload 1 2 := rfl
theorem aX10_points_2 (K : Kt) : tl K (lX10_points) 2 = o_callV fX10_hasArm 1 10 5 := rfl
theorem aX10_points_5 (K : Kt) : tl K (lX10_points) 5 = o_if_eq 16 8 := rfl
theorem aX10_points_8 (K : Kt) : tl K (lX10_points) 8 = o_aload 0 9 := rfl
theorem aX10_points_9 (K : Kt) : tl K (lX10_points) 9 = o_iload 2 10 := rfl
theorem aX10_points_10 (K : Kt) : tl K (lX10_points) 10 = o_callV fX10_hasGame 1 10 13 := rfl
theorem aX10_points_13 (K : Kt) : tl K (lX10_points) 13 = o_if_ne 22 16 := rfl
theorem aX10_points_16 (K : Kt) : tl K (lX10_points) 16 = o_aload 0 17 := rfl
theorem aX10_points_17 (K : Kt) : tl K (lX10_points) 17 = o_pushI (nI 1) 18 := rfl
theorem aX10_points_18 (K : Kt) : tl K (lX10_points) 18 = o_callV fX10_refuse 1 10 21 := rfl
theorem aX10_points_21 (K : Kt) : tl K (lX10_points) 21 = o_iret K := rfl
theorem aX10_points_22 (K : Kt) : tl K (lX10_points) 22 = o_aload 0 23 := rfl
theorem aX10_points_23 (K : Kt) : tl K (lX10_points) 23 = o_aload 0 24 := rfl
theorem aX10_points_24 (K : Kt) : tl K (lX10_points) 24 = o_get 10 4 27 := rfl
theorem aX10_points_27 (K : Kt) : tl K (lX10_points) 27 = o_iload 1 28 := rfl
theorem aX10_points_28 (K : Kt) : tl K (lX10_points) 28 = o_iload 2 29 := rfl
theorem aX10_points_29 (K : Kt) : tl K (lX10_points) 29 = o_callV fX1_pointsOf 2 1 32 := rfl
theorem aX10_points_32 (K : Kt) : tl K (lX10_points) 32 = o_callV fX10_answer 1 10 35 := rfl
theorem aX10_points_35 (K : Kt) : tl K (lX10_points) 35 = o_iret K := rfl
theorem eX10_worth {As L : List Value} {w : Wd} {K : Kt} (hw : wds As ≤ 4) (hL : ent 4 As = L) (h : RR (tl K lX10_worth) 0 L [] w) : fX10_worth As w K := ⟨hw, by rw [hL]; exact h⟩
theorem nX10_worth : MonoF fX10_worth := mono_f 4 lX10_worth
theorem aX10_worth_0 (K : Kt) : tl K (lX10_worth) 0 = o_aload 0 1 := rfl
theorem aX10_worth_1 (K : Kt) : tl K (lX10_worth) 1 = o_iload 1 2 := rfl
theorem aX10_worth_2 (K : Kt) : tl K (lX10_worth) 2 = o_callV fX10_hasArm 1 10 5 := rfl
theorem aX10_worth_5 (K : Kt) : tl K (lX10_worth) 5 = o_if_eq 16 8 := rfl
theorem aX10_worth_8 (K : Kt) : tl K (lX10_worth) 8 = o_aload 0 9 := rfl
theorem aX10_worth_9 (K : Kt) : tl K (lX10_worth) 9 = o_iload 2 10 := rfl
theorem aX10_worth_10 (K : Kt) : tl K (lX10_worth) 10 = o_callV fX10_hasGame 1 10 13 := rfl
theorem aX10_worth_13 (K : Kt) : tl K (lX10_worth) 13 = o_if_ne 22 16 := rfl
theorem aX10_worth_16 (K : Kt) : tl K (lX10_worth) 16 = o_aload 0 17 := rfl
theorem aX10_worth_17 (K : Kt) : tl K (lX10_worth) 17 = o_pushI (nI 1) 18 := rfl
theorem aX10_worth_18 (K : Kt) : tl K (lX10_worth) 18 = o_callV fX10_refuse 1 10 21 := rfl
theorem aX10_worth_21 (K : Kt) : tl K (lX10_worth) 21 = o_iret K := rfl
theorem aX10_worth_22 (K : Kt) : tl K (lX10_worth) 22 = o_iload 3 23 := rfl
theorem aX10_worth_23 (K : Kt) : tl K (lX10_worth) 23 = o_pushI (nI 0) 24 := rfl
theorem aX10_worth_24 (K : Kt) : tl K (lX10_worth) 24 = o_pushI (nI 200) 27 := rfl
theorem aX10_worth_27 (K : Kt) : tl K (lX10_worth) 27 = o_callS fX10_within 3 30 := rfl
theorem aX10_worth_30 (K : Kt) : tl K (lX10_worth) 30 = o_if_ne 39 33 := rfl
theorem aX10_worth_33 (K : Kt) : tl K (lX10_worth) 33 = o_aload 0 34 := rfl
theorem aX10_worth_34 (K : Kt) : tl K (lX10_worth) 34 = o_pushI (nI 2) 35 := rfl
theorem aX10_worth_35 (K : Kt) : tl K (lX10_worth) 35 = o_callV fX10_refuse 1 10 38 := rfl
theorem aX10_worth_38 (K : Kt) : tl K (lX10_worth) 38 = o_iret K := rfl
theorem aX10_worth_39 (K : Kt) : tl K (lX10_worth) 39 = o_aload 0 40 := rfl
theorem aX10_worth_40 (K : Kt) : tl K (lX10_worth) 40 = o_aload 0 41 := rfl
theorem aX10_worth_41 (K : Kt) : tl K (lX10_worth) 41 = o_get 10 4 44 := rfl
theorem aX10_worth_44 (K : Kt) : tl K (lX10_worth) 44 = o_iload 1 45 := rfl
theorem aX10_worth_45 (K : Kt) : tl K (lX10_worth) 45 = o_iload 2 46 := rfl
theorem aX10_worth_46 (K : Kt) : tl K (lX10_worth) 46 = o_iload 3 47 := rfl
theorem aX10_worth_47 (K : Kt) : tl K (lX10_worth) 47 = o_callV fX1_valueOf 3 1 50 := rfl
theorem aX10_worth_50 (K : Kt) : tl K (lX10_worth) 50 = o_callV fX10_answer 1 10 53 := rfl
theorem aX10_worth_53 (K : Kt) : tl K (lX10_worth) 53 = o_iret K := rfl
theorem eX10_most {As L : List Value} {w : Wd} {K : Kt} (hw : wds As ≤ 3) (hL : ent 3 As = L) (h : RR (tl K lX10_most) 0 L [] w) : fX10_most As w K := ⟨hw, by rw [hL]; exact h⟩
theorem nX10_most : MonoF fX10_most := mono_f 3 lX10_most
theorem aX10_most_0 (K : Kt) : tl K (lX10_most) 0 = o_aload 0 1 := rfl
theorem aX10_most_1 (K : Kt) : tl K (lX10_most) 1 = o_iload 1 2 := rfl
theorem aX10_most_2 (K : Kt) : tl K (lX10_most) 2 = o_callV fX10_hasArm 1 10 5 := rfl
theorem aX10_most_5 (K : Kt) : tl K (lX10_most) 5 = o_if_eq 16 8 := rfl
theorem aX10_most_8 (K : Kt) : tl K (lX10_most) 8 = o_aload 0 9 := rfl
theorem aX10_most_9 (K : Kt) : tl K (lX10_most) 9 = o_iload 2 10 := rfl
theorem aX10_most_10 (K : Kt) : tl K (lX10_most) 10 = o_callV fX10_hasGame 1 10 13 := rfl
theorem aX10_most_13 (K : Kt) : tl K (lX10_most) 13 = o_if_ne 22 16 := rfl
theorem aX10_most_16 (K : Kt) : tl K (lX10_most) 16 = o_aload 0 17 := rfl
theorem aX10_most_17 (K : Kt) : tl K (lX10_most) 17 = o_pushI (nI 1) 18 := rfl
theorem aX10_most_18 (K : Kt) : tl K (lX10_most) 18 = o_callV fX10_refuse 1 10 21 := rfl
theorem aX10_most_21 (K : Kt) : tl K (lX10_most) 21 = o_iret K := rfl
theorem aX10_most_22 (K : Kt) : tl K (lX10_most) 22 = o_aload 0 23 := rfl
theorem aX10_most_23 (K : Kt) : tl K (lX10_most) 23 = o_aload 0 24 := rfl
theorem aX10_most_24 (K : Kt) : tl K (lX10_most) 24 = o_get 10 5 27 := rfl
theorem aX10_most_27 (K : Kt) : tl K (lX10_most) 27 = o_iload 1 28 := rfl
theorem aX10_most_28 (K : Kt) : tl K (lX10_most) 28 = o_iload 2 29 := rfl
theorem aX10_most_29 (K : Kt) : tl K (lX10_most) 29 = o_pushI (nI 0) 30 := rfl
theorem aX10_most_30 (K : Kt) : tl K (lX10_most) 30 = o_callV fX3_mostOf 3 3 33 := rfl
theorem aX10_most_33 (K : Kt) : tl K (lX10_most) 33 = o_callV fX10_answer 1 10 36 := rfl
theorem aX10_most_36 (K : Kt) : tl K (lX10_most) 36 = o_iret K := rfl
theorem eX10_when {As L : List Value} {w : Wd} {K : Kt} (hw : wds As ≤ 5) (hL : ent 5 As = L) (h : RR (tl K lX10_when) 0 L [] w) : fX10_when As w K := ⟨hw, by rw [hL]; exact h⟩
theorem nX10_when : MonoF fX10_when := mono_f 5 lX10_when
theorem aX10_when_0 (K : Kt) : tl K (lX10_when) 0 = o_aload 0 1 := rfl
theorem aX10_when_1 (K : Kt) : tl K (lX10_when) 1 = o_iload 1 2 := rfl
theorem aX10_when_2 (K : Kt) : tl K (lX10_when) 2 = o_callV fX10_hasArm 1 10 5 := rfl
theorem aX10_when_5 (K : Kt) : tl K (lX10_when) 5 = o_if_eq 16 8 := rfl
theorem aX10_when_8 (K : Kt) : tl K (lX10_when) 8 = o_aload 0 9 := rfl
theorem aX10_when_9 (K : Kt) : tl K (lX10_when) 9 = o_iload 2 10 := rfl
theorem aX10_when_10 (K : Kt) : tl K (lX10_when) 10 = o_callV fX10_hasGame 1 10 13 := rfl
theorem aX10_when_13 (K : Kt) : tl K (lX10_when) 13 = o_if_ne 22 16 := rfl
theorem aX10_when_16 (K : Kt) : tl K (lX10_when) 16 = o_aload 0 17 := rfl
theorem aX10_when_17 (K : Kt) : tl K (lX10_when) 17 = o_pushI (nI 1) 18 := rfl
theorem aX10_when_18 (K : Kt) : tl K (lX10_when) 18 = o_callV fX10_refuse 1 10 21 := rfl
theorem aX10_when_21 (K : Kt) : tl K (lX10_when) 21 = o_iret K := rfl
theorem aX10_when_22 (K : Kt) : tl K (lX10_when) 22 = o_iload 3 23 := rfl
theorem aX10_when_23 (K : Kt) : tl K (lX10_when) 23 = o_pushI (nI 1) 24 := rfl
theorem aX10_when_24 (K : Kt) : tl K (lX10_when) 24 = o_pushI (nI 120) 26 := rfl
theorem aX10_when_26 (K : Kt) : tl K (lX10_when) 26 = o_callS fX10_within 3 29 := rfl
theorem aX10_when_29 (K : Kt) : tl K (lX10_when) 29 = o_if_ne 38 32 := rfl
theorem aX10_when_32 (K : Kt) : tl K (lX10_when) 32 = o_aload 0 33 := rfl
theorem aX10_when_33 (K : Kt) : tl K (lX10_when) 33 = o_pushI (nI 2) 34 := rfl
theorem aX10_when_34 (K : Kt) : tl K (lX10_when) 34 = o_callV fX10_refuse 1 10 37 := rfl
theorem aX10_when_37 (K : Kt) : tl K (lX10_when) 37 = o_iret K := rfl
theorem aX10_when_38 (K : Kt) : tl K (lX10_when) 38 = o_iload 2 39 := rfl
theorem aX10_when_39 (K : Kt) : tl K (lX10_when) 39 = o_istore 4 41 := rfl
theorem aX10_when_41 (K : Kt) : tl K (lX10_when) 41 = o_iload 4 43 := rfl
theorem aX10_when_43 (K : Kt) : tl K (lX10_when) 43 = o_aload 0 44 := rfl
theorem aX10_when_44 (K : Kt) : tl K (lX10_when) 44 = o_get 10 2 47 := rfl
theorem aX10_when_47 (K : Kt) : tl K (lX10_when) 47 = o_get 9 4 50 := rfl
theorem aX10_when_50 (K : Kt) : tl K (lX10_when) 50 = o_icmp_ge 81 53 := rfl
theorem aX10_when_53 (K : Kt) : tl K (lX10_when) 53 = o_aload 0 54 := rfl
theorem aX10_when_54 (K : Kt) : tl K (lX10_when) 54 = o_get 10 5 57 := rfl
theorem aX10_when_57 (K : Kt) : tl K (lX10_when) 57 = o_iload 1 58 := rfl
theorem aX10_when_58 (K : Kt) : tl K (lX10_when) 58 = o_iload 4 60 := rfl
theorem aX10_when_60 (K : Kt) : tl K (lX10_when) 60 = o_pushI (nI 0) 61 := rfl
theorem aX10_when_61 (K : Kt) : tl K (lX10_when) 61 = o_callV fX3_mostOf 3 3 64 := rfl
theorem aX10_when_64 (K : Kt) : tl K (lX10_when) 64 = o_iload 3 65 := rfl
theorem aX10_when_65 (K : Kt) : tl K (lX10_when) 65 = o_icmp_lt 75 68 := rfl
theorem aX10_when_68 (K : Kt) : tl K (lX10_when) 68 = o_aload 0 69 := rfl
theorem aX10_when_69 (K : Kt) : tl K (lX10_when) 69 = o_iload 4 71 := rfl
theorem aX10_when_71 (K : Kt) : tl K (lX10_when) 71 = o_callV fX10_answer 1 10 74 := rfl
theorem aX10_when_74 (K : Kt) : tl K (lX10_when) 74 = o_iret K := rfl
theorem aX10_when_75 (K : Kt) : tl K (lX10_when) 75 = o_iinc 4 (nI 1) 78 := rfl
theorem aX10_when_78 (K : Kt) : tl K (lX10_when) 78 = o_goto 41 := rfl
theorem aX10_when_81 (K : Kt) : tl K (lX10_when) 81 = o_aload 0 82 := rfl
theorem aX10_when_82 (K : Kt) : tl K (lX10_when) 82 = o_pushI ((-2)) 84 := rfl
theorem aX10_when_84 (K : Kt) : tl K (lX10_when) 84 = o_callV fX10_answer 1 10 87 := rfl
theorem aX10_when_87 (K : Kt) : tl K (lX10_when) 87 = o_iret K := rfl
theorem eX10_countAhead {As L : List Value} {w : Wd} {K : Kt} (hw : wds As ≤ 7) (hL : ent 7 As = L) (h : RR (tl K lX10_countAhead) 0 L [] w) : fX10_countAhead As w K := ⟨hw, by rw [hL]; exact h⟩
theorem nX10_countAhead : MonoF fX10_countAhead := mono_f 7 lX10_countAhead
theorem aX10_countAhead_0 (K : Kt) : tl K (lX10_countAhead) 0 = o_aload 0 1 := rfl
theorem aX10_countAhead_1 (K : Kt) : tl K (lX10_countAhead) 1 = o_get 10 4 4 := rfl
theorem aX10_countAhead_4 (K : Kt) : tl K (lX10_countAhead) 4 = o_iload 1 5 := rfl
theorem aX10_countAhead_5 (K : Kt) : tl K (lX10_countAhead) 5 = o_iload 2 6 := rfl
theorem aX10_countAhead_6 (K : Kt) : tl K (lX10_countAhead) 6 = o_aload 0 7 := rfl
theorem aX10_countAhead_7 (K : Kt) : tl K (lX10_countAhead) 7 = o_get 10 4 10 := rfl
theorem aX10_countAhead_10 (K : Kt) : tl K (lX10_countAhead) 10 = o_iload 1 11 := rfl
theorem aX10_countAhead_11 (K : Kt) : tl K (lX10_countAhead) 11 = o_iload 2 12 := rfl
theorem aX10_countAhead_12 (K : Kt) : tl K (lX10_countAhead) 12 = o_callV fX1_fullThrows 2 1 15 := rfl
theorem aX10_countAhead_15 (K : Kt) : tl K (lX10_countAhead) 15 = o_callV fX1_valueOf 3 1 18 := rfl
theorem aX10_countAhead_18 (K : Kt) : tl K (lX10_countAhead) 18 = o_istore 3 19 := rfl
theorem aX10_countAhead_19 (K : Kt) : tl K (lX10_countAhead) 19 = o_pushI (nI 0) 20 := rfl
theorem aX10_countAhead_20 (K : Kt) : tl K (lX10_countAhead) 20 = o_istore 4 22 := rfl
theorem aX10_countAhead_22 (K : Kt) : tl K (lX10_countAhead) 22 = o_pushI (nI 0) 23 := rfl
theorem aX10_countAhead_23 (K : Kt) : tl K (lX10_countAhead) 23 = o_istore 5 25 := rfl
theorem aX10_countAhead_25 (K : Kt) : tl K (lX10_countAhead) 25 = o_iload 5 27 := rfl
theorem aX10_countAhead_27 (K : Kt) : tl K (lX10_countAhead) 27 = o_aload 0 28 := rfl
theorem aX10_countAhead_28 (K : Kt) : tl K (lX10_countAhead) 28 = o_get 10 2 31 := rfl
theorem aX10_countAhead_31 (K : Kt) : tl K (lX10_countAhead) 31 = o_get 9 0 34 := rfl
theorem aX10_countAhead_34 (K : Kt) : tl K (lX10_countAhead) 34 = o_icmp_ge 86 37 := rfl
theorem aX10_countAhead_37 (K : Kt) : tl K (lX10_countAhead) 37 = o_aload 0 38 := rfl
theorem aX10_countAhead_38 (K : Kt) : tl K (lX10_countAhead) 38 = o_get 10 4 41 := rfl
theorem aX10_countAhead_41 (K : Kt) : tl K (lX10_countAhead) 41 = o_iload 5 43 := rfl
theorem aX10_countAhead_43 (K : Kt) : tl K (lX10_countAhead) 43 = o_iload 2 44 := rfl
theorem aX10_countAhead_44 (K : Kt) : tl K (lX10_countAhead) 44 = o_aload 0 45 := rfl
theorem aX10_countAhead_45 (K : Kt) : tl K (lX10_countAhead) 45 = o_get 10 4 48 := rfl
theorem aX10_countAhead_48 (K : Kt) : tl K (lX10_countAhead) 48 = o_iload 5 50 := rfl
theorem aX10_countAhead_50 (K : Kt) : tl K (lX10_countAhead) 50 = o_iload 2 51 := rfl
theorem aX10_countAhead_51 (K : Kt) : tl K (lX10_countAhead) 51 = o_callV fX1_fullThrows 2 1 54 := rfl
theorem aX10_countAhead_54 (K : Kt) : tl K (lX10_countAhead) 54 = o_callV fX1_valueOf 3 1 57 := rfl
theorem aX10_countAhead_57 (K : Kt) : tl K (lX10_countAhead) 57 = o_istore 6 59 := rfl
theorem aX10_countAhead_59 (K : Kt) : tl K (lX10_countAhead) 59 = o_iload 6 61 := rfl
theorem aX10_countAhead_61 (K : Kt) : tl K (lX10_countAhead) 61 = o_iload 3 62 := rfl
theorem aX10_countAhead_62 (K : Kt) : tl K (lX10_countAhead) 62 = o_icmp_gt 77 65 := rfl
theorem aX10_countAhead_65 (K : Kt) : tl K (lX10_countAhead) 65 = o_iload 6 67 := rfl
theorem aX10_countAhead_67 (K : Kt) : tl K (lX10_countAhead) 67 = o_iload 3 68 := rfl
theorem aX10_countAhead_68 (K : Kt) : tl K (lX10_countAhead) 68 = o_icmp_ne 80 71 := rfl
theorem aX10_countAhead_71 (K : Kt) : tl K (lX10_countAhead) 71 = o_iload 5 73 := rfl
theorem aX10_countAhead_73 (K : Kt) : tl K (lX10_countAhead) 73 = o_iload 1 74 := rfl
theorem aX10_countAhead_74 (K : Kt) : tl K (lX10_countAhead) 74 = o_icmp_ge 80 77 := rfl
theorem aX10_countAhead_77 (K : Kt) : tl K (lX10_countAhead) 77 = o_iinc 4 (nI 1) 80 := rfl
theorem aX10_countAhead_80 (K : Kt) : tl K (lX10_countAhead) 80 = o_iinc 5 (nI 1) 83 := rfl
theorem aX10_countAhead_83 (K : Kt) : tl K (lX10_countAhead) 83 = o_goto 25 := rfl
theorem aX10_countAhead_86 (K : Kt) : tl K (lX10_countAhead) 86 = o_iload 4 88 := rfl
theorem aX10_countAhead_88 (K : Kt) : tl K (lX10_countAhead) 88 = o_iret K := rfl
theorem eX10_ranked {As L : List Value} {w : Wd} {K : Kt} (hw : wds As ≤ 4) (hL : ent 4 As = L) (h : RR (tl K lX10_ranked) 0 L [] w) : fX10_ranked As w K := ⟨hw, by rw [hL]; exact h⟩
theorem nX10_ranked : MonoF fX10_ranked := mono_f 4 lX10_ranked
theorem aX10_ranked_0 (K : Kt) : tl K (lX10_ranked) 0 = o_aload 0 1 := rfl
theorem aX10_ranked_1 (K : Kt) : tl K (lX10_ranked) 1 = o_iload 1 2 := rfl
theorem aX10_ranked_2 (K : Kt) : tl K (lX10_ranked) 2 = o_callV fX10_hasGame 1 10 5 := rfl
theorem aX10_ranked_5 (K : Kt) : tl K (lX10_ranked) 5 = o_if_eq 25 8 := rfl
theorem aX10_ranked_8 (K : Kt) : tl K (lX10_ranked) 8 = o_iload 2 9 := rfl
theorem aX10_ranked_9 (K : Kt) : tl K (lX10_ranked) 9 = o_pushI (nI 0) 10 := rfl
theorem aX10_ranked_10 (K : Kt) : tl K (lX10_ranked) 10 = o_aload 0 11 := rfl
theorem aX10_ranked_11 (K : Kt) : tl K (lX10_ranked) 11 = o_get 10 2 14 := rfl
theorem aX10_ranked_14 (K : Kt) : tl K (lX10_ranked) 14 = o_get 9 0 17 := rfl
theorem aX10_ranked_17 (K : Kt) : tl K (lX10_ranked) 17 = o_pushI (nI 1) 18 := rfl
theorem aX10_ranked_18 (K : Kt) : tl K (lX10_ranked) 18 = o_isub 19 := rfl
theorem aX10_ranked_19 (K : Kt) : tl K (lX10_ranked) 19 = o_callS fX10_within 3 22 := rfl
theorem aX10_ranked_22 (K : Kt) : tl K (lX10_ranked) 22 = o_if_ne 31 25 := rfl
theorem aX10_ranked_25 (K : Kt) : tl K (lX10_ranked) 25 = o_aload 0 26 := rfl
theorem aX10_ranked_26 (K : Kt) : tl K (lX10_ranked) 26 = o_pushI (nI 1) 27 := rfl
theorem aX10_ranked_27 (K : Kt) : tl K (lX10_ranked) 27 = o_callV fX10_refuse 1 10 30 := rfl
theorem aX10_ranked_30 (K : Kt) : tl K (lX10_ranked) 30 = o_iret K := rfl
theorem aX10_ranked_31 (K : Kt) : tl K (lX10_ranked) 31 = o_pushI (nI 0) 32 := rfl
theorem aX10_ranked_32 (K : Kt) : tl K (lX10_ranked) 32 = o_istore 3 33 := rfl
theorem aX10_ranked_33 (K : Kt) : tl K (lX10_ranked) 33 = o_iload 3 34 := rfl
theorem aX10_ranked_34 (K : Kt) : tl K (lX10_ranked) 34 = o_aload 0 35 := rfl
theorem aX10_ranked_35 (K : Kt) : tl K (lX10_ranked) 35 = o_get 10 2 38 := rfl
theorem aX10_ranked_38 (K : Kt) : tl K (lX10_ranked) 38 = o_get 9 0 41 := rfl
theorem aX10_ranked_41 (K : Kt) : tl K (lX10_ranked) 41 = o_icmp_ge 66 44 := rfl
theorem aX10_ranked_44 (K : Kt) : tl K (lX10_ranked) 44 = o_aload 0 45 := rfl
theorem aX10_ranked_45 (K : Kt) : tl K (lX10_ranked) 45 = o_iload 3 46 := rfl
theorem aX10_ranked_46 (K : Kt) : tl K (lX10_ranked) 46 = o_iload 1 47 := rfl
theorem aX10_ranked_47 (K : Kt) : tl K (lX10_ranked) 47 = o_callV fX10_countAhead 2 10 50 := rfl
theorem aX10_ranked_50 (K : Kt) : tl K (lX10_ranked) 50 = o_iload 2 51 := rfl
theorem aX10_ranked_51 (K : Kt) : tl K (lX10_ranked) 51 = o_icmp_ne 60 54 := rfl
theorem aX10_ranked_54 (K : Kt) : tl K (lX10_ranked) 54 = o_aload 0 55 := rfl
theorem aX10_ranked_55 (K : Kt) : tl K (lX10_ranked) 55 = o_iload 3 56 := rfl
theorem aX10_ranked_56 (K : Kt) : tl K (lX10_ranked) 56 = o_callV fX10_answer 1 10 59 := rfl
theorem aX10_ranked_59 (K : Kt) : tl K (lX10_ranked) 59 = o_iret K := rfl
theorem aX10_ranked_60 (K : Kt) : tl K (lX10_ranked) 60 = o_iinc 3 (nI 1) 63 := rfl
theorem aX10_ranked_63 (K : Kt) : tl K (lX10_ranked) 63 = o_goto 33 := rfl
theorem aX10_ranked_66 (K : Kt) : tl K (lX10_ranked) 66 = o_aload 0 67 := rfl
theorem aX10_ranked_67 (K : Kt) : tl K (lX10_ranked) 67 = o_pushI ((-2)) 69 := rfl
theorem aX10_ranked_69 (K : Kt) : tl K (lX10_ranked) 69 = o_callV fX10_answer 1 10 72 := rfl
theorem aX10_ranked_72 (K : Kt) : tl K (lX10_ranked) 72 = o_iret K := rfl
theorem eX10_extra {As L : List Value} {w : Wd} {K : Kt} (hw : wds As ≤ 4) (hL : ent 4 As = L) (h : RR (tl K lX10_extra) 0 L [] w) : fX10_extra As w K := ⟨hw, by rw [hL]; exact h⟩
theorem nX10_extra : MonoF fX10_extra := mono_f 4 lX10_extra
theorem aX10_extra_0 (K : Kt) : tl K (lX10_extra) 0 = o_aload 0 1 := rfl
theorem aX10_extra_1 (K : Kt) : tl K (lX10_extra) 1 = o_iload 1 2 := rfl
theorem aX10_extra_2 (K : Kt) : tl K (lX10_extra) 2 = o_callV fX10_hasGame 1 10 5 := rfl
theorem aX10_extra_5 (K : Kt) : tl K (lX10_extra) 5 = o_if_ne 14 8 := rfl
theorem aX10_extra_8 (K : Kt) : tl K (lX10_extra) 8 = o_aload 0 9 := rfl
theorem aX10_extra_9 (K : Kt) : tl K (lX10_extra) 9 = o_pushI (nI 1) 10 := rfl
theorem aX10_extra_10 (K : Kt) : tl K (lX10_extra) 10 = o_callV fX10_refuse 1 10 13 := rfl
theorem aX10_extra_13 (K : Kt) : tl K (lX10_extra) 13 = o_iret K := rfl
theorem aX10_extra_14 (K : Kt) : tl K (lX10_extra) 14 = o_pushI (nI 0) 15 := rfl
theorem aX10_extra_15 (K : Kt) : tl K (lX10_extra) 15 = o_istore 2 16 := rfl
theorem aX10_extra_16 (K : Kt) : tl K (lX10_extra) 16 = o_pushI (nI 0) 17 := rfl
theorem aX10_extra_17 (K : Kt) : tl K (lX10_extra) 17 = o_istore 3 18 := rfl
theorem aX10_extra_18 (K : Kt) : tl K (lX10_extra) 18 = o_iload 3 19 := rfl
theorem aX10_extra_19 (K : Kt) : tl K (lX10_extra) 19 = o_aload 0 20 := rfl
theorem aX10_extra_20 (K : Kt) : tl K (lX10_extra) 20 = o_get 10 2 23 := rfl
theorem aX10_extra_23 (K : Kt) : tl K (lX10_extra) 23 = o_get 9 0 26 := rfl
theorem aX10_extra_26 (K : Kt) : tl K (lX10_extra) 26 = o_icmp_ge 50 29 := rfl
theorem aX10_extra_29 (K : Kt) : tl K (lX10_extra) 29 = o_iload 2 30 := rfl
theorem aX10_extra_30 (K : Kt) : tl K (lX10_extra) 30 = o_aload 0 31 := rfl
theorem aX10_extra_31 (K : Kt) : tl K (lX10_extra) 31 = o_get 10 5 34 := rfl
theorem aX10_extra_34 (K : Kt) : tl K (lX10_extra) 34 = o_iload 3 35 := rfl
theorem aX10_extra_35 (K : Kt) : tl K (lX10_extra) 35 = o_iload 1 36 := rfl
theorem aX10_extra_36 (K : Kt) : tl K (lX10_extra) 36 = o_pushI (nI 200) 39 := rfl
theorem aX10_extra_39 (K : Kt) : tl K (lX10_extra) 39 = o_callV fX3_mostOf 3 3 42 := rfl
theorem aX10_extra_42 (K : Kt) : tl K (lX10_extra) 42 = o_iadd 43 := rfl
theorem aX10_extra_43 (K : Kt) : tl K (lX10_extra) 43 = o_istore 2 44 := rfl
theorem aX10_extra_44 (K : Kt) : tl K (lX10_extra) 44 = o_iinc 3 (nI 1) 47 := rfl
theorem aX10_extra_47 (K : Kt) : tl K (lX10_extra) 47 = o_goto 18 := rfl
theorem aX10_extra_50 (K : Kt) : tl K (lX10_extra) 50 = o_aload 0 51 := rfl
theorem aX10_extra_51 (K : Kt) : tl K (lX10_extra) 51 = o_iload 2 52 := rfl
theorem aX10_extra_52 (K : Kt) : tl K (lX10_extra) 52 = o_callV fX10_answer 1 10 55 := rfl
theorem aX10_extra_55 (K : Kt) : tl K (lX10_extra) 55 = o_iret K := rfl
theorem eX10_clash {As L : List Value} {w : Wd} {K : Kt} (hw : wds As ≤ 4) (hL : ent 4 As = L) (h : RR (tl K lX10_clash) 0 L [] w) : fX10_clash As w K := ⟨hw, by rw [hL]; exact h⟩
theorem nX10_clash : MonoF fX10_clash := mono_f 4 lX10_clash
theorem aX10_clash_0 (K : Kt) : tl K (lX10_clash) 0 = o_aload 0 1 := rfl
theorem aX10_clash_1 (K : Kt) : tl K (lX10_clash) 1 = o_iload 1 2 := rfl
theorem aX10_clash_2 (K : Kt) : tl K (lX10_clash) 2 = o_callV fX10_hasArm 1 10 5 := rfl
theorem aX10_clash_5 (K : Kt) : tl K (lX10_clash) 5 = o_if_eq 16 8 := rfl
theorem aX10_clash_8 (K : Kt) : tl K (lX10_clash) 8 = o_aload 0 9 := rfl
theorem aX10_clash_9 (K : Kt) : tl K (lX10_clash) 9 = o_iload 2 10 := rfl
theorem aX10_clash_10 (K : Kt) : tl K (lX10_clash) 10 = o_callV fX10_hasGame 1 10 13 := rfl
theorem aX10_clash_13 (K : Kt) : tl K (lX10_clash) 13 = o_if_ne 22 16 := rfl
theorem aX10_clash_16 (K : Kt) : tl K (lX10_clash) 16 = o_aload 0 17 := rfl
theorem aX10_clash_17 (K : Kt) : tl K (lX10_clash) 17 = o_pushI (nI 1) 18 := rfl
theorem aX10_clash_18 (K : Kt) : tl K (lX10_clash) 18 = o_callV fX10_refuse 1 10 21 := rfl
theorem aX10_clash_21 (K : Kt) : tl K (lX10_clash) 21 = o_iret K := rfl
theorem aX10_clash_22 (K : Kt) : tl K (lX10_clash) 22 = o_iload 3 23 := rfl
theorem aX10_clash_23 (K : Kt) : tl K (lX10_clash) 23 = o_pushI (nI 1) 24 := rfl
theorem aX10_clash_24 (K : Kt) : tl K (lX10_clash) 24 = o_pushI (nI 120) 26 := rfl
theorem aX10_clash_26 (K : Kt) : tl K (lX10_clash) 26 = o_callS fX10_within 3 29 := rfl
theorem aX10_clash_29 (K : Kt) : tl K (lX10_clash) 29 = o_if_ne 38 32 := rfl
theorem aX10_clash_32 (K : Kt) : tl K (lX10_clash) 32 = o_aload 0 33 := rfl
theorem aX10_clash_33 (K : Kt) : tl K (lX10_clash) 33 = o_pushI (nI 2) 34 := rfl
theorem aX10_clash_34 (K : Kt) : tl K (lX10_clash) 34 = o_callV fX10_refuse 1 10 37 := rfl
theorem aX10_clash_37 (K : Kt) : tl K (lX10_clash) 37 = o_iret K := rfl
theorem aX10_clash_38 (K : Kt) : tl K (lX10_clash) 38 = o_aload 0 39 := rfl
theorem aX10_clash_39 (K : Kt) : tl K (lX10_clash) 39 = o_get 10 5 42 := rfl
theorem aX10_clash_42 (K : Kt) : tl K (lX10_clash) 42 = o_iload 1 43 := rfl
theorem aX10_clash_43 (K : Kt) : tl K (lX10_clash) 43 = o_callV fX3_open 1 3 46 := rfl
theorem aX10_clash_46 (K : Kt) : tl K (lX10_clash) 46 = o_aload 0 47 := rfl
theorem aX10_clash_47 (K : Kt) : tl K (lX10_clash) 47 = o_aload 0 48 := rfl
theorem aX10_clash_48 (K : Kt) : tl K (lX10_clash) 48 = o_get 10 5 51 := rfl
theorem aX10_clash_51 (K : Kt) : tl K (lX10_clash) 51 = o_iload 2 52 := rfl
theorem aX10_clash_52 (K : Kt) : tl K (lX10_clash) 52 = o_iload 3 53 := rfl
theorem aX10_clash_53 (K : Kt) : tl K (lX10_clash) 53 = o_callV fX3_clashes 2 3 56 := rfl
theorem aX10_clash_56 (K : Kt) : tl K (lX10_clash) 56 = o_callV fX10_answer 1 10 59 := rfl
theorem aX10_clash_59 (K : Kt) : tl K (lX10_clash) 59 = o_iret K := rfl
theorem eX10_troubleOfBest {As L : List Value} {w : Wd} {K : Kt} (hw : wds As ≤ 3) (hL : ent 3 As = L) (h : RR (tl K lX10_troubleOfBest) 0 L [] w) : fX10_troubleOfBest As w K := ⟨hw, by rw [hL]; exact h⟩
theorem nX10_troubleOfBest : MonoF fX10_troubleOfBest := mono_f 3 lX10_troubleOfBest
theorem aX10_troubleOfBest_0 (K : Kt) : tl K (lX10_troubleOfBest) 0 = o_aload 0 1 := rfl
theorem aX10_troubleOfBest_1 (K : Kt) : tl K (lX10_troubleOfBest) 1 = o_iload 1 2 := rfl
theorem aX10_troubleOfBest_2 (K : Kt) : tl K (lX10_troubleOfBest) 2 = o_callV fX10_hasGame 1 10 5 := rfl
theorem aX10_troubleOfBest_5 (K : Kt) : tl K (lX10_troubleOfBest) 5 = o_if_ne 10 8 := rfl
theorem aX10_troubleOfBest_8 (K : Kt) : tl K (lX10_troubleOfBest) 8 = o_pushI (nI 1) 9 := rfl
theorem aX10_troubleOfBest_9 (K : Kt) : tl K (lX10_troubleOfBest) 9 = o_iret K := rfl
theorem aX10_troubleOfBest_10 (K : Kt) : tl K (lX10_troubleOfBest) 10 = o_iload 2 11 := rfl
theorem aX10_troubleOfBest_11 (K : Kt) : tl K (lX10_troubleOfBest) 11 = o_pushI (nI 1) 12 := rfl
theorem aX10_troubleOfBest_12 (K : Kt) : tl K (lX10_troubleOfBest) 12 = o_pushI (nI 5) 13 := rfl
theorem aX10_troubleOfBest_13 (K : Kt) : tl K (lX10_troubleOfBest) 13 = o_callS fX10_within 3 16 := rfl
theorem aX10_troubleOfBest_16 (K : Kt) : tl K (lX10_troubleOfBest) 16 = o_if_ne 21 19 := rfl
theorem aX10_troubleOfBest_19 (K : Kt) : tl K (lX10_troubleOfBest) 19 = o_pushI (nI 2) 20 := rfl
theorem aX10_troubleOfBest_20 (K : Kt) : tl K (lX10_troubleOfBest) 20 = o_iret K := rfl
theorem aX10_troubleOfBest_21 (K : Kt) : tl K (lX10_troubleOfBest) 21 = o_iload 1 22 := rfl
theorem aX10_troubleOfBest_22 (K : Kt) : tl K (lX10_troubleOfBest) 22 = o_iload 2 23 := rfl
theorem aX10_troubleOfBest_23 (K : Kt) : tl K (lX10_troubleOfBest) 23 = o_iadd 24 := rfl
theorem aX10_troubleOfBest_24 (K : Kt) : tl K (lX10_troubleOfBest) 24 = o_aload 0 25 := rfl
theorem aX10_troubleOfBest_25 (K : Kt) : tl K (lX10_troubleOfBest) 25 = o_get 10 2 28 := rfl
theorem aX10_troubleOfBest_28 (K : Kt) : tl K (lX10_troubleOfBest) 28 = o_get 9 4 31 := rfl
theorem aX10_troubleOfBest_31 (K : Kt) : tl K (lX10_troubleOfBest) 31 = o_icmp_le 38 34 := rfl
theorem aX10_troubleOfBest_34 (K : Kt) : tl K (lX10_troubleOfBest) 34 = o_pushI (nI 1) 35 := rfl
theorem aX10_troubleOfBest_35 (K : Kt) : tl K (lX10_troubleOfBest) 35 = o_goto 39 := rfl
theorem aX10_troubleOfBest_38 (K : Kt) : tl K (lX10_troubleOfBest) 38 = o_pushI (nI 0) 39 := rfl
theorem aX10_troubleOfBest_39 (K : Kt) : tl K (lX10_troubleOfBest) 39 = o_iret K := rfl
theorem eX10_best {As L : List Value} {w : Wd} {K : Kt} (hw : wds As ≤ 4) (hL : ent 4 As = L) (h : RR (tl K lX10_best) 0 L [] w) : fX10_best As w K := ⟨hw, by rw [hL]; exact h⟩
theorem nX10_best : MonoF fX10_best := mono_f 4 lX10_best
theorem aX10_best_0 (K : Kt) : tl K (lX10_best) 0 = o_aload 0 1 := rfl
theorem aX10_best_1 (K : Kt) : tl K (lX10_best) 1 = o_iload 1 2 := rfl
theorem aX10_best_2 (K : Kt) : tl K (lX10_best) 2 = o_iload 2 3 := rfl
theorem aX10_best_3 (K : Kt) : tl K (lX10_best) 3 = o_callV fX10_troubleOfBest 2 10 6 := rfl
theorem aX10_best_6 (K : Kt) : tl K (lX10_best) 6 = o_istore 3 7 := rfl
theorem aX10_best_7 (K : Kt) : tl K (lX10_best) 7 = o_iload 3 8 := rfl
theorem aX10_best_8 (K : Kt) : tl K (lX10_best) 8 = o_if_eq 17 11 := rfl
theorem aX10_best_11 (K : Kt) : tl K (lX10_best) 11 = o_aload 0 12 := rfl
theorem aX10_best_12 (K : Kt) : tl K (lX10_best) 12 = o_iload 3 13 := rfl
theorem aX10_best_13 (K : Kt) : tl K (lX10_best) 13 = o_callV fX10_refuse 1 10 16 := rfl
theorem aX10_best_16 (K : Kt) : tl K (lX10_best) 16 = o_iret K := rfl
theorem aX10_best_17 (K : Kt) : tl K (lX10_best) 17 = o_aload 0 18 := rfl
theorem aX10_best_18 (K : Kt) : tl K (lX10_best) 18 = o_get 10 6 21 := rfl
theorem aX10_best_21 (K : Kt) : tl K (lX10_best) 21 = o_iload 1 22 := rfl
theorem aX10_best_22 (K : Kt) : tl K (lX10_best) 22 = o_iload 2 23 := rfl
theorem aX10_best_23 (K : Kt) : tl K (lX10_best) 23 = o_callV fX0_find 2 0 26 := rfl
theorem aX10_best_26 (K : Kt) : tl K (lX10_best) 26 = o_aload 0 27 := rfl
theorem aX10_best_27 (K : Kt) : tl K (lX10_best) 27 = o_aload 0 28 := rfl
theorem aX10_best_28 (K : Kt) : tl K (lX10_best) 28 = o_get 10 6 31 := rfl
theorem aX10_best_31 (K : Kt) : tl K (lX10_best) 31 = o_get 0 10 34 := rfl
theorem aX10_best_34 (K : Kt) : tl K (lX10_best) 34 = o_callV fX10_answer 1 10 37 := rfl
theorem aX10_best_37 (K : Kt) : tl K (lX10_best) 37 = o_iret K := rfl
theorem eX10_bestOf {As L : List Value} {w : Wd} {K : Kt} (hw : wds As ≤ 5) (hL : ent 5 As = L) (h : RR (tl K lX10_bestOf) 0 L [] w) : fX10_bestOf As w K := ⟨hw, by rw [hL]; exact h⟩
theorem nX10_bestOf : MonoF fX10_bestOf := mono_f 5 lX10_bestOf
theorem aX10_bestOf_0 (K : Kt) : tl K (lX10_bestOf) 0 = o_aload 0 1 := rfl
theorem aX10_bestOf_1 (K : Kt) : tl K (lX10_bestOf) 1 = o_iload 1 2 := rfl
theorem aX10_bestOf_2 (K : Kt) : tl K (lX10_bestOf) 2 = o_iload 2 3 := rfl
theorem aX10_bestOf_3 (K : Kt) : tl K (lX10_bestOf) 3 = o_callV fX10_troubleOfBest 2 10 6 := rfl
theorem aX10_bestOf_6 (K : Kt) : tl K (lX10_bestOf) 6 = o_istore 4 8 := rfl
theorem aX10_bestOf_8 (K : Kt) : tl K (lX10_bestOf) 8 = o_iload 4 10 := rfl
theorem aX10_bestOf_10 (K : Kt) : tl K (lX10_bestOf) 10 = o_if_eq 20 13 := rfl
theorem aX10_bestOf_13 (K : Kt) : tl K (lX10_bestOf) 13 = o_aload 0 14 := rfl
theorem aX10_bestOf_14 (K : Kt) : tl K (lX10_bestOf) 14 = o_iload 4 16 := rfl
theorem aX10_bestOf_16 (K : Kt) : tl K (lX10_bestOf) 16 = o_callV fX10_refuse 1 10 19 := rfl
theorem aX10_bestOf_19 (K : Kt) : tl K (lX10_bestOf) 19 = o_iret K := rfl
theorem aX10_bestOf_20 (K : Kt) : tl K (lX10_bestOf) 20 = o_iload 3 21 := rfl
theorem aX10_bestOf_21 (K : Kt) : tl K (lX10_bestOf) 21 = o_pushI (nI 0) 22 := rfl
theorem aX10_bestOf_22 (K : Kt) : tl K (lX10_bestOf) 22 = o_iload 2 23 := rfl
theorem aX10_bestOf_23 (K : Kt) : tl K (lX10_bestOf) 23 = o_pushI (nI 1) 24 := rfl
theorem aX10_bestOf_24 (K : Kt) : tl K (lX10_bestOf) 24 = o_isub 25 := rfl
theorem aX10_bestOf_25 (K : Kt) : tl K (lX10_bestOf) 25 = o_callS fX10_within 3 28 := rfl
theorem aX10_bestOf_28 (K : Kt) : tl K (lX10_bestOf) 28 = o_if_ne 37 31 := rfl
theorem aX10_bestOf_31 (K : Kt) : tl K (lX10_bestOf) 31 = o_aload 0 32 := rfl
theorem aX10_bestOf_32 (K : Kt) : tl K (lX10_bestOf) 32 = o_pushI (nI 1) 33 := rfl
theorem aX10_bestOf_33 (K : Kt) : tl K (lX10_bestOf) 33 = o_callV fX10_refuse 1 10 36 := rfl
theorem aX10_bestOf_36 (K : Kt) : tl K (lX10_bestOf) 36 = o_iret K := rfl
theorem aX10_bestOf_37 (K : Kt) : tl K (lX10_bestOf) 37 = o_aload 0 38 := rfl
theorem aX10_bestOf_38 (K : Kt) : tl K (lX10_bestOf) 38 = o_get 10 6 41 := rfl
theorem aX10_bestOf_41 (K : Kt) : tl K (lX10_bestOf) 41 = o_iload 1 42 := rfl
theorem aX10_bestOf_42 (K : Kt) : tl K (lX10_bestOf) 42 = o_iload 2 43 := rfl
theorem aX10_bestOf_43 (K : Kt) : tl K (lX10_bestOf) 43 = o_callV fX0_find 2 0 46 := rfl
theorem aX10_bestOf_46 (K : Kt) : tl K (lX10_bestOf) 46 = o_aload 0 47 := rfl
theorem aX10_bestOf_47 (K : Kt) : tl K (lX10_bestOf) 47 = o_aload 0 48 := rfl
theorem aX10_bestOf_48 (K : Kt) : tl K (lX10_bestOf) 48 = o_get 10 6 51 := rfl
theorem aX10_bestOf_51 (K : Kt) : tl K (lX10_bestOf) 51 = o_get 0 9 54 := rfl
theorem aX10_bestOf_54 (K : Kt) : tl K (lX10_bestOf) 54 = o_iload 3 55 := rfl
theorem aX10_bestOf_55 (K : Kt) : tl K (lX10_bestOf) 55 = o_iald 56 := rfl
theorem aX10_bestOf_56 (K : Kt) : tl K (lX10_bestOf) 56 = o_callV fX10_answer 1 10 59 := rfl
theorem aX10_bestOf_59 (K : Kt) : tl K (lX10_bestOf) 59 = o_iret K := rfl
theorem eX10_pair {As L : List Value} {w : Wd} {K : Kt} (hw : wds As ≤ 4) (hL : ent 4 As = L) (h : RR (tl K lX10_pair) 0 L [] w) : fX10_pair As w K := ⟨hw, by rw [hL]; exact h⟩
theorem nX10_pair : MonoF fX10_pair := mono_f 4 lX10_pair
theorem aX10_pair_0 (K : Kt) : tl K (lX10_pair) 0 = o_aload 0 1 := rfl
theorem aX10_pair_1 (K : Kt) : tl K (lX10_pair) 1 = o_iload 1 2 := rfl
theorem aX10_pair_2 (K : Kt) : tl K (lX10_pair) 2 = o_callV fX10_hasGame 1 10 5 := rfl
theorem aX10_pair_5 (K : Kt) : tl K (lX10_pair) 5 = o_if_eq 17 8 := rfl
theorem aX10_pair_8 (K : Kt) : tl K (lX10_pair) 8 = o_iload 3 9 := rfl
theorem aX10_pair_9 (K : Kt) : tl K (lX10_pair) 9 = o_pushI (nI 0) 10 := rfl
theorem aX10_pair_10 (K : Kt) : tl K (lX10_pair) 10 = o_pushI (nI 2) 11 := rfl
theorem aX10_pair_11 (K : Kt) : tl K (lX10_pair) 11 = o_callS fX10_within 3 14 := rfl
theorem aX10_pair_14 (K : Kt) : tl K (lX10_pair) 14 = o_if_ne 23 17 := rfl
theorem aX10_pair_17 (K : Kt) : tl K (lX10_pair) 17 = o_aload 0 18 := rfl
theorem aX10_pair_18 (K : Kt) : tl K (lX10_pair) 18 = o_pushI (nI 1) 19 := rfl
theorem aX10_pair_19 (K : Kt) : tl K (lX10_pair) 19 = o_callV fX10_refuse 1 10 22 := rfl
theorem aX10_pair_22 (K : Kt) : tl K (lX10_pair) 22 = o_iret K := rfl
theorem aX10_pair_23 (K : Kt) : tl K (lX10_pair) 23 = o_iload 2 24 := rfl
theorem aX10_pair_24 (K : Kt) : tl K (lX10_pair) 24 = o_pushI (nI 1) 25 := rfl
theorem aX10_pair_25 (K : Kt) : tl K (lX10_pair) 25 = o_pushI (nI 120) 27 := rfl
theorem aX10_pair_27 (K : Kt) : tl K (lX10_pair) 27 = o_callS fX10_within 3 30 := rfl
theorem aX10_pair_30 (K : Kt) : tl K (lX10_pair) 30 = o_if_ne 39 33 := rfl
theorem aX10_pair_33 (K : Kt) : tl K (lX10_pair) 33 = o_aload 0 34 := rfl
theorem aX10_pair_34 (K : Kt) : tl K (lX10_pair) 34 = o_pushI (nI 2) 35 := rfl
theorem aX10_pair_35 (K : Kt) : tl K (lX10_pair) 35 = o_callV fX10_refuse 1 10 38 := rfl
theorem aX10_pair_38 (K : Kt) : tl K (lX10_pair) 38 = o_iret K := rfl
theorem aX10_pair_39 (K : Kt) : tl K (lX10_pair) 39 = o_aload 0 40 := rfl
theorem aX10_pair_40 (K : Kt) : tl K (lX10_pair) 40 = o_get 10 7 43 := rfl
theorem aX10_pair_43 (K : Kt) : tl K (lX10_pair) 43 = o_iload 1 44 := rfl
theorem aX10_pair_44 (K : Kt) : tl K (lX10_pair) 44 = o_iload 2 45 := rfl
theorem aX10_pair_45 (K : Kt) : tl K (lX10_pair) 45 = o_callV fX2_choosePair 2 2 48 := rfl
theorem aX10_pair_48 (K : Kt) : tl K (lX10_pair) 48 = o_iload 3 49 := rfl
theorem aX10_pair_49 (K : Kt) : tl K (lX10_pair) 49 = o_if_ne 64 52 := rfl
theorem aX10_pair_52 (K : Kt) : tl K (lX10_pair) 52 = o_aload 0 53 := rfl
theorem aX10_pair_53 (K : Kt) : tl K (lX10_pair) 53 = o_aload 0 54 := rfl
theorem aX10_pair_54 (K : Kt) : tl K (lX10_pair) 54 = o_get 10 7 57 := rfl
theorem aX10_pair_57 (K : Kt) : tl K (lX10_pair) 57 = o_get 2 2 60 := rfl
theorem aX10_pair_60 (K : Kt) : tl K (lX10_pair) 60 = o_callV fX10_answer 1 10 63 := rfl
theorem aX10_pair_63 (K : Kt) : tl K (lX10_pair) 63 = o_iret K := rfl
theorem aX10_pair_64 (K : Kt) : tl K (lX10_pair) 64 = o_aload 0 65 := rfl
theorem aX10_pair_65 (K : Kt) : tl K (lX10_pair) 65 = o_iload 3 66 := rfl
theorem aX10_pair_66 (K : Kt) : tl K (lX10_pair) 66 = o_pushI (nI 1) 67 := rfl
theorem aX10_pair_67 (K : Kt) : tl K (lX10_pair) 67 = o_icmp_ne 80 70 := rfl
theorem aX10_pair_70 (K : Kt) : tl K (lX10_pair) 70 = o_aload 0 71 := rfl
theorem aX10_pair_71 (K : Kt) : tl K (lX10_pair) 71 = o_get 10 7 74 := rfl
theorem aX10_pair_74 (K : Kt) : tl K (lX10_pair) 74 = o_get 2 3 77 := rfl
theorem aX10_pair_77 (K : Kt) : tl K (lX10_pair) 77 = o_goto 87 := rfl
theorem aX10_pair_80 (K : Kt) : tl K (lX10_pair) 80 = o_aload 0 81 := rfl
theorem aX10_pair_81 (K : Kt) : tl K (lX10_pair) 81 = o_get 10 7 84 := rfl
theorem aX10_pair_84 (K : Kt) : tl K (lX10_pair) 84 = o_get 2 4 87 := rfl
theorem aX10_pair_87 (K : Kt) : tl K (lX10_pair) 87 = o_callV fX10_answer 1 10 90 := rfl
theorem aX10_pair_90 (K : Kt) : tl K (lX10_pair) 90 = o_iret K := rfl
theorem eX10_breaches {As L : List Value} {w : Wd} {K : Kt} (hw : wds As ≤ 4) (hL : ent 4 As = L) (h : RR (tl K lX10_breaches) 0 L [] w) : fX10_breaches As w K := ⟨hw, by rw [hL]; exact h⟩
theorem nX10_breaches : MonoF fX10_breaches := mono_f 4 lX10_breaches
theorem aX10_breaches_0 (K : Kt) : tl K (lX10_breaches) 0 = o_aload 0 1 := rfl
theorem aX10_breaches_1 (K : Kt) : tl K (lX10_breaches) 1 = o_callV fX10_hasText 0 10 4 := rfl
theorem aX10_breaches_4 (K : Kt) : tl K (lX10_breaches) 4 = o_if_ne 13 7 := rfl
theorem aX10_breaches_7 (K : Kt) : tl K (lX10_breaches) 7 = o_aload 0 8 := rfl
theorem aX10_breaches_8 (K : Kt) : tl K (lX10_breaches) 8 = o_pushI (nI 1) 9 := rfl
theorem aX10_breaches_9 (K : Kt) : tl K (lX10_breaches) 9 = o_callV fX10_refuse 1 10 12 := rfl
theorem aX10_breaches_12 (K : Kt) : tl K (lX10_breaches) 12 = o_iret K := rfl
theorem aX10_breaches_13 (K : Kt) : tl K (lX10_breaches) 13 = o_pushI (nI 0) 14 := rfl
theorem aX10_breaches_14 (K : Kt) : tl K (lX10_breaches) 14 = o_istore 1 15 := rfl
theorem aX10_breaches_15 (K : Kt) : tl K (lX10_breaches) 15 = o_pushI (nI 0) 16 := rfl
theorem aX10_breaches_16 (K : Kt) : tl K (lX10_breaches) 16 = o_istore 2 17 := rfl
theorem aX10_breaches_17 (K : Kt) : tl K (lX10_breaches) 17 = o_iload 2 18 := rfl
theorem aX10_breaches_18 (K : Kt) : tl K (lX10_breaches) 18 = o_aload 0 19 := rfl
theorem aX10_breaches_19 (K : Kt) : tl K (lX10_breaches) 19 = o_get 10 2 22 := rfl
theorem aX10_breaches_22 (K : Kt) : tl K (lX10_breaches) 22 = o_get 9 4 25 := rfl
theorem aX10_breaches_25 (K : Kt) : tl K (lX10_breaches) 25 = o_icmp_ge 75 28 := rfl
theorem aX10_breaches_28 (K : Kt) : tl K (lX10_breaches) 28 = o_pushI (nI 0) 29 := rfl
theorem aX10_breaches_29 (K : Kt) : tl K (lX10_breaches) 29 = o_istore 3 30 := rfl
theorem aX10_breaches_30 (K : Kt) : tl K (lX10_breaches) 30 = o_iload 3 31 := rfl
theorem aX10_breaches_31 (K : Kt) : tl K (lX10_breaches) 31 = o_aload 0 32 := rfl
theorem aX10_breaches_32 (K : Kt) : tl K (lX10_breaches) 32 = o_get 10 3 35 := rfl
theorem aX10_breaches_35 (K : Kt) : tl K (lX10_breaches) 35 = o_get 5 0 38 := rfl
theorem aX10_breaches_38 (K : Kt) : tl K (lX10_breaches) 38 = o_iload 2 39 := rfl
theorem aX10_breaches_39 (K : Kt) : tl K (lX10_breaches) 39 = o_iald 40 := rfl
theorem aX10_breaches_40 (K : Kt) : tl K (lX10_breaches) 40 = o_icmp_ge 69 43 := rfl
theorem aX10_breaches_43 (K : Kt) : tl K (lX10_breaches) 43 = o_iload 1 44 := rfl
theorem aX10_breaches_44 (K : Kt) : tl K (lX10_breaches) 44 = o_aload 0 45 := rfl
theorem aX10_breaches_45 (K : Kt) : tl K (lX10_breaches) 45 = o_get 10 5 48 := rfl
theorem aX10_breaches_48 (K : Kt) : tl K (lX10_breaches) 48 = o_iload 2 49 := rfl
theorem aX10_breaches_49 (K : Kt) : tl K (lX10_breaches) 49 = o_iload 3 50 := rfl
theorem aX10_breaches_50 (K : Kt) : tl K (lX10_breaches) 50 = o_callV fX3_allowsAt 2 3 53 := rfl
theorem aX10_breaches_53 (K : Kt) : tl K (lX10_breaches) 53 = o_if_eq 60 56 := rfl
theorem aX10_breaches_56 (K : Kt) : tl K (lX10_breaches) 56 = o_pushI (nI 0) 57 := rfl
theorem aX10_breaches_57 (K : Kt) : tl K (lX10_breaches) 57 = o_goto 61 := rfl
theorem aX10_breaches_60 (K : Kt) : tl K (lX10_breaches) 60 = o_pushI (nI 1) 61 := rfl
theorem aX10_breaches_61 (K : Kt) : tl K (lX10_breaches) 61 = o_iadd 62 := rfl
theorem aX10_breaches_62 (K : Kt) : tl K (lX10_breaches) 62 = o_istore 1 63 := rfl
theorem aX10_breaches_63 (K : Kt) : tl K (lX10_breaches) 63 = o_iinc 3 (nI 1) 66 := rfl
theorem aX10_breaches_66 (K : Kt) : tl K (lX10_breaches) 66 = o_goto 30 := rfl
theorem aX10_breaches_69 (K : Kt) : tl K (lX10_breaches) 69 = o_iinc 2 (nI 1) 72 := rfl
theorem aX10_breaches_72 (K : Kt) : tl K (lX10_breaches) 72 = o_goto 17 := rfl
theorem aX10_breaches_75 (K : Kt) : tl K (lX10_breaches) 75 = o_aload 0 76 := rfl
theorem aX10_breaches_76 (K : Kt) : tl K (lX10_breaches) 76 = o_iload 1 77 := rfl
theorem aX10_breaches_77 (K : Kt) : tl K (lX10_breaches) 77 = o_callV fX10_answer 1 10 80 := rfl
theorem aX10_breaches_80 (K : Kt) : tl K (lX10_breaches) 80 = o_iret K := rfl
theorem eX10_breach {As L : List Value} {w : Wd} {K : Kt} (hw : wds As ≤ 5) (hL : ent 5 As = L) (h : RR (tl K lX10_breach) 0 L [] w) : fX10_breach As w K := ⟨hw, by rw [hL]; exact h⟩
theorem nX10_breach : MonoF fX10_breach := mono_f 5 lX10_breach
theorem aX10_breach_0 (K : Kt) : tl K (lX10_breach) 0 = o_aload 0 1 := rfl
theorem aX10_breach_1 (K : Kt) : tl K (lX10_breach) 1 = o_callV fX10_hasText 0 10 4 := rfl
theorem aX10_breach_4 (K : Kt) : tl K (lX10_breach) 4 = o_if_eq 11 7 := rfl
theorem aX10_breach_7 (K : Kt) : tl K (lX10_breach) 7 = o_iload 1 8 := rfl
theorem aX10_breach_8 (K : Kt) : tl K (lX10_breach) 8 = o_if_ge 17 11 := rfl
theorem aX10_breach_11 (K : Kt) : tl K (lX10_breach) 11 = o_aload 0 12 := rfl
theorem aX10_breach_12 (K : Kt) : tl K (lX10_breach) 12 = o_pushI (nI 1) 13 := rfl
theorem aX10_breach_13 (K : Kt) : tl K (lX10_breach) 13 = o_callV fX10_refuse 1 10 16 := rfl
theorem aX10_breach_16 (K : Kt) : tl K (lX10_breach) 16 = o_iret K := rfl
theorem aX10_breach_17 (K : Kt) : tl K (lX10_breach) 17 = o_pushI (nI 0) 18 := rfl
theorem aX10_breach_18 (K : Kt) : tl K (lX10_breach) 18 = o_istore 2 19 := rfl
theorem aX10_breach_19 (K : Kt) : tl K (lX10_breach) 19 = o_pushI (nI 0) 20 := rfl
theorem aX10_breach_20 (K : Kt) : tl K (lX10_breach) 20 = o_istore 3 21 := rfl
theorem aX10_breach_21 (K : Kt) : tl K (lX10_breach) 21 = o_iload 3 22 := rfl
theorem aX10_breach_22 (K : Kt) : tl K (lX10_breach) 22 = o_aload 0 23 := rfl
theorem aX10_breach_23 (K : Kt) : tl K (lX10_breach) 23 = o_get 10 2 26 := rfl
theorem aX10_breach_26 (K : Kt) : tl K (lX10_breach) 26 = o_get 9 4 29 := rfl
theorem aX10_breach_29 (K : Kt) : tl K (lX10_breach) 29 = o_icmp_ge 96 32 := rfl
theorem aX10_breach_32 (K : Kt) : tl K (lX10_breach) 32 = o_pushI (nI 0) 33 := rfl
theorem aX10_breach_33 (K : Kt) : tl K (lX10_breach) 33 = o_istore 4 35 := rfl
theorem aX10_breach_35 (K : Kt) : tl K (lX10_breach) 35 = o_iload 4 37 := rfl
theorem aX10_breach_37 (K : Kt) : tl K (lX10_breach) 37 = o_aload 0 38 := rfl
theorem aX10_breach_38 (K : Kt) : tl K (lX10_breach) 38 = o_get 10 3 41 := rfl
theorem aX10_breach_41 (K : Kt) : tl K (lX10_breach) 41 = o_get 5 0 44 := rfl
theorem aX10_breach_44 (K : Kt) : tl K (lX10_breach) 44 = o_iload 3 45 := rfl
theorem aX10_breach_45 (K : Kt) : tl K (lX10_breach) 45 = o_iald 46 := rfl
theorem aX10_breach_46 (K : Kt) : tl K (lX10_breach) 46 = o_icmp_ge 90 49 := rfl
theorem aX10_breach_49 (K : Kt) : tl K (lX10_breach) 49 = o_aload 0 50 := rfl
theorem aX10_breach_50 (K : Kt) : tl K (lX10_breach) 50 = o_get 10 5 53 := rfl
theorem aX10_breach_53 (K : Kt) : tl K (lX10_breach) 53 = o_iload 3 54 := rfl
theorem aX10_breach_54 (K : Kt) : tl K (lX10_breach) 54 = o_iload 4 56 := rfl
theorem aX10_breach_56 (K : Kt) : tl K (lX10_breach) 56 = o_callV fX3_allowsAt 2 3 59 := rfl
theorem aX10_breach_59 (K : Kt) : tl K (lX10_breach) 59 = o_if_eq 65 62 := rfl
theorem aX10_breach_62 (K : Kt) : tl K (lX10_breach) 62 = o_goto 84 := rfl
theorem aX10_breach_65 (K : Kt) : tl K (lX10_breach) 65 = o_iload 2 66 := rfl
theorem aX10_breach_66 (K : Kt) : tl K (lX10_breach) 66 = o_iload 1 67 := rfl
theorem aX10_breach_67 (K : Kt) : tl K (lX10_breach) 67 = o_icmp_ne 81 70 := rfl
theorem aX10_breach_70 (K : Kt) : tl K (lX10_breach) 70 = o_aload 0 71 := rfl
theorem aX10_breach_71 (K : Kt) : tl K (lX10_breach) 71 = o_pushI (nI 3) 72 := rfl
theorem aX10_breach_72 (K : Kt) : tl K (lX10_breach) 72 = o_iload 3 73 := rfl
theorem aX10_breach_73 (K : Kt) : tl K (lX10_breach) 73 = o_imul 74 := rfl
theorem aX10_breach_74 (K : Kt) : tl K (lX10_breach) 74 = o_iload 4 76 := rfl
theorem aX10_breach_76 (K : Kt) : tl K (lX10_breach) 76 = o_iadd 77 := rfl
theorem aX10_breach_77 (K : Kt) : tl K (lX10_breach) 77 = o_callV fX10_answer 1 10 80 := rfl
theorem aX10_breach_80 (K : Kt) : tl K (lX10_breach) 80 = o_iret K := rfl
theorem aX10_breach_81 (K : Kt) : tl K (lX10_breach) 81 = o_iinc 2 (nI 1) 84 := rfl
theorem aX10_breach_84 (K : Kt) : tl K (lX10_breach) 84 = o_iinc 4 (nI 1) 87 := rfl
theorem aX10_breach_87 (K : Kt) : tl K (lX10_breach) 87 = o_goto 35 := rfl
theorem aX10_breach_90 (K : Kt) : tl K (lX10_breach) 90 = o_iinc 3 (nI 1) 93 := rfl
theorem aX10_breach_93 (K : Kt) : tl K (lX10_breach) 93 = o_goto 21 := rfl
theorem aX10_breach_96 (K : Kt) : tl K (lX10_breach) 96 = o_aload 0 97 := rfl
theorem aX10_breach_97 (K : Kt) : tl K (lX10_breach) 97 = o_pushI ((-2)) 99 := rfl
theorem aX10_breach_99 (K : Kt) : tl K (lX10_breach) 99 = o_callV fX10_answer 1 10 102 := rfl
theorem aX10_breach_102 (K : Kt) : tl K (lX10_breach) 102 = o_iret K := rfl
theorem eX10_work {As L : List Value} {w : Wd} {K : Kt} (hw : wds As ≤ 3) (hL : ent 3 As = L) (h : RR (tl K lX10_work) 0 L [] w) : fX10_work As w K := ⟨hw, by rw [hL]; exact h⟩
theorem nX10_work : MonoF fX10_work := mono_f 3 lX10_work
theorem aX10_work_0 (K : Kt) : tl K (lX10_work) 0 = o_aload 0 1 := rfl
theorem aX10_work_1 (K : Kt) : tl K (lX10_work) 1 = o_iload 1 2 := rfl
theorem aX10_work_2 (K : Kt) : tl K (lX10_work) 2 = o_callV fX10_hasArm 1 10 5 := rfl
theorem aX10_work_5 (K : Kt) : tl K (lX10_work) 5 = o_if_ne 14 8 := rfl
theorem aX10_work_8 (K : Kt) : tl K (lX10_work) 8 = o_aload 0 9 := rfl
theorem aX10_work_9 (K : Kt) : tl K (lX10_work) 9 = o_pushI (nI 1) 10 := rfl
theorem aX10_work_10 (K : Kt) : tl K (lX10_work) 10 = o_callV fX10_refuse 1 10 13 := rfl
theorem aX10_work_13 (K : Kt) : tl K (lX10_work) 13 = o_iret K := rfl
theorem aX10_work_14 (K : Kt) : tl K (lX10_work) 14 = o_iload 2 15 := rfl
theorem aX10_work_15 (K : Kt) : tl K (lX10_work) 15 = o_pushI (nI 0) 16 := rfl
theorem aX10_work_16 (K : Kt) : tl K (lX10_work) 16 = o_pushI (nI 59) 18 := rfl
theorem aX10_work_18 (K : Kt) : tl K (lX10_work) 18 = o_callS fX10_within 3 21 := rfl
theorem aX10_work_21 (K : Kt) : tl K (lX10_work) 21 = o_if_ne 30 24 := rfl
theorem aX10_work_24 (K : Kt) : tl K (lX10_work) 24 = o_aload 0 25 := rfl
theorem aX10_work_25 (K : Kt) : tl K (lX10_work) 25 = o_pushI (nI 2) 26 := rfl
theorem aX10_work_26 (K : Kt) : tl K (lX10_work) 26 = o_callV fX10_refuse 1 10 29 := rfl
theorem aX10_work_29 (K : Kt) : tl K (lX10_work) 29 = o_iret K := rfl
theorem aX10_work_30 (K : Kt) : tl K (lX10_work) 30 = o_aload 0 31 := rfl
theorem aX10_work_31 (K : Kt) : tl K (lX10_work) 31 = o_aload 0 32 := rfl
theorem aX10_work_32 (K : Kt) : tl K (lX10_work) 32 = o_get 10 4 35 := rfl
theorem aX10_work_35 (K : Kt) : tl K (lX10_work) 35 = o_iload 1 36 := rfl
theorem aX10_work_36 (K : Kt) : tl K (lX10_work) 36 = o_iload 2 37 := rfl
theorem aX10_work_37 (K : Kt) : tl K (lX10_work) 37 = o_callV fX1_weekOfArm 2 1 40 := rfl
theorem aX10_work_40 (K : Kt) : tl K (lX10_work) 40 = o_callV fX10_answer 1 10 43 := rfl
theorem aX10_work_43 (K : Kt) : tl K (lX10_work) 43 = o_iret K := rfl
theorem eX10_busiest {As L : List Value} {w : Wd} {K : Kt} (hw : wds As ≤ 7) (hL : ent 7 As = L) (h : RR (tl K lX10_busiest) 0 L [] w) : fX10_busiest As w K := ⟨hw, by rw [hL]; exact h⟩
theorem nX10_busiest : MonoF fX10_busiest := mono_f 7 lX10_busiest
theorem aX10_busiest_0 (K : Kt) : tl K (lX10_busiest) 0 = o_aload 0 1 := rfl
theorem aX10_busiest_1 (K : Kt) : tl K (lX10_busiest) 1 = o_iload 1 2 := rfl
theorem aX10_busiest_2 (K : Kt) : tl K (lX10_busiest) 2 = o_callV fX10_hasArm 1 10 5 := rfl
theorem aX10_busiest_5 (K : Kt) : tl K (lX10_busiest) 5 = o_if_eq 17 8 := rfl
theorem aX10_busiest_8 (K : Kt) : tl K (lX10_busiest) 8 = o_iload 2 9 := rfl
theorem aX10_busiest_9 (K : Kt) : tl K (lX10_busiest) 9 = o_pushI (nI 0) 10 := rfl
theorem aX10_busiest_10 (K : Kt) : tl K (lX10_busiest) 10 = o_pushI (nI 1) 11 := rfl
theorem aX10_busiest_11 (K : Kt) : tl K (lX10_busiest) 11 = o_callS fX10_within 3 14 := rfl
theorem aX10_busiest_14 (K : Kt) : tl K (lX10_busiest) 14 = o_if_ne 23 17 := rfl
theorem aX10_busiest_17 (K : Kt) : tl K (lX10_busiest) 17 = o_aload 0 18 := rfl
theorem aX10_busiest_18 (K : Kt) : tl K (lX10_busiest) 18 = o_pushI (nI 1) 19 := rfl
theorem aX10_busiest_19 (K : Kt) : tl K (lX10_busiest) 19 = o_callV fX10_refuse 1 10 22 := rfl
theorem aX10_busiest_22 (K : Kt) : tl K (lX10_busiest) 22 = o_iret K := rfl
theorem aX10_busiest_23 (K : Kt) : tl K (lX10_busiest) 23 = o_pushI (nI 0) 24 := rfl
theorem aX10_busiest_24 (K : Kt) : tl K (lX10_busiest) 24 = o_istore 3 25 := rfl
theorem aX10_busiest_25 (K : Kt) : tl K (lX10_busiest) 25 = o_pushI (nI 0) 26 := rfl
theorem aX10_busiest_26 (K : Kt) : tl K (lX10_busiest) 26 = o_istore 4 28 := rfl
theorem aX10_busiest_28 (K : Kt) : tl K (lX10_busiest) 28 = o_pushI (nI 0) 29 := rfl
theorem aX10_busiest_29 (K : Kt) : tl K (lX10_busiest) 29 = o_istore 5 31 := rfl
theorem aX10_busiest_31 (K : Kt) : tl K (lX10_busiest) 31 = o_iload 5 33 := rfl
theorem aX10_busiest_33 (K : Kt) : tl K (lX10_busiest) 33 = o_pushI (nI 60) 35 := rfl
theorem aX10_busiest_35 (K : Kt) : tl K (lX10_busiest) 35 = o_icmp_ge 69 38 := rfl
theorem aX10_busiest_38 (K : Kt) : tl K (lX10_busiest) 38 = o_aload 0 39 := rfl
theorem aX10_busiest_39 (K : Kt) : tl K (lX10_busiest) 39 = o_get 10 4 42 := rfl
theorem aX10_busiest_42 (K : Kt) : tl K (lX10_busiest) 42 = o_iload 1 43 := rfl
theorem aX10_busiest_43 (K : Kt) : tl K (lX10_busiest) 43 = o_iload 5 45 := rfl
theorem aX10_busiest_45 (K : Kt) : tl K (lX10_busiest) 45 = o_callV fX1_weekOfArm 2 1 48 := rfl
theorem aX10_busiest_48 (K : Kt) : tl K (lX10_busiest) 48 = o_istore 6 50 := rfl
theorem aX10_busiest_50 (K : Kt) : tl K (lX10_busiest) 50 = o_iload 6 52 := rfl
theorem aX10_busiest_52 (K : Kt) : tl K (lX10_busiest) 52 = o_iload 3 53 := rfl
theorem aX10_busiest_53 (K : Kt) : tl K (lX10_busiest) 53 = o_icmp_le 63 56 := rfl
theorem aX10_busiest_56 (K : Kt) : tl K (lX10_busiest) 56 = o_iload 6 58 := rfl
theorem aX10_busiest_58 (K : Kt) : tl K (lX10_busiest) 58 = o_istore 3 59 := rfl
theorem aX10_busiest_59 (K : Kt) : tl K (lX10_busiest) 59 = o_iload 5 61 := rfl
theorem aX10_busiest_61 (K : Kt) : tl K (lX10_busiest) 61 = o_istore 4 63 := rfl
theorem aX10_busiest_63 (K : Kt) : tl K (lX10_busiest) 63 = o_iinc 5 (nI 1) 66 := rfl
theorem aX10_busiest_66 (K : Kt) : tl K (lX10_busiest) 66 = o_goto 31 := rfl
theorem aX10_busiest_69 (K : Kt) : tl K (lX10_busiest) 69 = o_aload 0 70 := rfl
theorem aX10_busiest_70 (K : Kt) : tl K (lX10_busiest) 70 = o_iload 2 71 := rfl
theorem aX10_busiest_71 (K : Kt) : tl K (lX10_busiest) 71 = o_if_ne 78 74 := rfl
theorem aX10_busiest_74 (K : Kt) : tl K (lX10_busiest) 74 = o_iload 3 75 := rfl
theorem aX10_busiest_75 (K : Kt) : tl K (lX10_busiest) 75 = o_goto 80 := rfl
theorem aX10_busiest_78 (K : Kt) : tl K (lX10_busiest) 78 = o_iload 4 80 := rfl
theorem aX10_busiest_80 (K : Kt) : tl K (lX10_busiest) 80 = o_callV fX10_answer 1 10 83 := rfl
theorem aX10_busiest_83 (K : Kt) : tl K (lX10_busiest) 83 = o_iret K := rfl
theorem eX10_idle {As L : List Value} {w : Wd} {K : Kt} (hw : wds As ≤ 5) (hL : ent 5 As = L) (h : RR (tl K lX10_idle) 0 L [] w) : fX10_idle As w K := ⟨hw, by rw [hL]; exact h⟩
theorem nX10_idle : MonoF fX10_idle := mono_f 5 lX10_idle
theorem aX10_idle_0 (K : Kt) : tl K (lX10_idle) 0 = o_aload 0 1 := rfl
theorem aX10_idle_1 (K : Kt) : tl K (lX10_idle) 1 = o_iload 1 2 := rfl
theorem aX10_idle_2 (K : Kt) : tl K (lX10_idle) 2 = o_callV fX10_hasArm 1 10 5 := rfl
theorem aX10_idle_5 (K : Kt) : tl K (lX10_idle) 5 = o_if_ne 14 8 := rfl
theorem aX10_idle_8 (K : Kt) : tl K (lX10_idle) 8 = o_aload 0 9 := rfl
theorem aX10_idle_9 (K : Kt) : tl K (lX10_idle) 9 = o_pushI (nI 1) 10 := rfl
theorem aX10_idle_10 (K : Kt) : tl K (lX10_idle) 10 = o_callV fX10_refuse 1 10 13 := rfl
theorem aX10_idle_13 (K : Kt) : tl K (lX10_idle) 13 = o_iret K := rfl
theorem aX10_idle_14 (K : Kt) : tl K (lX10_idle) 14 = o_pushI (nI 0) 15 := rfl
theorem aX10_idle_15 (K : Kt) : tl K (lX10_idle) 15 = o_istore 2 16 := rfl
theorem aX10_idle_16 (K : Kt) : tl K (lX10_idle) 16 = o_pushI ((-1)) 17 := rfl
theorem aX10_idle_17 (K : Kt) : tl K (lX10_idle) 17 = o_istore 3 18 := rfl
theorem aX10_idle_18 (K : Kt) : tl K (lX10_idle) 18 = o_pushI (nI 0) 19 := rfl
theorem aX10_idle_19 (K : Kt) : tl K (lX10_idle) 19 = o_istore 4 21 := rfl
theorem aX10_idle_21 (K : Kt) : tl K (lX10_idle) 21 = o_iload 4 23 := rfl
theorem aX10_idle_23 (K : Kt) : tl K (lX10_idle) 23 = o_aload 0 24 := rfl
theorem aX10_idle_24 (K : Kt) : tl K (lX10_idle) 24 = o_get 10 2 27 := rfl
theorem aX10_idle_27 (K : Kt) : tl K (lX10_idle) 27 = o_get 9 4 30 := rfl
theorem aX10_idle_30 (K : Kt) : tl K (lX10_idle) 30 = o_icmp_ge 82 33 := rfl
theorem aX10_idle_33 (K : Kt) : tl K (lX10_idle) 33 = o_aload 0 34 := rfl
theorem aX10_idle_34 (K : Kt) : tl K (lX10_idle) 34 = o_get 10 3 37 := rfl
theorem aX10_idle_37 (K : Kt) : tl K (lX10_idle) 37 = o_iload 1 38 := rfl
theorem aX10_idle_38 (K : Kt) : tl K (lX10_idle) 38 = o_iload 4 40 := rfl
theorem aX10_idle_40 (K : Kt) : tl K (lX10_idle) 40 = o_callV fX5_has 2 5 43 := rfl
theorem aX10_idle_43 (K : Kt) : tl K (lX10_idle) 43 = o_if_eq 76 46 := rfl
theorem aX10_idle_46 (K : Kt) : tl K (lX10_idle) 46 = o_iload 2 47 := rfl
theorem aX10_idle_47 (K : Kt) : tl K (lX10_idle) 47 = o_aload 0 48 := rfl
theorem aX10_idle_48 (K : Kt) : tl K (lX10_idle) 48 = o_get 10 2 51 := rfl
theorem aX10_idle_51 (K : Kt) : tl K (lX10_idle) 51 = o_iload 4 53 := rfl
theorem aX10_idle_53 (K : Kt) : tl K (lX10_idle) 53 = o_pushI (nI 0) 54 := rfl
theorem aX10_idle_54 (K : Kt) : tl K (lX10_idle) 54 = o_callV fX9_fact 2 9 57 := rfl
theorem aX10_idle_57 (K : Kt) : tl K (lX10_idle) 57 = o_iload 3 58 := rfl
theorem aX10_idle_58 (K : Kt) : tl K (lX10_idle) 58 = o_isub 59 := rfl
theorem aX10_idle_59 (K : Kt) : tl K (lX10_idle) 59 = o_pushI (nI 1) 60 := rfl
theorem aX10_idle_60 (K : Kt) : tl K (lX10_idle) 60 = o_isub 61 := rfl
theorem aX10_idle_61 (K : Kt) : tl K (lX10_idle) 61 = o_max 64 := rfl
theorem aX10_idle_64 (K : Kt) : tl K (lX10_idle) 64 = o_istore 2 65 := rfl
theorem aX10_idle_65 (K : Kt) : tl K (lX10_idle) 65 = o_aload 0 66 := rfl
theorem aX10_idle_66 (K : Kt) : tl K (lX10_idle) 66 = o_get 10 2 69 := rfl
theorem aX10_idle_69 (K : Kt) : tl K (lX10_idle) 69 = o_iload 4 71 := rfl
theorem aX10_idle_71 (K : Kt) : tl K (lX10_idle) 71 = o_pushI (nI 0) 72 := rfl
theorem aX10_idle_72 (K : Kt) : tl K (lX10_idle) 72 = o_callV fX9_fact 2 9 75 := rfl
theorem aX10_idle_75 (K : Kt) : tl K (lX10_idle) 75 = o_istore 3 76 := rfl
theorem aX10_idle_76 (K : Kt) : tl K (lX10_idle) 76 = o_iinc 4 (nI 1) 79 := rfl
theorem aX10_idle_79 (K : Kt) : tl K (lX10_idle) 79 = o_goto 21 := rfl
theorem aX10_idle_82 (K : Kt) : tl K (lX10_idle) 82 = o_aload 0 83 := rfl
theorem aX10_idle_83 (K : Kt) : tl K (lX10_idle) 83 = o_iload 2 84 := rfl
theorem aX10_idle_84 (K : Kt) : tl K (lX10_idle) 84 = o_pushI (nI 60) 86 := rfl
theorem aX10_idle_86 (K : Kt) : tl K (lX10_idle) 86 = o_iload 3 87 := rfl
theorem aX10_idle_87 (K : Kt) : tl K (lX10_idle) 87 = o_isub 88 := rfl
theorem aX10_idle_88 (K : Kt) : tl K (lX10_idle) 88 = o_pushI (nI 1) 89 := rfl
theorem aX10_idle_89 (K : Kt) : tl K (lX10_idle) 89 = o_isub 90 := rfl
theorem aX10_idle_90 (K : Kt) : tl K (lX10_idle) 90 = o_max 93 := rfl
theorem aX10_idle_93 (K : Kt) : tl K (lX10_idle) 93 = o_callV fX10_answer 1 10 96 := rfl
theorem aX10_idle_96 (K : Kt) : tl K (lX10_idle) 96 = o_iret K := rfl
theorem eX10_gap {As L : List Value} {w : Wd} {K : Kt} (hw : wds As ≤ 5) (hL : ent 5 As = L) (h : RR (tl K lX10_gap) 0 L [] w) : fX10_gap As w K := ⟨hw, by rw [hL]; exact h⟩
theorem nX10_gap : MonoF fX10_gap := mono_f 5 lX10_gap
theorem aX10_gap_0 (K : Kt) : tl K (lX10_gap) 0 = o_aload 0 1 := rfl
theorem aX10_gap_1 (K : Kt) : tl K (lX10_gap) 1 = o_iload 1 2 := rfl
theorem aX10_gap_2 (K : Kt) : tl K (lX10_gap) 2 = o_callV fX10_hasArm 1 10 5 := rfl
theorem aX10_gap_5 (K : Kt) : tl K (lX10_gap) 5 = o_if_ne 14 8 := rfl
theorem aX10_gap_8 (K : Kt) : tl K (lX10_gap) 8 = o_aload 0 9 := rfl
theorem aX10_gap_9 (K : Kt) : tl K (lX10_gap) 9 = o_pushI (nI 1) 10 := rfl
theorem aX10_gap_10 (K : Kt) : tl K (lX10_gap) 10 = o_callV fX10_refuse 1 10 13 := rfl
theorem aX10_gap_13 (K : Kt) : tl K (lX10_gap) 13 = o_iret K := rfl
theorem aX10_gap_14 (K : Kt) : tl K (lX10_gap) 14 = o_pushI (nI 1000000) 17 := rfl
theorem aX10_gap_17 (K : Kt) : tl K (lX10_gap) 17 = o_istore 2 18 := rfl
theorem aX10_gap_18 (K : Kt) : tl K (lX10_gap) 18 = o_pushI ((-1)) 19 := rfl
theorem aX10_gap_19 (K : Kt) : tl K (lX10_gap) 19 = o_istore 3 20 := rfl
theorem aX10_gap_20 (K : Kt) : tl K (lX10_gap) 20 = o_pushI (nI 0) 21 := rfl
theorem aX10_gap_21 (K : Kt) : tl K (lX10_gap) 21 = o_istore 4 23 := rfl
theorem aX10_gap_23 (K : Kt) : tl K (lX10_gap) 23 = o_iload 4 25 := rfl
theorem aX10_gap_25 (K : Kt) : tl K (lX10_gap) 25 = o_aload 0 26 := rfl
theorem aX10_gap_26 (K : Kt) : tl K (lX10_gap) 26 = o_get 10 2 29 := rfl
theorem aX10_gap_29 (K : Kt) : tl K (lX10_gap) 29 = o_get 9 4 32 := rfl
theorem aX10_gap_32 (K : Kt) : tl K (lX10_gap) 32 = o_icmp_ge 80 35 := rfl
theorem aX10_gap_35 (K : Kt) : tl K (lX10_gap) 35 = o_aload 0 36 := rfl
theorem aX10_gap_36 (K : Kt) : tl K (lX10_gap) 36 = o_get 10 3 39 := rfl
theorem aX10_gap_39 (K : Kt) : tl K (lX10_gap) 39 = o_iload 1 40 := rfl
theorem aX10_gap_40 (K : Kt) : tl K (lX10_gap) 40 = o_iload 4 42 := rfl
theorem aX10_gap_42 (K : Kt) : tl K (lX10_gap) 42 = o_callV fX5_has 2 5 45 := rfl
theorem aX10_gap_45 (K : Kt) : tl K (lX10_gap) 45 = o_if_ne 51 48 := rfl
theorem aX10_gap_48 (K : Kt) : tl K (lX10_gap) 48 = o_goto 74 := rfl
theorem aX10_gap_51 (K : Kt) : tl K (lX10_gap) 51 = o_iload 3 52 := rfl
theorem aX10_gap_52 (K : Kt) : tl K (lX10_gap) 52 = o_pushI ((-1)) 53 := rfl
theorem aX10_gap_53 (K : Kt) : tl K (lX10_gap) 53 = o_icmp_eq 71 56 := rfl
theorem aX10_gap_56 (K : Kt) : tl K (lX10_gap) 56 = o_iload 2 57 := rfl
theorem aX10_gap_57 (K : Kt) : tl K (lX10_gap) 57 = o_aload 0 58 := rfl
theorem aX10_gap_58 (K : Kt) : tl K (lX10_gap) 58 = o_get 10 2 61 := rfl
theorem aX10_gap_61 (K : Kt) : tl K (lX10_gap) 61 = o_iload 3 62 := rfl
theorem aX10_gap_62 (K : Kt) : tl K (lX10_gap) 62 = o_iload 4 64 := rfl
theorem aX10_gap_64 (K : Kt) : tl K (lX10_gap) 64 = o_callV fX9_daysFrom 2 9 67 := rfl
theorem aX10_gap_67 (K : Kt) : tl K (lX10_gap) 67 = o_min 70 := rfl
theorem aX10_gap_70 (K : Kt) : tl K (lX10_gap) 70 = o_istore 2 71 := rfl
theorem aX10_gap_71 (K : Kt) : tl K (lX10_gap) 71 = o_iload 4 73 := rfl
theorem aX10_gap_73 (K : Kt) : tl K (lX10_gap) 73 = o_istore 3 74 := rfl
theorem aX10_gap_74 (K : Kt) : tl K (lX10_gap) 74 = o_iinc 4 (nI 1) 77 := rfl
theorem aX10_gap_77 (K : Kt) : tl K (lX10_gap) 77 = o_goto 23 := rfl
theorem aX10_gap_80 (K : Kt) : tl K (lX10_gap) 80 = o_aload 0 81 := rfl
theorem aX10_gap_81 (K : Kt) : tl K (lX10_gap) 81 = o_iload 2 82 := rfl
theorem aX10_gap_82 (K : Kt) : tl K (lX10_gap) 82 = o_pushI (nI 1000000) 85 := rfl
theorem aX10_gap_85 (K : Kt) : tl K (lX10_gap) 85 = o_icmp_ne 93 88 := rfl
theorem aX10_gap_88 (K : Kt) : tl K (lX10_gap) 88 = o_pushI ((-2)) 90 := rfl
theorem aX10_gap_90 (K : Kt) : tl K (lX10_gap) 90 = o_goto 94 := rfl
theorem aX10_gap_93 (K : Kt) : tl K (lX10_gap) 93 = o_iload 2 94 := rfl
theorem aX10_gap_94 (K : Kt) : tl K (lX10_gap) 94 = o_callV fX10_answer 1 10 97 := rfl
theorem aX10_gap_97 (K : Kt) : tl K (lX10_gap) 97 = o_iret K := rfl
theorem eX10_hands {As L : List Value} {w : Wd} {K : Kt} (hw : wds As ≤ 6) (hL : ent 6 As = L) (h : RR (tl K lX10_hands) 0 L [] w) : fX10_hands As w K := ⟨hw, by rw [hL]; exact h⟩
theorem nX10_hands : MonoF fX10_hands := mono_f 6 lX10_hands
theorem aX10_hands_0 (K : Kt) : tl K (lX10_hands) 0 = o_aload 0 1 := rfl
theorem aX10_hands_1 (K : Kt) : tl K (lX10_hands) 1 = o_iload 1 2 := rfl
theorem aX10_hands_2 (K : Kt) : tl K (lX10_hands) 2 = o_callV fX10_hasGame 1 10 5 := rfl
theorem aX10_hands_5 (K : Kt) : tl K (lX10_hands) 5 = o_if_ne 14 8 := rfl
theorem aX10_hands_8 (K : Kt) : tl K (lX10_hands) 8 = o_aload 0 9 := rfl
theorem aX10_hands_9 (K : Kt) : tl K (lX10_hands) 9 = o_pushI (nI 1) 10 := rfl
theorem aX10_hands_10 (K : Kt) : tl K (lX10_hands) 10 = o_callV fX10_refuse 1 10 13 := rfl
theorem aX10_hands_13 (K : Kt) : tl K (lX10_hands) 13 = o_iret K := rfl
theorem aX10_hands_14 (K : Kt) : tl K (lX10_hands) 14 = o_pushI (nI 0) 15 := rfl
theorem aX10_hands_15 (K : Kt) : tl K (lX10_hands) 15 = o_istore 3 16 := rfl
theorem aX10_hands_16 (K : Kt) : tl K (lX10_hands) 16 = o_pushI (nI 0) 17 := rfl
theorem aX10_hands_17 (K : Kt) : tl K (lX10_hands) 17 = o_istore 4 19 := rfl
theorem aX10_hands_19 (K : Kt) : tl K (lX10_hands) 19 = o_iload 4 21 := rfl
theorem aX10_hands_21 (K : Kt) : tl K (lX10_hands) 21 = o_aload 0 22 := rfl
theorem aX10_hands_22 (K : Kt) : tl K (lX10_hands) 22 = o_get 10 3 25 := rfl
theorem aX10_hands_25 (K : Kt) : tl K (lX10_hands) 25 = o_get 5 0 28 := rfl
theorem aX10_hands_28 (K : Kt) : tl K (lX10_hands) 28 = o_iload 1 29 := rfl
theorem aX10_hands_29 (K : Kt) : tl K (lX10_hands) 29 = o_iald 30 := rfl
theorem aX10_hands_30 (K : Kt) : tl K (lX10_hands) 30 = o_icmp_ge 87 33 := rfl
theorem aX10_hands_33 (K : Kt) : tl K (lX10_hands) 33 = o_aload 0 34 := rfl
theorem aX10_hands_34 (K : Kt) : tl K (lX10_hands) 34 = o_get 10 2 37 := rfl
theorem aX10_hands_37 (K : Kt) : tl K (lX10_hands) 37 = o_get 9 2 40 := rfl
theorem aX10_hands_40 (K : Kt) : tl K (lX10_hands) 40 = o_aload 0 41 := rfl
theorem aX10_hands_41 (K : Kt) : tl K (lX10_hands) 41 = o_get 10 3 44 := rfl
theorem aX10_hands_44 (K : Kt) : tl K (lX10_hands) 44 = o_iload 1 45 := rfl
theorem aX10_hands_45 (K : Kt) : tl K (lX10_hands) 45 = o_iload 4 47 := rfl
theorem aX10_hands_47 (K : Kt) : tl K (lX10_hands) 47 = o_callV fX5_armAt 2 5 50 := rfl
theorem aX10_hands_50 (K : Kt) : tl K (lX10_hands) 50 = o_iald 51 := rfl
theorem aX10_hands_51 (K : Kt) : tl K (lX10_hands) 51 = o_pushI (nI 1) 52 := rfl
theorem aX10_hands_52 (K : Kt) : tl K (lX10_hands) 52 = o_icmp_ne 59 55 := rfl
theorem aX10_hands_55 (K : Kt) : tl K (lX10_hands) 55 = o_pushI (nI 1) 56 := rfl
theorem aX10_hands_56 (K : Kt) : tl K (lX10_hands) 56 = o_goto 60 := rfl
theorem aX10_hands_59 (K : Kt) : tl K (lX10_hands) 59 = o_pushI (nI 0) 60 := rfl
theorem aX10_hands_60 (K : Kt) : tl K (lX10_hands) 60 = o_istore 5 62 := rfl
theorem aX10_hands_62 (K : Kt) : tl K (lX10_hands) 62 = o_iload 5 64 := rfl
theorem aX10_hands_64 (K : Kt) : tl K (lX10_hands) 64 = o_iload 2 65 := rfl
theorem aX10_hands_65 (K : Kt) : tl K (lX10_hands) 65 = o_icmp_ne 81 68 := rfl
theorem aX10_hands_68 (K : Kt) : tl K (lX10_hands) 68 = o_iload 3 69 := rfl
theorem aX10_hands_69 (K : Kt) : tl K (lX10_hands) 69 = o_aload 0 70 := rfl
theorem aX10_hands_70 (K : Kt) : tl K (lX10_hands) 70 = o_get 10 3 73 := rfl
theorem aX10_hands_73 (K : Kt) : tl K (lX10_hands) 73 = o_iload 1 74 := rfl
theorem aX10_hands_74 (K : Kt) : tl K (lX10_hands) 74 = o_iload 4 76 := rfl
theorem aX10_hands_76 (K : Kt) : tl K (lX10_hands) 76 = o_callV fX5_throwsAt 2 5 79 := rfl
theorem aX10_hands_79 (K : Kt) : tl K (lX10_hands) 79 = o_iadd 80 := rfl
theorem aX10_hands_80 (K : Kt) : tl K (lX10_hands) 80 = o_istore 3 81 := rfl
theorem aX10_hands_81 (K : Kt) : tl K (lX10_hands) 81 = o_iinc 4 (nI 1) 84 := rfl
theorem aX10_hands_84 (K : Kt) : tl K (lX10_hands) 84 = o_goto 19 := rfl
theorem aX10_hands_87 (K : Kt) : tl K (lX10_hands) 87 = o_aload 0 88 := rfl
theorem aX10_hands_88 (K : Kt) : tl K (lX10_hands) 88 = o_iload 3 89 := rfl
theorem aX10_hands_89 (K : Kt) : tl K (lX10_hands) 89 = o_callV fX10_answer 1 10 92 := rfl
theorem aX10_hands_92 (K : Kt) : tl K (lX10_hands) 92 = o_iret K := rfl
theorem eX10_bare {As L : List Value} {w : Wd} {K : Kt} (hw : wds As ≤ 4) (hL : ent 4 As = L) (h : RR (tl K lX10_bare) 0 L [] w) : fX10_bare As w K := ⟨hw, by rw [hL]; exact h⟩
theorem nX10_bare : MonoF fX10_bare := mono_f 4 lX10_bare
theorem aX10_bare_0 (K : Kt) : tl K (lX10_bare) 0 = o_aload 0 1 := rfl
theorem aX10_bare_1 (K : Kt) : tl K (lX10_bare) 1 = o_callV fX10_hasText 0 10 4 := rfl
theorem aX10_bare_4 (K : Kt) : tl K (lX10_bare) 4 = o_if_eq 11 7 := rfl
theorem aX10_bare_7 (K : Kt) : tl K (lX10_bare) 7 = o_iload 1 8 := rfl
theorem aX10_bare_8 (K : Kt) : tl K (lX10_bare) 8 = o_if_ge 17 11 := rfl
theorem aX10_bare_11 (K : Kt) : tl K (lX10_bare) 11 = o_aload 0 12 := rfl
theorem aX10_bare_12 (K : Kt) : tl K (lX10_bare) 12 = o_pushI (nI 1) 13 := rfl
theorem aX10_bare_13 (K : Kt) : tl K (lX10_bare) 13 = o_callV fX10_refuse 1 10 16 := rfl
theorem aX10_bare_16 (K : Kt) : tl K (lX10_bare) 16 = o_iret K := rfl
theorem aX10_bare_17 (K : Kt) : tl K (lX10_bare) 17 = o_pushI (nI 0) 18 := rfl
theorem aX10_bare_18 (K : Kt) : tl K (lX10_bare) 18 = o_istore 2 19 := rfl
theorem aX10_bare_19 (K : Kt) : tl K (lX10_bare) 19 = o_pushI (nI 0) 20 := rfl
theorem aX10_bare_20 (K : Kt) : tl K (lX10_bare) 20 = o_istore 3 21 := rfl
theorem aX10_bare_21 (K : Kt) : tl K (lX10_bare) 21 = o_iload 3 22 := rfl
theorem aX10_bare_22 (K : Kt) : tl K (lX10_bare) 22 = o_aload 0 23 := rfl
theorem aX10_bare_23 (K : Kt) : tl K (lX10_bare) 23 = o_get 10 2 26 := rfl
theorem aX10_bare_26 (K : Kt) : tl K (lX10_bare) 26 = o_get 9 4 29 := rfl
theorem aX10_bare_29 (K : Kt) : tl K (lX10_bare) 29 = o_icmp_ge 67 32 := rfl
theorem aX10_bare_32 (K : Kt) : tl K (lX10_bare) 32 = o_aload 0 33 := rfl
theorem aX10_bare_33 (K : Kt) : tl K (lX10_bare) 33 = o_get 10 3 36 := rfl
theorem aX10_bare_36 (K : Kt) : tl K (lX10_bare) 36 = o_get 5 0 39 := rfl
theorem aX10_bare_39 (K : Kt) : tl K (lX10_bare) 39 = o_iload 3 40 := rfl
theorem aX10_bare_40 (K : Kt) : tl K (lX10_bare) 40 = o_iald 41 := rfl
theorem aX10_bare_41 (K : Kt) : tl K (lX10_bare) 41 = o_if_le 47 44 := rfl
theorem aX10_bare_44 (K : Kt) : tl K (lX10_bare) 44 = o_goto 61 := rfl
theorem aX10_bare_47 (K : Kt) : tl K (lX10_bare) 47 = o_iload 2 48 := rfl
theorem aX10_bare_48 (K : Kt) : tl K (lX10_bare) 48 = o_iload 1 49 := rfl
theorem aX10_bare_49 (K : Kt) : tl K (lX10_bare) 49 = o_icmp_ne 58 52 := rfl
theorem aX10_bare_52 (K : Kt) : tl K (lX10_bare) 52 = o_aload 0 53 := rfl
theorem aX10_bare_53 (K : Kt) : tl K (lX10_bare) 53 = o_iload 3 54 := rfl
theorem aX10_bare_54 (K : Kt) : tl K (lX10_bare) 54 = o_callV fX10_answer 1 10 57 := rfl
theorem aX10_bare_57 (K : Kt) : tl K (lX10_bare) 57 = o_iret K := rfl
theorem aX10_bare_58 (K : Kt) : tl K (lX10_bare) 58 = o_iinc 2 (nI 1) 61 := rfl
theorem aX10_bare_61 (K : Kt) : tl K (lX10_bare) 61 = o_iinc 3 (nI 1) 64 := rfl
theorem aX10_bare_64 (K : Kt) : tl K (lX10_bare) 64 = o_goto 21 := rfl
theorem aX10_bare_67 (K : Kt) : tl K (lX10_bare) 67 = o_aload 0 68 := rfl
theorem aX10_bare_68 (K : Kt) : tl K (lX10_bare) 68 = o_pushI ((-2)) 70 := rfl
theorem aX10_bare_70 (K : Kt) : tl K (lX10_bare) 70 = o_callV fX10_answer 1 10 73 := rfl
theorem aX10_bare_73 (K : Kt) : tl K (lX10_bare) 73 = o_iret K := rfl
theorem eX10_risk {As L : List Value} {w : Wd} {K : Kt} (hw : wds As ≤ 4) (hL : ent 4 As = L) (h : RR (tl K lX10_risk) 0 L [] w) : fX10_risk As w K := ⟨hw, by rw [hL]; exact h⟩
theorem nX10_risk : MonoF fX10_risk := mono_f 4 lX10_risk
theorem aX10_risk_0 (K : Kt) : tl K (lX10_risk) 0 = o_aload 0 1 := rfl
theorem aX10_risk_1 (K : Kt) : tl K (lX10_risk) 1 = o_iload 1 2 := rfl
theorem aX10_risk_2 (K : Kt) : tl K (lX10_risk) 2 = o_callV fX10_hasArm 1 10 5 := rfl
theorem aX10_risk_5 (K : Kt) : tl K (lX10_risk) 5 = o_if_ne 14 8 := rfl
theorem aX10_risk_8 (K : Kt) : tl K (lX10_risk) 8 = o_aload 0 9 := rfl
theorem aX10_risk_9 (K : Kt) : tl K (lX10_risk) 9 = o_pushI (nI 1) 10 := rfl
theorem aX10_risk_10 (K : Kt) : tl K (lX10_risk) 10 = o_callV fX10_refuse 1 10 13 := rfl
theorem aX10_risk_13 (K : Kt) : tl K (lX10_risk) 13 = o_iret K := rfl
theorem aX10_risk_14 (K : Kt) : tl K (lX10_risk) 14 = o_pushI (nI 0) 15 := rfl
theorem aX10_risk_15 (K : Kt) : tl K (lX10_risk) 15 = o_istore 2 16 := rfl
theorem aX10_risk_16 (K : Kt) : tl K (lX10_risk) 16 = o_pushI (nI 0) 17 := rfl
theorem aX10_risk_17 (K : Kt) : tl K (lX10_risk) 17 = o_istore 3 18 := rfl
theorem aX10_risk_18 (K : Kt) : tl K (lX10_risk) 18 = o_iload 3 19 := rfl
theorem aX10_risk_19 (K : Kt) : tl K (lX10_risk) 19 = o_aload 0 20 := rfl
theorem aX10_risk_20 (K : Kt) : tl K (lX10_risk) 20 = o_get 10 2 23 := rfl
theorem aX10_risk_23 (K : Kt) : tl K (lX10_risk) 23 = o_get 9 4 26 := rfl
theorem aX10_risk_26 (K : Kt) : tl K (lX10_risk) 26 = o_icmp_ge 55 29 := rfl
theorem aX10_risk_29 (K : Kt) : tl K (lX10_risk) 29 = o_iload 2 30 := rfl
theorem aX10_risk_30 (K : Kt) : tl K (lX10_risk) 30 = o_aload 0 31 := rfl
theorem aX10_risk_31 (K : Kt) : tl K (lX10_risk) 31 = o_get 10 4 34 := rfl
theorem aX10_risk_34 (K : Kt) : tl K (lX10_risk) 34 = o_iload 1 35 := rfl
theorem aX10_risk_35 (K : Kt) : tl K (lX10_risk) 35 = o_aload 0 36 := rfl
theorem aX10_risk_36 (K : Kt) : tl K (lX10_risk) 36 = o_get 10 3 39 := rfl
theorem aX10_risk_39 (K : Kt) : tl K (lX10_risk) 39 = o_iload 1 40 := rfl
theorem aX10_risk_40 (K : Kt) : tl K (lX10_risk) 40 = o_iload 3 41 := rfl
theorem aX10_risk_41 (K : Kt) : tl K (lX10_risk) 41 = o_callV fX5_loadOf 2 5 44 := rfl
theorem aX10_risk_44 (K : Kt) : tl K (lX10_risk) 44 = o_callV fX1_riskOf 2 1 47 := rfl
theorem aX10_risk_47 (K : Kt) : tl K (lX10_risk) 47 = o_iadd 48 := rfl
theorem aX10_risk_48 (K : Kt) : tl K (lX10_risk) 48 = o_istore 2 49 := rfl
theorem aX10_risk_49 (K : Kt) : tl K (lX10_risk) 49 = o_iinc 3 (nI 1) 52 := rfl
theorem aX10_risk_52 (K : Kt) : tl K (lX10_risk) 52 = o_goto 18 := rfl
theorem aX10_risk_55 (K : Kt) : tl K (lX10_risk) 55 = o_aload 0 56 := rfl
theorem aX10_risk_56 (K : Kt) : tl K (lX10_risk) 56 = o_iload 2 57 := rfl
theorem aX10_risk_57 (K : Kt) : tl K (lX10_risk) 57 = o_callV fX10_answer 1 10 60 := rfl
theorem aX10_risk_60 (K : Kt) : tl K (lX10_risk) 60 = o_iret K := rfl
theorem eX10_commonDivisor {As L : List Value} {w : Wd} {K : Kt} (hw : wds As ≤ 7) (hL : ent 7 As = L) (h : RR (tl K lX10_commonDivisor) 0 L [] w) : fX10_commonDivisor As w K := ⟨hw, by rw [hL]; exact h⟩
theorem nX10_commonDivisor : MonoF fX10_commonDivisor := mono_f 7 lX10_commonDivisor
theorem aX10_commonDivisor_0 (K : Kt) : tl K (lX10_commonDivisor) 0 = o_pushI (nI 0) 1 := rfl
theorem aX10_commonDivisor_1 (K : Kt) : tl K (lX10_commonDivisor) 1 = o_istore 4 3 := rfl
theorem aX10_commonDivisor_3 (K : Kt) : tl K (lX10_commonDivisor) 3 = o_iload 4 5 := rfl
theorem aX10_commonDivisor_5 (K : Kt) : tl K (lX10_commonDivisor) 5 = o_pushI (nI 100) 7 := rfl
theorem aX10_commonDivisor_7 (K : Kt) : tl K (lX10_commonDivisor) 7 = o_icmp_ge 32 10 := rfl
theorem aX10_commonDivisor_10 (K : Kt) : tl K (lX10_commonDivisor) 10 = o_lload 2 11 := rfl
theorem aX10_commonDivisor_11 (K : Kt) : tl K (lX10_commonDivisor) 11 = o_pushL (lN 0) 12 := rfl
theorem aX10_commonDivisor_12 (K : Kt) : tl K (lX10_commonDivisor) 12 = o_lcmp 13 := rfl
theorem aX10_commonDivisor_13 (K : Kt) : tl K (lX10_commonDivisor) 13 = o_if_eq 32 16 := rfl
theorem aX10_commonDivisor_16 (K : Kt) : tl K (lX10_commonDivisor) 16 = o_lload 0 17 := rfl
theorem aX10_commonDivisor_17 (K : Kt) : tl K (lX10_commonDivisor) 17 = o_lload 2 18 := rfl
theorem aX10_commonDivisor_18 (K : Kt) : tl K (lX10_commonDivisor) 18 = o_lrem 19 := rfl
theorem aX10_commonDivisor_19 (K : Kt) : tl K (lX10_commonDivisor) 19 = o_lstore 5 21 := rfl
theorem aX10_commonDivisor_21 (K : Kt) : tl K (lX10_commonDivisor) 21 = o_lload 2 22 := rfl
theorem aX10_commonDivisor_22 (K : Kt) : tl K (lX10_commonDivisor) 22 = o_lstore 0 23 := rfl
theorem aX10_commonDivisor_23 (K : Kt) : tl K (lX10_commonDivisor) 23 = o_lload 5 25 := rfl
theorem aX10_commonDivisor_25 (K : Kt) : tl K (lX10_commonDivisor) 25 = o_lstore 2 26 := rfl
theorem aX10_commonDivisor_26 (K : Kt) : tl K (lX10_commonDivisor) 26 = o_iinc 4 (nI 1) 29 := rfl
theorem aX10_commonDivisor_29 (K : Kt) : tl K (lX10_commonDivisor) 29 = o_goto 3 := rfl
theorem aX10_commonDivisor_32 (K : Kt) : tl K (lX10_commonDivisor) 32 = o_lload 0 33 := rfl
theorem aX10_commonDivisor_33 (K : Kt) : tl K (lX10_commonDivisor) 33 = o_lret K := rfl
theorem eX10_sound {As L : List Value} {w : Wd} {K : Kt} (hw : wds As ≤ 11) (hL : ent 11 As = L) (h : RR (tl K lX10_sound) 0 L [] w) : fX10_sound As w K := ⟨hw, by rw [hL]; exact h⟩
theorem nX10_sound : MonoF fX10_sound := mono_f 11 lX10_sound
theorem aX10_sound_0 (K : Kt) : tl K (lX10_sound) 0 = o_aload 0 1 := rfl
theorem aX10_sound_1 (K : Kt) : tl K (lX10_sound) 1 = o_iload 1 2 := rfl
theorem aX10_sound_2 (K : Kt) : tl K (lX10_sound) 2 = o_callV fX10_hasArm 1 10 5 := rfl
theorem aX10_sound_5 (K : Kt) : tl K (lX10_sound) 5 = o_if_eq 17 8 := rfl
theorem aX10_sound_8 (K : Kt) : tl K (lX10_sound) 8 = o_iload 2 9 := rfl
theorem aX10_sound_9 (K : Kt) : tl K (lX10_sound) 9 = o_pushI (nI 0) 10 := rfl
theorem aX10_sound_10 (K : Kt) : tl K (lX10_sound) 10 = o_pushI (nI 1) 11 := rfl
theorem aX10_sound_11 (K : Kt) : tl K (lX10_sound) 11 = o_callS fX10_within 3 14 := rfl
theorem aX10_sound_14 (K : Kt) : tl K (lX10_sound) 14 = o_if_ne 24 17 := rfl
theorem aX10_sound_17 (K : Kt) : tl K (lX10_sound) 17 = o_aload 0 18 := rfl
theorem aX10_sound_18 (K : Kt) : tl K (lX10_sound) 18 = o_pushI (nI 1) 19 := rfl
theorem aX10_sound_19 (K : Kt) : tl K (lX10_sound) 19 = o_callV fX10_refuse 1 10 22 := rfl
theorem aX10_sound_22 (K : Kt) : tl K (lX10_sound) 22 = o_i2l 23 := rfl
theorem aX10_sound_23 (K : Kt) : tl K (lX10_sound) 23 = o_lret K := rfl
theorem aX10_sound_24 (K : Kt) : tl K (lX10_sound) 24 = o_aload 0 25 := rfl
theorem aX10_sound_25 (K : Kt) : tl K (lX10_sound) 25 = o_get 10 4 28 := rfl
theorem aX10_sound_28 (K : Kt) : tl K (lX10_sound) 28 = o_iload 1 29 := rfl
theorem aX10_sound_29 (K : Kt) : tl K (lX10_sound) 29 = o_callV fX1_outingsOfArm 1 1 32 := rfl
theorem aX10_sound_32 (K : Kt) : tl K (lX10_sound) 32 = o_pushI (nI 6) 34 := rfl
theorem aX10_sound_34 (K : Kt) : tl K (lX10_sound) 34 = o_icmp_le 44 37 := rfl
theorem aX10_sound_37 (K : Kt) : tl K (lX10_sound) 37 = o_aload 0 38 := rfl
theorem aX10_sound_38 (K : Kt) : tl K (lX10_sound) 38 = o_pushI (nI 5) 39 := rfl
theorem aX10_sound_39 (K : Kt) : tl K (lX10_sound) 39 = o_callV fX10_refuse 1 10 42 := rfl
theorem aX10_sound_42 (K : Kt) : tl K (lX10_sound) 42 = o_i2l 43 := rfl
theorem aX10_sound_43 (K : Kt) : tl K (lX10_sound) 43 = o_lret K := rfl
theorem aX10_sound_44 (K : Kt) : tl K (lX10_sound) 44 = o_aload 0 45 := rfl
theorem aX10_sound_45 (K : Kt) : tl K (lX10_sound) 45 = o_pushI (nI 0) 46 := rfl
theorem aX10_sound_46 (K : Kt) : tl K (lX10_sound) 46 = o_callV fX10_answer 1 10 49 := rfl
theorem aX10_sound_49 (K : Kt) : tl K (lX10_sound) 49 = o_pop 50 := rfl
theorem aX10_sound_50 (K : Kt) : tl K (lX10_sound) 50 = o_pushL (lN 1) 51 := rfl
theorem aX10_sound_51 (K : Kt) : tl K (lX10_sound) 51 = o_lstore 3 52 := rfl
theorem aX10_sound_52 (K : Kt) : tl K (lX10_sound) 52 = o_pushL (lN 1) 53 := rfl
theorem aX10_sound_53 (K : Kt) : tl K (lX10_sound) 53 = o_lstore 5 55 := rfl
theorem aX10_sound_55 (K : Kt) : tl K (lX10_sound) 55 = o_pushI (nI 0) 56 := rfl
theorem aX10_sound_56 (K : Kt) : tl K (lX10_sound) 56 = o_istore 7 58 := rfl
theorem aX10_sound_58 (K : Kt) : tl K (lX10_sound) 58 = o_iload 7 60 := rfl
theorem aX10_sound_60 (K : Kt) : tl K (lX10_sound) 60 = o_aload 0 61 := rfl
theorem aX10_sound_61 (K : Kt) : tl K (lX10_sound) 61 = o_get 10 2 64 := rfl
theorem aX10_sound_64 (K : Kt) : tl K (lX10_sound) 64 = o_get 9 4 67 := rfl
theorem aX10_sound_67 (K : Kt) : tl K (lX10_sound) 67 = o_icmp_ge 127 70 := rfl
theorem aX10_sound_70 (K : Kt) : tl K (lX10_sound) 70 = o_aload 0 71 := rfl
theorem aX10_sound_71 (K : Kt) : tl K (lX10_sound) 71 = o_get 10 3 74 := rfl
theorem aX10_sound_74 (K : Kt) : tl K (lX10_sound) 74 = o_iload 1 75 := rfl
theorem aX10_sound_75 (K : Kt) : tl K (lX10_sound) 75 = o_iload 7 77 := rfl
theorem aX10_sound_77 (K : Kt) : tl K (lX10_sound) 77 = o_callV fX5_has 2 5 80 := rfl
theorem aX10_sound_80 (K : Kt) : tl K (lX10_sound) 80 = o_if_eq 121 83 := rfl
theorem aX10_sound_83 (K : Kt) : tl K (lX10_sound) 83 = o_lload 3 84 := rfl
theorem aX10_sound_84 (K : Kt) : tl K (lX10_sound) 84 = o_pushI (nI 0) 85 := rfl
theorem aX10_sound_85 (K : Kt) : tl K (lX10_sound) 85 = o_pushI (nI 1000) 88 := rfl
theorem aX10_sound_88 (K : Kt) : tl K (lX10_sound) 88 = o_aload 0 89 := rfl
theorem aX10_sound_89 (K : Kt) : tl K (lX10_sound) 89 = o_get 10 4 92 := rfl
theorem aX10_sound_92 (K : Kt) : tl K (lX10_sound) 92 = o_iload 1 93 := rfl
theorem aX10_sound_93 (K : Kt) : tl K (lX10_sound) 93 = o_aload 0 94 := rfl
theorem aX10_sound_94 (K : Kt) : tl K (lX10_sound) 94 = o_get 10 3 97 := rfl
theorem aX10_sound_97 (K : Kt) : tl K (lX10_sound) 97 = o_iload 1 98 := rfl
theorem aX10_sound_98 (K : Kt) : tl K (lX10_sound) 98 = o_iload 7 100 := rfl
theorem aX10_sound_100 (K : Kt) : tl K (lX10_sound) 100 = o_callV fX5_loadOf 2 5 103 := rfl
theorem aX10_sound_103 (K : Kt) : tl K (lX10_sound) 103 = o_callV fX1_riskOf 2 1 106 := rfl
theorem aX10_sound_106 (K : Kt) : tl K (lX10_sound) 106 = o_isub 107 := rfl
theorem aX10_sound_107 (K : Kt) : tl K (lX10_sound) 107 = o_max 110 := rfl
theorem aX10_sound_110 (K : Kt) : tl K (lX10_sound) 110 = o_i2l 111 := rfl
set_option maxRecDepth 8000 in
theorem aX10_sound_111 (K : Kt) : tl K (lX10_sound) 111 = o_lmul 112 := rfl
set_option maxRecDepth 8000 in
theorem aX10_sound_112 (K : Kt) : tl K (lX10_sound) 112 = o_lstore 3 113 := rfl
set_option maxRecDepth 8000 in
theorem aX10_sound_113 (K : Kt) : tl K (lX10_sound) 113 = o_lload 5 115 := rfl
set_option maxRecDepth 8000 in
theorem aX10_sound_115 (K : Kt) : tl K (lX10_sound) 115 = o_pushL (lN 1000) 118 := rfl
set_option maxRecDepth 8000 in
theorem aX10_sound_118 (K : Kt) : tl K (lX10_sound) 118 = o_lmul 119 := rfl
set_option maxRecDepth 8000 in
theorem aX10_sound_119 (K : Kt) : tl K (lX10_sound) 119 = o_lstore 5 121 := rfl
set_option maxRecDepth 8000 in
theorem aX10_sound_121 (K : Kt) : tl K (lX10_sound) 121 = o_iinc 7 (nI 1) 124 := rfl
set_option maxRecDepth 8000 in
theorem aX10_sound_124 (K : Kt) : tl K (lX10_sound) 124 = o_goto 58 := rfl
set_option maxRecDepth 8000 in
theorem aX10_sound_127 (K : Kt) : tl K (lX10_sound) 127 = o_lload 3 128 := rfl
set_option maxRecDepth 8000 in
theorem aX10_sound_128 (K : Kt) : tl K (lX10_sound) 128 = o_lload 5 130 := rfl
set_option maxRecDepth 8000 in
theorem aX10_sound_130 (K : Kt) : tl K (lX10_sound) 130 = o_callS fX10_commonDivisor 2 133 := rfl
set_option maxRecDepth 8000 in
theorem aX10_sound_133 (K : Kt) : tl K (lX10_sound) 133 = o_lstore 7 135 := rfl
set_option maxRecDepth 8000 in
theorem aX10_sound_135 (K : Kt) : tl K (lX10_sound) 135 = o_iload 2 136 := rfl
set_option maxRecDepth 8000 in
theorem aX10_sound_136 (K : Kt) : tl K (lX10_sound) 136 = o_if_ne 143 139 := rfl
set_option maxRecDepth 8000 in
theorem aX10_sound_139 (K : Kt) : tl K (lX10_sound) 139 = o_lload 3 140 := rfl
set_option maxRecDepth 8000 in
theorem aX10_sound_140 (K : Kt) : tl K (lX10_sound) 140 = o_goto 145 := rfl
set_option maxRecDepth 8000 in
theorem aX10_sound_143 (K : Kt) : tl K (lX10_sound) 143 = o_lload 5 145 := rfl
set_option maxRecDepth 8000 in
theorem aX10_sound_145 (K : Kt) : tl K (lX10_sound) 145 = o_lstore 9 147 := rfl
set_option maxRecDepth 8000 in
theorem aX10_sound_147 (K : Kt) : tl K (lX10_sound) 147 = o_lload 7 149 := rfl
set_option maxRecDepth 8000 in
theorem aX10_sound_149 (K : Kt) : tl K (lX10_sound) 149 = o_pushL (lN 1) 150 := rfl
set_option maxRecDepth 8000 in
theorem aX10_sound_150 (K : Kt) : tl K (lX10_sound) 150 = o_lcmp 151 := rfl
set_option maxRecDepth 8000 in
theorem aX10_sound_151 (K : Kt) : tl K (lX10_sound) 151 = o_if_le 162 154 := rfl
set_option maxRecDepth 8000 in
theorem aX10_sound_154 (K : Kt) : tl K (lX10_sound) 154 = o_lload 9 156 := rfl
set_option maxRecDepth 8000 in
theorem aX10_sound_156 (K : Kt) : tl K (lX10_sound) 156 = o_lload 7 158 := rfl
set_option maxRecDepth 8000 in
theorem aX10_sound_158 (K : Kt) : tl K (lX10_sound) 158 = o_ldiv 159 := rfl
set_option maxRecDepth 8000 in
theorem aX10_sound_159 (K : Kt) : tl K (lX10_sound) 159 = o_goto 164 := rfl
set_option maxRecDepth 8000 in
theorem aX10_sound_162 (K : Kt) : tl K (lX10_sound) 162 = o_lload 9 164 := rfl
set_option maxRecDepth 8000 in
theorem aX10_sound_164 (K : Kt) : tl K (lX10_sound) 164 = o_lret K := rfl
theorem eX10_tellSeason {As L : List Value} {w : Wd} {K : Kt} (hw : wds As ≤ 2) (hL : ent 2 As = L) (h : RR (tl K lX10_tellSeason) 0 L [] w) : fX10_tellSeason As w K := ⟨hw, by rw [hL]; exact h⟩
theorem nX10_tellSeason : MonoF fX10_tellSeason := mono_f 2 lX10_tellSeason
theorem aX10_tellSeason_0 (K : Kt) : tl K (lX10_tellSeason) 0 = o_iload 1 1 := rfl
theorem aX10_tellSeason_1 (K : Kt) : tl K (lX10_tellSeason) 1 = o_table 0 3 64 [32, 40, 48, 56] := rfl
theorem aX10_tellSeason_32 (K : Kt) : tl K (lX10_tellSeason) 32 = o_aload 0 33 := rfl
theorem aX10_tellSeason_33 (K : Kt) : tl K (lX10_tellSeason) 33 = o_get 10 8 36 := rfl
theorem aX10_tellSeason_36 (K : Kt) : tl K (lX10_tellSeason) 36 = o_get 7 3 39 := rfl
theorem aX10_tellSeason_39 (K : Kt) : tl K (lX10_tellSeason) 39 = o_iret K := rfl
theorem aX10_tellSeason_40 (K : Kt) : tl K (lX10_tellSeason) 40 = o_aload 0 41 := rfl
theorem aX10_tellSeason_41 (K : Kt) : tl K (lX10_tellSeason) 41 = o_get 10 8 44 := rfl
theorem aX10_tellSeason_44 (K : Kt) : tl K (lX10_tellSeason) 44 = o_get 7 4 47 := rfl
theorem aX10_tellSeason_47 (K : Kt) : tl K (lX10_tellSeason) 47 = o_iret K := rfl
theorem aX10_tellSeason_48 (K : Kt) : tl K (lX10_tellSeason) 48 = o_aload 0 49 := rfl
theorem aX10_tellSeason_49 (K : Kt) : tl K (lX10_tellSeason) 49 = o_get 10 8 52 := rfl
theorem aX10_tellSeason_52 (K : Kt) : tl K (lX10_tellSeason) 52 = o_get 7 5 55 := rfl
theorem aX10_tellSeason_55 (K : Kt) : tl K (lX10_tellSeason) 55 = o_iret K := rfl
theorem aX10_tellSeason_56 (K : Kt) : tl K (lX10_tellSeason) 56 = o_aload 0 57 := rfl
theorem aX10_tellSeason_57 (K : Kt) : tl K (lX10_tellSeason) 57 = o_get 10 8 60 := rfl
theorem aX10_tellSeason_60 (K : Kt) : tl K (lX10_tellSeason) 60 = o_get 7 6 63 := rfl
theorem aX10_tellSeason_63 (K : Kt) : tl K (lX10_tellSeason) 63 = o_iret K := rfl
theorem aX10_tellSeason_64 (K : Kt) : tl K (lX10_tellSeason) 64 = o_aload 0 65 := rfl
theorem aX10_tellSeason_65 (K : Kt) : tl K (lX10_tellSeason) 65 = o_get 10 8 68 := rfl
theorem aX10_tellSeason_68 (K : Kt) : tl K (lX10_tellSeason) 68 = o_get 7 7 71 := rfl
theorem aX10_tellSeason_71 (K : Kt) : tl K (lX10_tellSeason) 71 = o_iret K := rfl
theorem eX10_season {As L : List Value} {w : Wd} {K : Kt} (hw : wds As ≤ 3) (hL : ent 3 As = L) (h : RR (tl K lX10_season) 0 L [] w) : fX10_season As w K := ⟨hw, by rw [hL]; exact h⟩
theorem nX10_season : MonoF fX10_season := mono_f 3 lX10_season
theorem aX10_season_0 (K : Kt) : tl K (lX10_season) 0 = o_aload 0 1 := rfl
theorem aX10_season_1 (K : Kt) : tl K (lX10_season) 1 = o_callV fX10_hasText 0 10 4 := rfl
theorem aX10_season_4 (K : Kt) : tl K (lX10_season) 4 = o_if_eq 16 7 := rfl
theorem aX10_season_7 (K : Kt) : tl K (lX10_season) 7 = o_iload 2 8 := rfl
theorem aX10_season_8 (K : Kt) : tl K (lX10_season) 8 = o_pushI (nI 0) 9 := rfl
theorem aX10_season_9 (K : Kt) : tl K (lX10_season) 9 = o_pushI (nI 4) 10 := rfl
theorem aX10_season_10 (K : Kt) : tl K (lX10_season) 10 = o_callS fX10_within 3 13 := rfl
theorem aX10_season_13 (K : Kt) : tl K (lX10_season) 13 = o_if_ne 22 16 := rfl
theorem aX10_season_16 (K : Kt) : tl K (lX10_season) 16 = o_aload 0 17 := rfl
theorem aX10_season_17 (K : Kt) : tl K (lX10_season) 17 = o_pushI (nI 1) 18 := rfl
theorem aX10_season_18 (K : Kt) : tl K (lX10_season) 18 = o_callV fX10_refuse 1 10 21 := rfl
theorem aX10_season_21 (K : Kt) : tl K (lX10_season) 21 = o_iret K := rfl
theorem aX10_season_22 (K : Kt) : tl K (lX10_season) 22 = o_iload 1 23 := rfl
theorem aX10_season_23 (K : Kt) : tl K (lX10_season) 23 = o_pushI (nI 1) 24 := rfl
theorem aX10_season_24 (K : Kt) : tl K (lX10_season) 24 = o_pushI (nI 2147483646) 27 := rfl
theorem aX10_season_27 (K : Kt) : tl K (lX10_season) 27 = o_callS fX10_within 3 30 := rfl
theorem aX10_season_30 (K : Kt) : tl K (lX10_season) 30 = o_if_ne 39 33 := rfl
theorem aX10_season_33 (K : Kt) : tl K (lX10_season) 33 = o_aload 0 34 := rfl
theorem aX10_season_34 (K : Kt) : tl K (lX10_season) 34 = o_pushI (nI 2) 35 := rfl
theorem aX10_season_35 (K : Kt) : tl K (lX10_season) 35 = o_callV fX10_refuse 1 10 38 := rfl
theorem aX10_season_38 (K : Kt) : tl K (lX10_season) 38 = o_iret K := rfl
theorem aX10_season_39 (K : Kt) : tl K (lX10_season) 39 = o_aload 0 40 := rfl
theorem aX10_season_40 (K : Kt) : tl K (lX10_season) 40 = o_get 10 8 43 := rfl
theorem aX10_season_43 (K : Kt) : tl K (lX10_season) 43 = o_iload 1 44 := rfl
theorem aX10_season_44 (K : Kt) : tl K (lX10_season) 44 = o_callV fX7_play 1 7 47 := rfl
theorem aX10_season_47 (K : Kt) : tl K (lX10_season) 47 = o_aload 0 48 := rfl
theorem aX10_season_48 (K : Kt) : tl K (lX10_season) 48 = o_aload 0 49 := rfl
theorem aX10_season_49 (K : Kt) : tl K (lX10_season) 49 = o_iload 2 50 := rfl
theorem aX10_season_50 (K : Kt) : tl K (lX10_season) 50 = o_callV fX10_tellSeason 1 10 53 := rfl
theorem aX10_season_53 (K : Kt) : tl K (lX10_season) 53 = o_callV fX10_answer 1 10 56 := rfl
theorem aX10_season_56 (K : Kt) : tl K (lX10_season) 56 = o_iret K := rfl
theorem eX10_span {As L : List Value} {w : Wd} {K : Kt} (hw : wds As ≤ 8) (hL : ent 8 As = L) (h : RR (tl K lX10_span) 0 L [] w) : fX10_span As w K := ⟨hw, by rw [hL]; exact h⟩
theorem nX10_span : MonoF fX10_span := mono_f 8 lX10_span
theorem aX10_span_0 (K : Kt) : tl K (lX10_span) 0 = o_aload 0 1 := rfl
theorem aX10_span_1 (K : Kt) : tl K (lX10_span) 1 = o_callV fX10_hasText 0 10 4 := rfl
theorem aX10_span_4 (K : Kt) : tl K (lX10_span) 4 = o_if_eq 16 7 := rfl
theorem aX10_span_7 (K : Kt) : tl K (lX10_span) 7 = o_iload 3 8 := rfl
theorem aX10_span_8 (K : Kt) : tl K (lX10_span) 8 = o_pushI (nI 0) 9 := rfl
theorem aX10_span_9 (K : Kt) : tl K (lX10_span) 9 = o_pushI (nI 2) 10 := rfl
theorem aX10_span_10 (K : Kt) : tl K (lX10_span) 10 = o_callS fX10_within 3 13 := rfl
theorem aX10_span_13 (K : Kt) : tl K (lX10_span) 13 = o_if_ne 22 16 := rfl
theorem aX10_span_16 (K : Kt) : tl K (lX10_span) 16 = o_aload 0 17 := rfl
theorem aX10_span_17 (K : Kt) : tl K (lX10_span) 17 = o_pushI (nI 1) 18 := rfl
theorem aX10_span_18 (K : Kt) : tl K (lX10_span) 18 = o_callV fX10_refuse 1 10 21 := rfl
theorem aX10_span_21 (K : Kt) : tl K (lX10_span) 21 = o_iret K := rfl
theorem aX10_span_22 (K : Kt) : tl K (lX10_span) 22 = o_iload 2 23 := rfl
theorem aX10_span_23 (K : Kt) : tl K (lX10_span) 23 = o_pushI (nI 1) 24 := rfl
theorem aX10_span_24 (K : Kt) : tl K (lX10_span) 24 = o_pushI (nI 100) 26 := rfl
theorem aX10_span_26 (K : Kt) : tl K (lX10_span) 26 = o_callS fX10_within 3 29 := rfl
theorem aX10_span_29 (K : Kt) : tl K (lX10_span) 29 = o_if_eq 47 32 := rfl
theorem aX10_span_32 (K : Kt) : tl K (lX10_span) 32 = o_iload 1 33 := rfl
theorem aX10_span_33 (K : Kt) : tl K (lX10_span) 33 = o_pushI (nI 1) 34 := rfl
theorem aX10_span_34 (K : Kt) : tl K (lX10_span) 34 = o_pushI (nI 2147483646) 37 := rfl
theorem aX10_span_37 (K : Kt) : tl K (lX10_span) 37 = o_iload 2 38 := rfl
theorem aX10_span_38 (K : Kt) : tl K (lX10_span) 38 = o_isub 39 := rfl
theorem aX10_span_39 (K : Kt) : tl K (lX10_span) 39 = o_pushI (nI 1) 40 := rfl
theorem aX10_span_40 (K : Kt) : tl K (lX10_span) 40 = o_iadd 41 := rfl
theorem aX10_span_41 (K : Kt) : tl K (lX10_span) 41 = o_callS fX10_within 3 44 := rfl
theorem aX10_span_44 (K : Kt) : tl K (lX10_span) 44 = o_if_ne 53 47 := rfl
theorem aX10_span_47 (K : Kt) : tl K (lX10_span) 47 = o_aload 0 48 := rfl
theorem aX10_span_48 (K : Kt) : tl K (lX10_span) 48 = o_pushI (nI 2) 49 := rfl
theorem aX10_span_49 (K : Kt) : tl K (lX10_span) 49 = o_callV fX10_refuse 1 10 52 := rfl
theorem aX10_span_52 (K : Kt) : tl K (lX10_span) 52 = o_iret K := rfl
theorem aX10_span_53 (K : Kt) : tl K (lX10_span) 53 = o_pushI (nI 0) 54 := rfl
theorem aX10_span_54 (K : Kt) : tl K (lX10_span) 54 = o_istore 4 56 := rfl
theorem aX10_span_56 (K : Kt) : tl K (lX10_span) 56 = o_pushI (nI 2147483647) 59 := rfl
theorem aX10_span_59 (K : Kt) : tl K (lX10_span) 59 = o_istore 5 61 := rfl
theorem aX10_span_61 (K : Kt) : tl K (lX10_span) 61 = o_pushI (nI 0) 62 := rfl
theorem aX10_span_62 (K : Kt) : tl K (lX10_span) 62 = o_istore 6 64 := rfl
theorem aX10_span_64 (K : Kt) : tl K (lX10_span) 64 = o_pushI (nI 0) 65 := rfl
theorem aX10_span_65 (K : Kt) : tl K (lX10_span) 65 = o_istore 7 67 := rfl
theorem aX10_span_67 (K : Kt) : tl K (lX10_span) 67 = o_iload 7 69 := rfl
theorem aX10_span_69 (K : Kt) : tl K (lX10_span) 69 = o_iload 2 70 := rfl
theorem aX10_span_70 (K : Kt) : tl K (lX10_span) 70 = o_icmp_ge 138 73 := rfl
theorem aX10_span_73 (K : Kt) : tl K (lX10_span) 73 = o_aload 0 74 := rfl
theorem aX10_span_74 (K : Kt) : tl K (lX10_span) 74 = o_get 10 8 77 := rfl
theorem aX10_span_77 (K : Kt) : tl K (lX10_span) 77 = o_iload 1 78 := rfl
theorem aX10_span_78 (K : Kt) : tl K (lX10_span) 78 = o_iload 7 80 := rfl
theorem aX10_span_80 (K : Kt) : tl K (lX10_span) 80 = o_iadd 81 := rfl
theorem aX10_span_81 (K : Kt) : tl K (lX10_span) 81 = o_callV fX7_play 1 7 84 := rfl
theorem aX10_span_84 (K : Kt) : tl K (lX10_span) 84 = o_iload 4 86 := rfl
theorem aX10_span_86 (K : Kt) : tl K (lX10_span) 86 = o_aload 0 87 := rfl
theorem aX10_span_87 (K : Kt) : tl K (lX10_span) 87 = o_get 10 8 90 := rfl
theorem aX10_span_90 (K : Kt) : tl K (lX10_span) 90 = o_get 7 3 93 := rfl
theorem aX10_span_93 (K : Kt) : tl K (lX10_span) 93 = o_if_ne 100 96 := rfl
theorem aX10_span_96 (K : Kt) : tl K (lX10_span) 96 = o_pushI (nI 1) 97 := rfl
theorem aX10_span_97 (K : Kt) : tl K (lX10_span) 97 = o_goto 101 := rfl
theorem aX10_span_100 (K : Kt) : tl K (lX10_span) 100 = o_pushI (nI 0) 101 := rfl
theorem aX10_span_101 (K : Kt) : tl K (lX10_span) 101 = o_iadd 102 := rfl
theorem aX10_span_102 (K : Kt) : tl K (lX10_span) 102 = o_istore 4 104 := rfl
theorem aX10_span_104 (K : Kt) : tl K (lX10_span) 104 = o_iload 5 106 := rfl
theorem aX10_span_106 (K : Kt) : tl K (lX10_span) 106 = o_aload 0 107 := rfl
theorem aX10_span_107 (K : Kt) : tl K (lX10_span) 107 = o_get 10 8 110 := rfl
theorem aX10_span_110 (K : Kt) : tl K (lX10_span) 110 = o_get 7 6 113 := rfl
set_option maxRecDepth 8000 in
theorem aX10_span_113 (K : Kt) : tl K (lX10_span) 113 = o_min 116 := rfl
set_option maxRecDepth 8000 in
theorem aX10_span_116 (K : Kt) : tl K (lX10_span) 116 = o_istore 5 118 := rfl
set_option maxRecDepth 8000 in
theorem aX10_span_118 (K : Kt) : tl K (lX10_span) 118 = o_iload 6 120 := rfl
set_option maxRecDepth 8000 in
theorem aX10_span_120 (K : Kt) : tl K (lX10_span) 120 = o_aload 0 121 := rfl
set_option maxRecDepth 8000 in
theorem aX10_span_121 (K : Kt) : tl K (lX10_span) 121 = o_get 10 8 124 := rfl
set_option maxRecDepth 8000 in
theorem aX10_span_124 (K : Kt) : tl K (lX10_span) 124 = o_get 7 6 127 := rfl
set_option maxRecDepth 8000 in
theorem aX10_span_127 (K : Kt) : tl K (lX10_span) 127 = o_max 130 := rfl
set_option maxRecDepth 8000 in
theorem aX10_span_130 (K : Kt) : tl K (lX10_span) 130 = o_istore 6 132 := rfl
set_option maxRecDepth 8000 in
theorem aX10_span_132 (K : Kt) : tl K (lX10_span) 132 = o_iinc 7 (nI 1) 135 := rfl
set_option maxRecDepth 8000 in
theorem aX10_span_135 (K : Kt) : tl K (lX10_span) 135 = o_goto 67 := rfl
set_option maxRecDepth 8000 in
theorem aX10_span_138 (K : Kt) : tl K (lX10_span) 138 = o_iload 3 139 := rfl
set_option maxRecDepth 8000 in
theorem aX10_span_139 (K : Kt) : tl K (lX10_span) 139 = o_if_ne 149 142 := rfl
set_option maxRecDepth 8000 in
theorem aX10_span_142 (K : Kt) : tl K (lX10_span) 142 = o_aload 0 143 := rfl
set_option maxRecDepth 8000 in
theorem aX10_span_143 (K : Kt) : tl K (lX10_span) 143 = o_iload 4 145 := rfl
set_option maxRecDepth 8000 in
theorem aX10_span_145 (K : Kt) : tl K (lX10_span) 145 = o_callV fX10_answer 1 10 148 := rfl
set_option maxRecDepth 8000 in
theorem aX10_span_148 (K : Kt) : tl K (lX10_span) 148 = o_iret K := rfl
set_option maxRecDepth 8000 in
theorem aX10_span_149 (K : Kt) : tl K (lX10_span) 149 = o_aload 0 150 := rfl
set_option maxRecDepth 8000 in
theorem aX10_span_150 (K : Kt) : tl K (lX10_span) 150 = o_iload 3 151 := rfl
set_option maxRecDepth 8000 in
theorem aX10_span_151 (K : Kt) : tl K (lX10_span) 151 = o_pushI (nI 1) 152 := rfl
set_option maxRecDepth 8000 in
theorem aX10_span_152 (K : Kt) : tl K (lX10_span) 152 = o_icmp_ne 160 155 := rfl
set_option maxRecDepth 8000 in
theorem aX10_span_155 (K : Kt) : tl K (lX10_span) 155 = o_iload 5 157 := rfl
set_option maxRecDepth 8000 in
theorem aX10_span_157 (K : Kt) : tl K (lX10_span) 157 = o_goto 162 := rfl
set_option maxRecDepth 8000 in
theorem aX10_span_160 (K : Kt) : tl K (lX10_span) 160 = o_iload 6 162 := rfl
set_option maxRecDepth 8000 in
theorem aX10_span_162 (K : Kt) : tl K (lX10_span) 162 = o_callV fX10_answer 1 10 165 := rfl
set_option maxRecDepth 8000 in
theorem aX10_span_165 (K : Kt) : tl K (lX10_span) 165 = o_iret K := rfl
theorem eX10_put {As L : List Value} {w : Wd} {K : Kt} (hw : wds As ≤ 5) (hL : ent 5 As = L) (h : RR (tl K lX10_put) 0 L [] w) : fX10_put As w K := ⟨hw, by rw [hL]; exact h⟩
theorem nX10_put : MonoF fX10_put := mono_f 5 lX10_put
theorem aX10_put_0 (K : Kt) : tl K (lX10_put) 0 = o_aload 0 1 := rfl
theorem aX10_put_1 (K : Kt) : tl K (lX10_put) 1 = o_iload 1 2 := rfl
theorem aX10_put_2 (K : Kt) : tl K (lX10_put) 2 = o_callV fX10_hasGame 1 10 5 := rfl
theorem aX10_put_5 (K : Kt) : tl K (lX10_put) 5 = o_if_eq 16 8 := rfl
theorem aX10_put_8 (K : Kt) : tl K (lX10_put) 8 = o_aload 0 9 := rfl
theorem aX10_put_9 (K : Kt) : tl K (lX10_put) 9 = o_iload 2 10 := rfl
theorem aX10_put_10 (K : Kt) : tl K (lX10_put) 10 = o_callV fX10_hasArm 1 10 13 := rfl
theorem aX10_put_13 (K : Kt) : tl K (lX10_put) 13 = o_if_ne 22 16 := rfl
theorem aX10_put_16 (K : Kt) : tl K (lX10_put) 16 = o_aload 0 17 := rfl
theorem aX10_put_17 (K : Kt) : tl K (lX10_put) 17 = o_pushI (nI 1) 18 := rfl
theorem aX10_put_18 (K : Kt) : tl K (lX10_put) 18 = o_callV fX10_refuse 1 10 21 := rfl
theorem aX10_put_21 (K : Kt) : tl K (lX10_put) 21 = o_iret K := rfl
theorem aX10_put_22 (K : Kt) : tl K (lX10_put) 22 = o_iload 3 23 := rfl
theorem aX10_put_23 (K : Kt) : tl K (lX10_put) 23 = o_pushI (nI 1) 24 := rfl
theorem aX10_put_24 (K : Kt) : tl K (lX10_put) 24 = o_aload 0 25 := rfl
theorem aX10_put_25 (K : Kt) : tl K (lX10_put) 25 = o_get 10 2 28 := rfl
theorem aX10_put_28 (K : Kt) : tl K (lX10_put) 28 = o_iload 2 29 := rfl
theorem aX10_put_29 (K : Kt) : tl K (lX10_put) 29 = o_pushI (nI 1) 30 := rfl
theorem aX10_put_30 (K : Kt) : tl K (lX10_put) 30 = o_callV fX9_trait 2 9 33 := rfl
theorem aX10_put_33 (K : Kt) : tl K (lX10_put) 33 = o_callS fX10_within 3 36 := rfl
theorem aX10_put_36 (K : Kt) : tl K (lX10_put) 36 = o_if_ne 45 39 := rfl
theorem aX10_put_39 (K : Kt) : tl K (lX10_put) 39 = o_aload 0 40 := rfl
theorem aX10_put_40 (K : Kt) : tl K (lX10_put) 40 = o_pushI (nI 2) 41 := rfl
theorem aX10_put_41 (K : Kt) : tl K (lX10_put) 41 = o_callV fX10_refuse 1 10 44 := rfl
theorem aX10_put_44 (K : Kt) : tl K (lX10_put) 44 = o_iret K := rfl
theorem aX10_put_45 (K : Kt) : tl K (lX10_put) 45 = o_aload 0 46 := rfl
theorem aX10_put_46 (K : Kt) : tl K (lX10_put) 46 = o_get 10 3 49 := rfl
theorem aX10_put_49 (K : Kt) : tl K (lX10_put) 49 = o_get 5 0 52 := rfl
theorem aX10_put_52 (K : Kt) : tl K (lX10_put) 52 = o_iload 1 53 := rfl
theorem aX10_put_53 (K : Kt) : tl K (lX10_put) 53 = o_iald 54 := rfl
theorem aX10_put_54 (K : Kt) : tl K (lX10_put) 54 = o_pushI (nI 3) 55 := rfl
theorem aX10_put_55 (K : Kt) : tl K (lX10_put) 55 = o_icmp_ge 70 58 := rfl
theorem aX10_put_58 (K : Kt) : tl K (lX10_put) 58 = o_iload 3 59 := rfl
theorem aX10_put_59 (K : Kt) : tl K (lX10_put) 59 = o_aload 0 60 := rfl
theorem aX10_put_60 (K : Kt) : tl K (lX10_put) 60 = o_get 10 4 63 := rfl
theorem aX10_put_63 (K : Kt) : tl K (lX10_put) 63 = o_iload 1 64 := rfl
theorem aX10_put_64 (K : Kt) : tl K (lX10_put) 64 = o_callV fX1_leftIn 1 1 67 := rfl
theorem aX10_put_67 (K : Kt) : tl K (lX10_put) 67 = o_icmp_le 76 70 := rfl
theorem aX10_put_70 (K : Kt) : tl K (lX10_put) 70 = o_aload 0 71 := rfl
theorem aX10_put_71 (K : Kt) : tl K (lX10_put) 71 = o_pushI (nI 3) 72 := rfl
theorem aX10_put_72 (K : Kt) : tl K (lX10_put) 72 = o_callV fX10_refuse 1 10 75 := rfl
theorem aX10_put_75 (K : Kt) : tl K (lX10_put) 75 = o_iret K := rfl
theorem aX10_put_76 (K : Kt) : tl K (lX10_put) 76 = o_aload 0 77 := rfl
theorem aX10_put_77 (K : Kt) : tl K (lX10_put) 77 = o_get 10 3 80 := rfl
theorem aX10_put_80 (K : Kt) : tl K (lX10_put) 80 = o_iload 2 81 := rfl
theorem aX10_put_81 (K : Kt) : tl K (lX10_put) 81 = o_iload 1 82 := rfl
theorem aX10_put_82 (K : Kt) : tl K (lX10_put) 82 = o_callV fX5_has 2 5 85 := rfl
theorem aX10_put_85 (K : Kt) : tl K (lX10_put) 85 = o_if_ne 106 88 := rfl
theorem aX10_put_88 (K : Kt) : tl K (lX10_put) 88 = o_iload 4 90 := rfl
theorem aX10_put_90 (K : Kt) : tl K (lX10_put) 90 = o_if_ne 112 93 := rfl
theorem aX10_put_93 (K : Kt) : tl K (lX10_put) 93 = o_aload 0 94 := rfl
theorem aX10_put_94 (K : Kt) : tl K (lX10_put) 94 = o_get 10 5 97 := rfl
theorem aX10_put_97 (K : Kt) : tl K (lX10_put) 97 = o_iload 2 98 := rfl
theorem aX10_put_98 (K : Kt) : tl K (lX10_put) 98 = o_iload 1 99 := rfl
theorem aX10_put_99 (K : Kt) : tl K (lX10_put) 99 = o_iload 3 100 := rfl
theorem aX10_put_100 (K : Kt) : tl K (lX10_put) 100 = o_callV fX3_allowsIn 3 3 103 := rfl
theorem aX10_put_103 (K : Kt) : tl K (lX10_put) 103 = o_if_ne 112 106 := rfl
theorem aX10_put_106 (K : Kt) : tl K (lX10_put) 106 = o_aload 0 107 := rfl
theorem aX10_put_107 (K : Kt) : tl K (lX10_put) 107 = o_pushI (nI 5) 108 := rfl
theorem aX10_put_108 (K : Kt) : tl K (lX10_put) 108 = o_callV fX10_refuse 1 10 111 := rfl
theorem aX10_put_111 (K : Kt) : tl K (lX10_put) 111 = o_iret K := rfl
set_option maxRecDepth 8000 in
theorem aX10_put_112 (K : Kt) : tl K (lX10_put) 112 = o_aload 0 113 := rfl
set_option maxRecDepth 8000 in
theorem aX10_put_113 (K : Kt) : tl K (lX10_put) 113 = o_get 10 9 116 := rfl
set_option maxRecDepth 8000 in
theorem aX10_put_116 (K : Kt) : tl K (lX10_put) 116 = o_callV fX4_keep 0 4 119 := rfl
set_option maxRecDepth 8000 in
theorem aX10_put_119 (K : Kt) : tl K (lX10_put) 119 = o_aload 0 120 := rfl
set_option maxRecDepth 8000 in
theorem aX10_put_120 (K : Kt) : tl K (lX10_put) 120 = o_get 10 3 123 := rfl
set_option maxRecDepth 8000 in
theorem aX10_put_123 (K : Kt) : tl K (lX10_put) 123 = o_iload 1 124 := rfl
set_option maxRecDepth 8000 in
theorem aX10_put_124 (K : Kt) : tl K (lX10_put) 124 = o_iload 2 125 := rfl
set_option maxRecDepth 8000 in
theorem aX10_put_125 (K : Kt) : tl K (lX10_put) 125 = o_iload 3 126 := rfl
set_option maxRecDepth 8000 in
theorem aX10_put_126 (K : Kt) : tl K (lX10_put) 126 = o_callV fX5_add 3 5 129 := rfl
set_option maxRecDepth 8000 in
theorem aX10_put_129 (K : Kt) : tl K (lX10_put) 129 = o_aload 0 130 := rfl
set_option maxRecDepth 8000 in
theorem aX10_put_130 (K : Kt) : tl K (lX10_put) 130 = o_aload 0 131 := rfl
set_option maxRecDepth 8000 in
theorem aX10_put_131 (K : Kt) : tl K (lX10_put) 131 = o_get 10 3 134 := rfl
set_option maxRecDepth 8000 in
theorem aX10_put_134 (K : Kt) : tl K (lX10_put) 134 = o_get 5 0 137 := rfl
set_option maxRecDepth 8000 in
theorem aX10_put_137 (K : Kt) : tl K (lX10_put) 137 = o_iload 1 138 := rfl
set_option maxRecDepth 8000 in
theorem aX10_put_138 (K : Kt) : tl K (lX10_put) 138 = o_iald 139 := rfl
set_option maxRecDepth 8000 in
theorem aX10_put_139 (K : Kt) : tl K (lX10_put) 139 = o_callV fX10_answer 1 10 142 := rfl
set_option maxRecDepth 8000 in
theorem aX10_put_142 (K : Kt) : tl K (lX10_put) 142 = o_iret K := rfl
theorem eX10_take {As L : List Value} {w : Wd} {K : Kt} (hw : wds As ≤ 4) (hL : ent 4 As = L) (h : RR (tl K lX10_take) 0 L [] w) : fX10_take As w K := ⟨hw, by rw [hL]; exact h⟩
theorem nX10_take : MonoF fX10_take := mono_f 4 lX10_take
theorem aX10_take_0 (K : Kt) : tl K (lX10_take) 0 = o_aload 0 1 := rfl
theorem aX10_take_1 (K : Kt) : tl K (lX10_take) 1 = o_iload 1 2 := rfl
theorem aX10_take_2 (K : Kt) : tl K (lX10_take) 2 = o_iload 2 3 := rfl
theorem aX10_take_3 (K : Kt) : tl K (lX10_take) 3 = o_callV fX10_hasOuting 2 10 6 := rfl
theorem aX10_take_6 (K : Kt) : tl K (lX10_take) 6 = o_if_ne 15 9 := rfl
theorem aX10_take_9 (K : Kt) : tl K (lX10_take) 9 = o_aload 0 10 := rfl
theorem aX10_take_10 (K : Kt) : tl K (lX10_take) 10 = o_pushI (nI 1) 11 := rfl
theorem aX10_take_11 (K : Kt) : tl K (lX10_take) 11 = o_callV fX10_refuse 1 10 14 := rfl
theorem aX10_take_14 (K : Kt) : tl K (lX10_take) 14 = o_iret K := rfl
theorem aX10_take_15 (K : Kt) : tl K (lX10_take) 15 = o_aload 0 16 := rfl
theorem aX10_take_16 (K : Kt) : tl K (lX10_take) 16 = o_get 10 9 19 := rfl
theorem aX10_take_19 (K : Kt) : tl K (lX10_take) 19 = o_callV fX4_keep 0 4 22 := rfl
theorem aX10_take_22 (K : Kt) : tl K (lX10_take) 22 = o_aload 0 23 := rfl
theorem aX10_take_23 (K : Kt) : tl K (lX10_take) 23 = o_get 10 3 26 := rfl
theorem aX10_take_26 (K : Kt) : tl K (lX10_take) 26 = o_iload 1 27 := rfl
theorem aX10_take_27 (K : Kt) : tl K (lX10_take) 27 = o_iload 2 28 := rfl
theorem aX10_take_28 (K : Kt) : tl K (lX10_take) 28 = o_callV fX5_throwsAt 2 5 31 := rfl
theorem aX10_take_31 (K : Kt) : tl K (lX10_take) 31 = o_istore 3 32 := rfl
theorem aX10_take_32 (K : Kt) : tl K (lX10_take) 32 = o_aload 0 33 := rfl
theorem aX10_take_33 (K : Kt) : tl K (lX10_take) 33 = o_get 10 3 36 := rfl
theorem aX10_take_36 (K : Kt) : tl K (lX10_take) 36 = o_iload 1 37 := rfl
theorem aX10_take_37 (K : Kt) : tl K (lX10_take) 37 = o_iload 2 38 := rfl
theorem aX10_take_38 (K : Kt) : tl K (lX10_take) 38 = o_callV fX5_remove 2 5 41 := rfl
theorem aX10_take_41 (K : Kt) : tl K (lX10_take) 41 = o_aload 0 42 := rfl
theorem aX10_take_42 (K : Kt) : tl K (lX10_take) 42 = o_iload 3 43 := rfl
theorem aX10_take_43 (K : Kt) : tl K (lX10_take) 43 = o_callV fX10_answer 1 10 46 := rfl
theorem aX10_take_46 (K : Kt) : tl K (lX10_take) 46 = o_iret K := rfl
theorem eX10_shift {As L : List Value} {w : Wd} {K : Kt} (hw : wds As ≤ 6) (hL : ent 6 As = L) (h : RR (tl K lX10_shift) 0 L [] w) : fX10_shift As w K := ⟨hw, by rw [hL]; exact h⟩
theorem nX10_shift : MonoF fX10_shift := mono_f 6 lX10_shift
theorem aX10_shift_0 (K : Kt) : tl K (lX10_shift) 0 = o_aload 0 1 := rfl
theorem aX10_shift_1 (K : Kt) : tl K (lX10_shift) 1 = o_iload 1 2 := rfl
theorem aX10_shift_2 (K : Kt) : tl K (lX10_shift) 2 = o_iload 2 3 := rfl
theorem aX10_shift_3 (K : Kt) : tl K (lX10_shift) 3 = o_callV fX10_hasOuting 2 10 6 := rfl
theorem aX10_shift_6 (K : Kt) : tl K (lX10_shift) 6 = o_if_ne 15 9 := rfl
theorem aX10_shift_9 (K : Kt) : tl K (lX10_shift) 9 = o_aload 0 10 := rfl
theorem aX10_shift_10 (K : Kt) : tl K (lX10_shift) 10 = o_pushI (nI 1) 11 := rfl
theorem aX10_shift_11 (K : Kt) : tl K (lX10_shift) 11 = o_callV fX10_refuse 1 10 14 := rfl
theorem aX10_shift_14 (K : Kt) : tl K (lX10_shift) 14 = o_iret K := rfl
theorem aX10_shift_15 (K : Kt) : tl K (lX10_shift) 15 = o_aload 0 16 := rfl
theorem aX10_shift_16 (K : Kt) : tl K (lX10_shift) 16 = o_get 10 3 19 := rfl
theorem aX10_shift_19 (K : Kt) : tl K (lX10_shift) 19 = o_iload 1 20 := rfl
theorem aX10_shift_20 (K : Kt) : tl K (lX10_shift) 20 = o_iload 2 21 := rfl
theorem aX10_shift_21 (K : Kt) : tl K (lX10_shift) 21 = o_callV fX5_armAt 2 5 24 := rfl
theorem aX10_shift_24 (K : Kt) : tl K (lX10_shift) 24 = o_istore 4 26 := rfl
theorem aX10_shift_26 (K : Kt) : tl K (lX10_shift) 26 = o_aload 0 27 := rfl
theorem aX10_shift_27 (K : Kt) : tl K (lX10_shift) 27 = o_get 10 3 30 := rfl
theorem aX10_shift_30 (K : Kt) : tl K (lX10_shift) 30 = o_iload 1 31 := rfl
theorem aX10_shift_31 (K : Kt) : tl K (lX10_shift) 31 = o_iload 2 32 := rfl
theorem aX10_shift_32 (K : Kt) : tl K (lX10_shift) 32 = o_callV fX5_throwsAt 2 5 35 := rfl
theorem aX10_shift_35 (K : Kt) : tl K (lX10_shift) 35 = o_istore 5 37 := rfl
theorem aX10_shift_37 (K : Kt) : tl K (lX10_shift) 37 = o_iload 3 38 := rfl
theorem aX10_shift_38 (K : Kt) : tl K (lX10_shift) 38 = o_pushI (nI 1) 39 := rfl
theorem aX10_shift_39 (K : Kt) : tl K (lX10_shift) 39 = o_aload 0 40 := rfl
theorem aX10_shift_40 (K : Kt) : tl K (lX10_shift) 40 = o_get 10 2 43 := rfl
theorem aX10_shift_43 (K : Kt) : tl K (lX10_shift) 43 = o_iload 4 45 := rfl
theorem aX10_shift_45 (K : Kt) : tl K (lX10_shift) 45 = o_pushI (nI 1) 46 := rfl
theorem aX10_shift_46 (K : Kt) : tl K (lX10_shift) 46 = o_callV fX9_trait 2 9 49 := rfl
theorem aX10_shift_49 (K : Kt) : tl K (lX10_shift) 49 = o_callS fX10_within 3 52 := rfl
theorem aX10_shift_52 (K : Kt) : tl K (lX10_shift) 52 = o_if_ne 61 55 := rfl
theorem aX10_shift_55 (K : Kt) : tl K (lX10_shift) 55 = o_aload 0 56 := rfl
theorem aX10_shift_56 (K : Kt) : tl K (lX10_shift) 56 = o_pushI (nI 2) 57 := rfl
theorem aX10_shift_57 (K : Kt) : tl K (lX10_shift) 57 = o_callV fX10_refuse 1 10 60 := rfl
theorem aX10_shift_60 (K : Kt) : tl K (lX10_shift) 60 = o_iret K := rfl
theorem aX10_shift_61 (K : Kt) : tl K (lX10_shift) 61 = o_iload 3 62 := rfl
theorem aX10_shift_62 (K : Kt) : tl K (lX10_shift) 62 = o_iload 5 64 := rfl
theorem aX10_shift_64 (K : Kt) : tl K (lX10_shift) 64 = o_isub 65 := rfl
theorem aX10_shift_65 (K : Kt) : tl K (lX10_shift) 65 = o_aload 0 66 := rfl
theorem aX10_shift_66 (K : Kt) : tl K (lX10_shift) 66 = o_get 10 4 69 := rfl
theorem aX10_shift_69 (K : Kt) : tl K (lX10_shift) 69 = o_iload 1 70 := rfl
theorem aX10_shift_70 (K : Kt) : tl K (lX10_shift) 70 = o_callV fX1_leftIn 1 1 73 := rfl
theorem aX10_shift_73 (K : Kt) : tl K (lX10_shift) 73 = o_icmp_le 82 76 := rfl
theorem aX10_shift_76 (K : Kt) : tl K (lX10_shift) 76 = o_aload 0 77 := rfl
theorem aX10_shift_77 (K : Kt) : tl K (lX10_shift) 77 = o_pushI (nI 3) 78 := rfl
theorem aX10_shift_78 (K : Kt) : tl K (lX10_shift) 78 = o_callV fX10_refuse 1 10 81 := rfl
theorem aX10_shift_81 (K : Kt) : tl K (lX10_shift) 81 = o_iret K := rfl
theorem aX10_shift_82 (K : Kt) : tl K (lX10_shift) 82 = o_aload 0 83 := rfl
theorem aX10_shift_83 (K : Kt) : tl K (lX10_shift) 83 = o_get 10 5 86 := rfl
theorem aX10_shift_86 (K : Kt) : tl K (lX10_shift) 86 = o_iload 4 88 := rfl
theorem aX10_shift_88 (K : Kt) : tl K (lX10_shift) 88 = o_iload 1 89 := rfl
theorem aX10_shift_89 (K : Kt) : tl K (lX10_shift) 89 = o_iload 3 90 := rfl
theorem aX10_shift_90 (K : Kt) : tl K (lX10_shift) 90 = o_callV fX3_allowsIn 3 3 93 := rfl
theorem aX10_shift_93 (K : Kt) : tl K (lX10_shift) 93 = o_if_ne 102 96 := rfl
theorem aX10_shift_96 (K : Kt) : tl K (lX10_shift) 96 = o_aload 0 97 := rfl
theorem aX10_shift_97 (K : Kt) : tl K (lX10_shift) 97 = o_pushI (nI 5) 98 := rfl
theorem aX10_shift_98 (K : Kt) : tl K (lX10_shift) 98 = o_callV fX10_refuse 1 10 101 := rfl
theorem aX10_shift_101 (K : Kt) : tl K (lX10_shift) 101 = o_iret K := rfl
theorem aX10_shift_102 (K : Kt) : tl K (lX10_shift) 102 = o_aload 0 103 := rfl
theorem aX10_shift_103 (K : Kt) : tl K (lX10_shift) 103 = o_get 10 9 106 := rfl
theorem aX10_shift_106 (K : Kt) : tl K (lX10_shift) 106 = o_callV fX4_keep 0 4 109 := rfl
theorem aX10_shift_109 (K : Kt) : tl K (lX10_shift) 109 = o_aload 0 110 := rfl
set_option maxRecDepth 8000 in
theorem aX10_shift_110 (K : Kt) : tl K (lX10_shift) 110 = o_get 10 3 113 := rfl
set_option maxRecDepth 8000 in
theorem aX10_shift_113 (K : Kt) : tl K (lX10_shift) 113 = o_iload 1 114 := rfl
set_option maxRecDepth 8000 in
theorem aX10_shift_114 (K : Kt) : tl K (lX10_shift) 114 = o_iload 2 115 := rfl
set_option maxRecDepth 8000 in
theorem aX10_shift_115 (K : Kt) : tl K (lX10_shift) 115 = o_iload 4 117 := rfl
set_option maxRecDepth 8000 in
theorem aX10_shift_117 (K : Kt) : tl K (lX10_shift) 117 = o_iload 3 118 := rfl
set_option maxRecDepth 8000 in
theorem aX10_shift_118 (K : Kt) : tl K (lX10_shift) 118 = o_callV fX5_change 4 5 121 := rfl
set_option maxRecDepth 8000 in
theorem aX10_shift_121 (K : Kt) : tl K (lX10_shift) 121 = o_aload 0 122 := rfl
set_option maxRecDepth 8000 in
theorem aX10_shift_122 (K : Kt) : tl K (lX10_shift) 122 = o_iload 5 124 := rfl
set_option maxRecDepth 8000 in
theorem aX10_shift_124 (K : Kt) : tl K (lX10_shift) 124 = o_callV fX10_answer 1 10 127 := rfl
set_option maxRecDepth 8000 in
theorem aX10_shift_127 (K : Kt) : tl K (lX10_shift) 127 = o_iret K := rfl
theorem eX10_mayTrade {As L : List Value} {w : Wd} {K : Kt} (hw : wds As ≤ 7) (hL : ent 7 As = L) (h : RR (tl K lX10_mayTrade) 0 L [] w) : fX10_mayTrade As w K := ⟨hw, by rw [hL]; exact h⟩
theorem nX10_mayTrade : MonoF fX10_mayTrade := mono_f 7 lX10_mayTrade
theorem aX10_mayTrade_0 (K : Kt) : tl K (lX10_mayTrade) 0 = o_aload 0 1 := rfl
theorem aX10_mayTrade_1 (K : Kt) : tl K (lX10_mayTrade) 1 = o_get 10 3 4 := rfl
theorem aX10_mayTrade_4 (K : Kt) : tl K (lX10_mayTrade) 4 = o_iload 1 5 := rfl
theorem aX10_mayTrade_5 (K : Kt) : tl K (lX10_mayTrade) 5 = o_iload 2 6 := rfl
theorem aX10_mayTrade_6 (K : Kt) : tl K (lX10_mayTrade) 6 = o_callV fX5_armAt 2 5 9 := rfl
theorem aX10_mayTrade_9 (K : Kt) : tl K (lX10_mayTrade) 9 = o_istore 5 11 := rfl
theorem aX10_mayTrade_11 (K : Kt) : tl K (lX10_mayTrade) 11 = o_aload 0 12 := rfl
theorem aX10_mayTrade_12 (K : Kt) : tl K (lX10_mayTrade) 12 = o_get 10 3 15 := rfl
theorem aX10_mayTrade_15 (K : Kt) : tl K (lX10_mayTrade) 15 = o_iload 3 16 := rfl
theorem aX10_mayTrade_16 (K : Kt) : tl K (lX10_mayTrade) 16 = o_iload 4 18 := rfl
theorem aX10_mayTrade_18 (K : Kt) : tl K (lX10_mayTrade) 18 = o_callV fX5_armAt 2 5 21 := rfl
theorem aX10_mayTrade_21 (K : Kt) : tl K (lX10_mayTrade) 21 = o_istore 6 23 := rfl
theorem aX10_mayTrade_23 (K : Kt) : tl K (lX10_mayTrade) 23 = o_iload 1 24 := rfl
theorem aX10_mayTrade_24 (K : Kt) : tl K (lX10_mayTrade) 24 = o_iload 3 25 := rfl
theorem aX10_mayTrade_25 (K : Kt) : tl K (lX10_mayTrade) 25 = o_icmp_eq 54 28 := rfl
theorem aX10_mayTrade_28 (K : Kt) : tl K (lX10_mayTrade) 28 = o_aload 0 29 := rfl
theorem aX10_mayTrade_29 (K : Kt) : tl K (lX10_mayTrade) 29 = o_get 10 3 32 := rfl
theorem aX10_mayTrade_32 (K : Kt) : tl K (lX10_mayTrade) 32 = o_iload 5 34 := rfl
theorem aX10_mayTrade_34 (K : Kt) : tl K (lX10_mayTrade) 34 = o_iload 3 35 := rfl
theorem aX10_mayTrade_35 (K : Kt) : tl K (lX10_mayTrade) 35 = o_callV fX5_has 2 5 38 := rfl
theorem aX10_mayTrade_38 (K : Kt) : tl K (lX10_mayTrade) 38 = o_if_ne 54 41 := rfl
theorem aX10_mayTrade_41 (K : Kt) : tl K (lX10_mayTrade) 41 = o_aload 0 42 := rfl
theorem aX10_mayTrade_42 (K : Kt) : tl K (lX10_mayTrade) 42 = o_get 10 3 45 := rfl
theorem aX10_mayTrade_45 (K : Kt) : tl K (lX10_mayTrade) 45 = o_iload 6 47 := rfl
theorem aX10_mayTrade_47 (K : Kt) : tl K (lX10_mayTrade) 47 = o_iload 1 48 := rfl
theorem aX10_mayTrade_48 (K : Kt) : tl K (lX10_mayTrade) 48 = o_callV fX5_has 2 5 51 := rfl
theorem aX10_mayTrade_51 (K : Kt) : tl K (lX10_mayTrade) 51 = o_if_eq 56 54 := rfl
theorem aX10_mayTrade_54 (K : Kt) : tl K (lX10_mayTrade) 54 = o_pushI (nI 0) 55 := rfl
theorem aX10_mayTrade_55 (K : Kt) : tl K (lX10_mayTrade) 55 = o_zret K := rfl
theorem aX10_mayTrade_56 (K : Kt) : tl K (lX10_mayTrade) 56 = o_aload 0 57 := rfl
theorem aX10_mayTrade_57 (K : Kt) : tl K (lX10_mayTrade) 57 = o_get 10 5 60 := rfl
theorem aX10_mayTrade_60 (K : Kt) : tl K (lX10_mayTrade) 60 = o_iload 5 62 := rfl
theorem aX10_mayTrade_62 (K : Kt) : tl K (lX10_mayTrade) 62 = o_iload 1 63 := rfl
theorem aX10_mayTrade_63 (K : Kt) : tl K (lX10_mayTrade) 63 = o_iload 3 64 := rfl
theorem aX10_mayTrade_64 (K : Kt) : tl K (lX10_mayTrade) 64 = o_aload 0 65 := rfl
theorem aX10_mayTrade_65 (K : Kt) : tl K (lX10_mayTrade) 65 = o_get 10 3 68 := rfl
theorem aX10_mayTrade_68 (K : Kt) : tl K (lX10_mayTrade) 68 = o_iload 3 69 := rfl
theorem aX10_mayTrade_69 (K : Kt) : tl K (lX10_mayTrade) 69 = o_iload 4 71 := rfl
theorem aX10_mayTrade_71 (K : Kt) : tl K (lX10_mayTrade) 71 = o_callV fX5_throwsAt 2 5 74 := rfl
theorem aX10_mayTrade_74 (K : Kt) : tl K (lX10_mayTrade) 74 = o_callV fX3_allowsMoved 4 3 77 := rfl
theorem aX10_mayTrade_77 (K : Kt) : tl K (lX10_mayTrade) 77 = o_if_eq 107 80 := rfl
theorem aX10_mayTrade_80 (K : Kt) : tl K (lX10_mayTrade) 80 = o_aload 0 81 := rfl
theorem aX10_mayTrade_81 (K : Kt) : tl K (lX10_mayTrade) 81 = o_get 10 5 84 := rfl
theorem aX10_mayTrade_84 (K : Kt) : tl K (lX10_mayTrade) 84 = o_iload 6 86 := rfl
theorem aX10_mayTrade_86 (K : Kt) : tl K (lX10_mayTrade) 86 = o_iload 3 87 := rfl
theorem aX10_mayTrade_87 (K : Kt) : tl K (lX10_mayTrade) 87 = o_iload 1 88 := rfl
theorem aX10_mayTrade_88 (K : Kt) : tl K (lX10_mayTrade) 88 = o_aload 0 89 := rfl
theorem aX10_mayTrade_89 (K : Kt) : tl K (lX10_mayTrade) 89 = o_get 10 3 92 := rfl
theorem aX10_mayTrade_92 (K : Kt) : tl K (lX10_mayTrade) 92 = o_iload 1 93 := rfl
theorem aX10_mayTrade_93 (K : Kt) : tl K (lX10_mayTrade) 93 = o_iload 2 94 := rfl
theorem aX10_mayTrade_94 (K : Kt) : tl K (lX10_mayTrade) 94 = o_callV fX5_throwsAt 2 5 97 := rfl
theorem aX10_mayTrade_97 (K : Kt) : tl K (lX10_mayTrade) 97 = o_callV fX3_allowsMoved 4 3 100 := rfl
theorem aX10_mayTrade_100 (K : Kt) : tl K (lX10_mayTrade) 100 = o_if_eq 107 103 := rfl
theorem aX10_mayTrade_103 (K : Kt) : tl K (lX10_mayTrade) 103 = o_pushI (nI 1) 104 := rfl
theorem aX10_mayTrade_104 (K : Kt) : tl K (lX10_mayTrade) 104 = o_goto 108 := rfl
theorem aX10_mayTrade_107 (K : Kt) : tl K (lX10_mayTrade) 107 = o_pushI (nI 0) 108 := rfl
theorem aX10_mayTrade_108 (K : Kt) : tl K (lX10_mayTrade) 108 = o_zret K := rfl
theorem eX10_swap {As L : List Value} {w : Wd} {K : Kt} (hw : wds As ≤ 7) (hL : ent 7 As = L) (h : RR (tl K lX10_swap) 0 L [] w) : fX10_swap As w K := ⟨hw, by rw [hL]; exact h⟩
theorem nX10_swap : MonoF fX10_swap := mono_f 7 lX10_swap
theorem aX10_swap_0 (K : Kt) : tl K (lX10_swap) 0 = o_aload 0 1 := rfl
theorem aX10_swap_1 (K : Kt) : tl K (lX10_swap) 1 = o_iload 1 2 := rfl
theorem aX10_swap_2 (K : Kt) : tl K (lX10_swap) 2 = o_iload 2 3 := rfl
theorem aX10_swap_3 (K : Kt) : tl K (lX10_swap) 3 = o_callV fX10_hasOuting 2 10 6 := rfl
theorem aX10_swap_6 (K : Kt) : tl K (lX10_swap) 6 = o_if_eq 19 9 := rfl
theorem aX10_swap_9 (K : Kt) : tl K (lX10_swap) 9 = o_aload 0 10 := rfl
theorem aX10_swap_10 (K : Kt) : tl K (lX10_swap) 10 = o_iload 3 11 := rfl
theorem aX10_swap_11 (K : Kt) : tl K (lX10_swap) 11 = o_iload 4 13 := rfl
theorem aX10_swap_13 (K : Kt) : tl K (lX10_swap) 13 = o_callV fX10_hasOuting 2 10 16 := rfl
theorem aX10_swap_16 (K : Kt) : tl K (lX10_swap) 16 = o_if_ne 27 19 := rfl
theorem aX10_swap_19 (K : Kt) : tl K (lX10_swap) 19 = o_aload 0 20 := rfl
theorem aX10_swap_20 (K : Kt) : tl K (lX10_swap) 20 = o_pushI (nI 1) 21 := rfl
theorem aX10_swap_21 (K : Kt) : tl K (lX10_swap) 21 = o_callV fX10_refuse 1 10 24 := rfl
theorem aX10_swap_24 (K : Kt) : tl K (lX10_swap) 24 = o_pop 25 := rfl
theorem aX10_swap_25 (K : Kt) : tl K (lX10_swap) 25 = o_pushI (nI 0) 26 := rfl
theorem aX10_swap_26 (K : Kt) : tl K (lX10_swap) 26 = o_zret K := rfl
theorem aX10_swap_27 (K : Kt) : tl K (lX10_swap) 27 = o_aload 0 28 := rfl
theorem aX10_swap_28 (K : Kt) : tl K (lX10_swap) 28 = o_iload 1 29 := rfl
theorem aX10_swap_29 (K : Kt) : tl K (lX10_swap) 29 = o_iload 2 30 := rfl
theorem aX10_swap_30 (K : Kt) : tl K (lX10_swap) 30 = o_iload 3 31 := rfl
theorem aX10_swap_31 (K : Kt) : tl K (lX10_swap) 31 = o_iload 4 33 := rfl
theorem aX10_swap_33 (K : Kt) : tl K (lX10_swap) 33 = o_callV fX10_mayTrade 4 10 36 := rfl
theorem aX10_swap_36 (K : Kt) : tl K (lX10_swap) 36 = o_if_ne 47 39 := rfl
theorem aX10_swap_39 (K : Kt) : tl K (lX10_swap) 39 = o_aload 0 40 := rfl
theorem aX10_swap_40 (K : Kt) : tl K (lX10_swap) 40 = o_pushI (nI 5) 41 := rfl
theorem aX10_swap_41 (K : Kt) : tl K (lX10_swap) 41 = o_callV fX10_refuse 1 10 44 := rfl
theorem aX10_swap_44 (K : Kt) : tl K (lX10_swap) 44 = o_pop 45 := rfl
theorem aX10_swap_45 (K : Kt) : tl K (lX10_swap) 45 = o_pushI (nI 0) 46 := rfl
theorem aX10_swap_46 (K : Kt) : tl K (lX10_swap) 46 = o_zret K := rfl
theorem aX10_swap_47 (K : Kt) : tl K (lX10_swap) 47 = o_aload 0 48 := rfl
theorem aX10_swap_48 (K : Kt) : tl K (lX10_swap) 48 = o_get 10 9 51 := rfl
theorem aX10_swap_51 (K : Kt) : tl K (lX10_swap) 51 = o_callV fX4_keep 0 4 54 := rfl
theorem aX10_swap_54 (K : Kt) : tl K (lX10_swap) 54 = o_aload 0 55 := rfl
theorem aX10_swap_55 (K : Kt) : tl K (lX10_swap) 55 = o_get 10 3 58 := rfl
theorem aX10_swap_58 (K : Kt) : tl K (lX10_swap) 58 = o_iload 1 59 := rfl
theorem aX10_swap_59 (K : Kt) : tl K (lX10_swap) 59 = o_iload 2 60 := rfl
theorem aX10_swap_60 (K : Kt) : tl K (lX10_swap) 60 = o_callV fX5_armAt 2 5 63 := rfl
theorem aX10_swap_63 (K : Kt) : tl K (lX10_swap) 63 = o_istore 5 65 := rfl
theorem aX10_swap_65 (K : Kt) : tl K (lX10_swap) 65 = o_aload 0 66 := rfl
theorem aX10_swap_66 (K : Kt) : tl K (lX10_swap) 66 = o_get 10 3 69 := rfl
theorem aX10_swap_69 (K : Kt) : tl K (lX10_swap) 69 = o_iload 3 70 := rfl
theorem aX10_swap_70 (K : Kt) : tl K (lX10_swap) 70 = o_iload 4 72 := rfl
theorem aX10_swap_72 (K : Kt) : tl K (lX10_swap) 72 = o_callV fX5_armAt 2 5 75 := rfl
theorem aX10_swap_75 (K : Kt) : tl K (lX10_swap) 75 = o_istore 6 77 := rfl
theorem aX10_swap_77 (K : Kt) : tl K (lX10_swap) 77 = o_aload 0 78 := rfl
theorem aX10_swap_78 (K : Kt) : tl K (lX10_swap) 78 = o_get 10 3 81 := rfl
theorem aX10_swap_81 (K : Kt) : tl K (lX10_swap) 81 = o_iload 1 82 := rfl
theorem aX10_swap_82 (K : Kt) : tl K (lX10_swap) 82 = o_iload 2 83 := rfl
theorem aX10_swap_83 (K : Kt) : tl K (lX10_swap) 83 = o_iload 6 85 := rfl
theorem aX10_swap_85 (K : Kt) : tl K (lX10_swap) 85 = o_aload 0 86 := rfl
theorem aX10_swap_86 (K : Kt) : tl K (lX10_swap) 86 = o_get 10 3 89 := rfl
theorem aX10_swap_89 (K : Kt) : tl K (lX10_swap) 89 = o_iload 1 90 := rfl
theorem aX10_swap_90 (K : Kt) : tl K (lX10_swap) 90 = o_iload 2 91 := rfl
theorem aX10_swap_91 (K : Kt) : tl K (lX10_swap) 91 = o_callV fX5_throwsAt 2 5 94 := rfl
theorem aX10_swap_94 (K : Kt) : tl K (lX10_swap) 94 = o_callV fX5_change 4 5 97 := rfl
theorem aX10_swap_97 (K : Kt) : tl K (lX10_swap) 97 = o_aload 0 98 := rfl
theorem aX10_swap_98 (K : Kt) : tl K (lX10_swap) 98 = o_get 10 3 101 := rfl
theorem aX10_swap_101 (K : Kt) : tl K (lX10_swap) 101 = o_iload 3 102 := rfl
theorem aX10_swap_102 (K : Kt) : tl K (lX10_swap) 102 = o_iload 4 104 := rfl
theorem aX10_swap_104 (K : Kt) : tl K (lX10_swap) 104 = o_iload 5 106 := rfl
theorem aX10_swap_106 (K : Kt) : tl K (lX10_swap) 106 = o_aload 0 107 := rfl
set_option maxRecDepth 8000 in
theorem aX10_swap_107 (K : Kt) : tl K (lX10_swap) 107 = o_get 10 3 110 := rfl
set_option maxRecDepth 8000 in
theorem aX10_swap_110 (K : Kt) : tl K (lX10_swap) 110 = o_iload 3 111 := rfl
set_option maxRecDepth 8000 in
theorem aX10_swap_111 (K : Kt) : tl K (lX10_swap) 111 = o_iload 4 113 := rfl
set_option maxRecDepth 8000 in
theorem aX10_swap_113 (K : Kt) : tl K (lX10_swap) 113 = o_callV fX5_throwsAt 2 5 116 := rfl
set_option maxRecDepth 8000 in
theorem aX10_swap_116 (K : Kt) : tl K (lX10_swap) 116 = o_callV fX5_change 4 5 119 := rfl
set_option maxRecDepth 8000 in
theorem aX10_swap_119 (K : Kt) : tl K (lX10_swap) 119 = o_aload 0 120 := rfl
set_option maxRecDepth 8000 in
theorem aX10_swap_120 (K : Kt) : tl K (lX10_swap) 120 = o_pushI (nI 0) 121 := rfl
set_option maxRecDepth 8000 in
theorem aX10_swap_121 (K : Kt) : tl K (lX10_swap) 121 = o_callV fX10_answer 1 10 124 := rfl
set_option maxRecDepth 8000 in
theorem aX10_swap_124 (K : Kt) : tl K (lX10_swap) 124 = o_pop 125 := rfl
set_option maxRecDepth 8000 in
theorem aX10_swap_125 (K : Kt) : tl K (lX10_swap) 125 = o_pushI (nI 1) 126 := rfl
set_option maxRecDepth 8000 in
theorem aX10_swap_126 (K : Kt) : tl K (lX10_swap) 126 = o_zret K := rfl
