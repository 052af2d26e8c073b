theorem eX11_laysGain {As L : List Value} {w : Wd} {K : Kt} (hw : wds As ≤ 7) (hL : ent 7 As = L) (h : RR (tl K lX11_laysGain) 0 L [] w) : fX11_laysGain As w K := ⟨hw, by rw [hL]; exact h⟩
theorem nX11_laysGain : MonoF fX11_laysGain := mono_f 7 lX11_laysGain
theorem aX11_laysGain_0 (K : Kt) : tl K (lX11_laysGain) 0 = o_pushI (nI 0) 1 := rfl
theorem aX11_laysGain_1 (K : Kt) : tl K (lX11_laysGain) 1 = o_istore 1 2 := rfl
theorem aX11_laysGain_2 (K : Kt) : tl K (lX11_laysGain) 2 = o_pushI (nI 0) 3 := rfl
theorem aX11_laysGain_3 (K : Kt) : tl K (lX11_laysGain) 3 = o_istore 2 4 := rfl
theorem aX11_laysGain_4 (K : Kt) : tl K (lX11_laysGain) 4 = o_iload 2 5 := rfl
theorem aX11_laysGain_5 (K : Kt) : tl K (lX11_laysGain) 5 = o_aload 0 6 := rfl
theorem aX11_laysGain_6 (K : Kt) : tl K (lX11_laysGain) 6 = o_get 11 7 9 := rfl
theorem aX11_laysGain_9 (K : Kt) : tl K (lX11_laysGain) 9 = o_pushI (nI 1) 10 := rfl
theorem aX11_laysGain_10 (K : Kt) : tl K (lX11_laysGain) 10 = o_iald 11 := rfl
theorem aX11_laysGain_11 (K : Kt) : tl K (lX11_laysGain) 11 = o_icmp_ge 141 14 := rfl
theorem aX11_laysGain_14 (K : Kt) : tl K (lX11_laysGain) 14 = o_pushI (nI 0) 15 := rfl
theorem aX11_laysGain_15 (K : Kt) : tl K (lX11_laysGain) 15 = o_istore 3 16 := rfl
theorem aX11_laysGain_16 (K : Kt) : tl K (lX11_laysGain) 16 = o_iload 3 17 := rfl
theorem aX11_laysGain_17 (K : Kt) : tl K (lX11_laysGain) 17 = o_aload 0 18 := rfl
theorem aX11_laysGain_18 (K : Kt) : tl K (lX11_laysGain) 18 = o_get 11 7 21 := rfl
theorem aX11_laysGain_21 (K : Kt) : tl K (lX11_laysGain) 21 = o_pushI (nI 106) 23 := rfl
theorem aX11_laysGain_23 (K : Kt) : tl K (lX11_laysGain) 23 = o_iload 2 24 := rfl
theorem aX11_laysGain_24 (K : Kt) : tl K (lX11_laysGain) 24 = o_iadd 25 := rfl
theorem aX11_laysGain_25 (K : Kt) : tl K (lX11_laysGain) 25 = o_iald 26 := rfl
theorem aX11_laysGain_26 (K : Kt) : tl K (lX11_laysGain) 26 = o_icmp_ge 135 29 := rfl
theorem aX11_laysGain_29 (K : Kt) : tl K (lX11_laysGain) 29 = o_aload 0 30 := rfl
theorem aX11_laysGain_30 (K : Kt) : tl K (lX11_laysGain) 30 = o_iload 2 31 := rfl
theorem aX11_laysGain_31 (K : Kt) : tl K (lX11_laysGain) 31 = o_iload 3 32 := rfl
theorem aX11_laysGain_32 (K : Kt) : tl K (lX11_laysGain) 32 = o_callV fX11_throwsAt 2 11 35 := rfl
theorem aX11_laysGain_35 (K : Kt) : tl K (lX11_laysGain) 35 = o_istore 4 37 := rfl
theorem aX11_laysGain_37 (K : Kt) : tl K (lX11_laysGain) 37 = o_pushI (nI 0) 38 := rfl
theorem aX11_laysGain_38 (K : Kt) : tl K (lX11_laysGain) 38 = o_istore 5 40 := rfl
theorem aX11_laysGain_40 (K : Kt) : tl K (lX11_laysGain) 40 = o_iload 5 42 := rfl
theorem aX11_laysGain_42 (K : Kt) : tl K (lX11_laysGain) 42 = o_aload 0 43 := rfl
theorem aX11_laysGain_43 (K : Kt) : tl K (lX11_laysGain) 43 = o_get 11 7 46 := rfl
theorem aX11_laysGain_46 (K : Kt) : tl K (lX11_laysGain) 46 = o_pushI (nI 0) 47 := rfl
theorem aX11_laysGain_47 (K : Kt) : tl K (lX11_laysGain) 47 = o_iald 48 := rfl
theorem aX11_laysGain_48 (K : Kt) : tl K (lX11_laysGain) 48 = o_icmp_ge 129 51 := rfl
theorem aX11_laysGain_51 (K : Kt) : tl K (lX11_laysGain) 51 = o_aload 0 52 := rfl
theorem aX11_laysGain_52 (K : Kt) : tl K (lX11_laysGain) 52 = o_iload 5 54 := rfl
theorem aX11_laysGain_54 (K : Kt) : tl K (lX11_laysGain) 54 = o_iload 2 55 := rfl
theorem aX11_laysGain_55 (K : Kt) : tl K (lX11_laysGain) 55 = o_iload 4 57 := rfl
theorem aX11_laysGain_57 (K : Kt) : tl K (lX11_laysGain) 57 = o_callV fX11_worthOf 3 11 60 := rfl
theorem aX11_laysGain_60 (K : Kt) : tl K (lX11_laysGain) 60 = o_aload 0 61 := rfl
theorem aX11_laysGain_61 (K : Kt) : tl K (lX11_laysGain) 61 = o_aload 0 62 := rfl
theorem aX11_laysGain_62 (K : Kt) : tl K (lX11_laysGain) 62 = o_iload 2 63 := rfl
theorem aX11_laysGain_63 (K : Kt) : tl K (lX11_laysGain) 63 = o_iload 3 64 := rfl
theorem aX11_laysGain_64 (K : Kt) : tl K (lX11_laysGain) 64 = o_callV fX11_who 2 11 67 := rfl
theorem aX11_laysGain_67 (K : Kt) : tl K (lX11_laysGain) 67 = o_iload 2 68 := rfl
theorem aX11_laysGain_68 (K : Kt) : tl K (lX11_laysGain) 68 = o_iload 4 70 := rfl
theorem aX11_laysGain_70 (K : Kt) : tl K (lX11_laysGain) 70 = o_callV fX11_worthOf 3 11 73 := rfl
theorem aX11_laysGain_73 (K : Kt) : tl K (lX11_laysGain) 73 = o_isub 74 := rfl
theorem aX11_laysGain_74 (K : Kt) : tl K (lX11_laysGain) 74 = o_istore 6 76 := rfl
theorem aX11_laysGain_76 (K : Kt) : tl K (lX11_laysGain) 76 = o_iload 6 78 := rfl
theorem aX11_laysGain_78 (K : Kt) : tl K (lX11_laysGain) 78 = o_iload 1 79 := rfl
theorem aX11_laysGain_79 (K : Kt) : tl K (lX11_laysGain) 79 = o_icmp_le 123 82 := rfl
theorem aX11_laysGain_82 (K : Kt) : tl K (lX11_laysGain) 82 = o_aload 0 83 := rfl
theorem aX11_laysGain_83 (K : Kt) : tl K (lX11_laysGain) 83 = o_iload 5 85 := rfl
theorem aX11_laysGain_85 (K : Kt) : tl K (lX11_laysGain) 85 = o_iload 2 86 := rfl
theorem aX11_laysGain_86 (K : Kt) : tl K (lX11_laysGain) 86 = o_callV fX11_isIn 2 11 89 := rfl
theorem aX11_laysGain_89 (K : Kt) : tl K (lX11_laysGain) 89 = o_if_ne 123 92 := rfl
theorem aX11_laysGain_92 (K : Kt) : tl K (lX11_laysGain) 92 = o_aload 0 93 := rfl
theorem aX11_laysGain_93 (K : Kt) : tl K (lX11_laysGain) 93 = o_iload 5 95 := rfl
theorem aX11_laysGain_95 (K : Kt) : tl K (lX11_laysGain) 95 = o_iload 2 96 := rfl
theorem aX11_laysGain_96 (K : Kt) : tl K (lX11_laysGain) 96 = o_iload 4 98 := rfl
theorem aX11_laysGain_98 (K : Kt) : tl K (lX11_laysGain) 98 = o_callV fX11_isAloneAllowed 3 11 101 := rfl
set_option maxRecDepth 8000 in
theorem aX11_laysGain_101 (K : Kt) : tl K (lX11_laysGain) 101 = o_if_eq 123 104 := rfl
set_option maxRecDepth 8000 in
theorem aX11_laysGain_104 (K : Kt) : tl K (lX11_laysGain) 104 = o_iload 6 106 := rfl
set_option maxRecDepth 8000 in
theorem aX11_laysGain_106 (K : Kt) : tl K (lX11_laysGain) 106 = o_istore 1 107 := rfl
set_option maxRecDepth 8000 in
theorem aX11_laysGain_107 (K : Kt) : tl K (lX11_laysGain) 107 = o_aload 0 108 := rfl
set_option maxRecDepth 8000 in
theorem aX11_laysGain_108 (K : Kt) : tl K (lX11_laysGain) 108 = o_aload 0 109 := rfl
set_option maxRecDepth 8000 in
theorem aX11_laysGain_109 (K : Kt) : tl K (lX11_laysGain) 109 = o_iload 2 110 := rfl
set_option maxRecDepth 8000 in
theorem aX11_laysGain_110 (K : Kt) : tl K (lX11_laysGain) 110 = o_iload 3 111 := rfl
set_option maxRecDepth 8000 in
theorem aX11_laysGain_111 (K : Kt) : tl K (lX11_laysGain) 111 = o_callV fX11_slot 2 11 114 := rfl
set_option maxRecDepth 8000 in
theorem aX11_laysGain_114 (K : Kt) : tl K (lX11_laysGain) 114 = o_putI 11 26 117 := rfl
set_option maxRecDepth 8000 in
theorem aX11_laysGain_117 (K : Kt) : tl K (lX11_laysGain) 117 = o_aload 0 118 := rfl
set_option maxRecDepth 8000 in
theorem aX11_laysGain_118 (K : Kt) : tl K (lX11_laysGain) 118 = o_iload 5 120 := rfl
set_option maxRecDepth 8000 in
theorem aX11_laysGain_120 (K : Kt) : tl K (lX11_laysGain) 120 = o_putI 11 27 123 := rfl
set_option maxRecDepth 8000 in
theorem aX11_laysGain_123 (K : Kt) : tl K (lX11_laysGain) 123 = o_iinc 5 (nI 1) 126 := rfl
set_option maxRecDepth 8000 in
theorem aX11_laysGain_126 (K : Kt) : tl K (lX11_laysGain) 126 = o_goto 40 := rfl
set_option maxRecDepth 8000 in
theorem aX11_laysGain_129 (K : Kt) : tl K (lX11_laysGain) 129 = o_iinc 3 (nI 1) 132 := rfl
set_option maxRecDepth 8000 in
theorem aX11_laysGain_132 (K : Kt) : tl K (lX11_laysGain) 132 = o_goto 16 := rfl
set_option maxRecDepth 8000 in
theorem aX11_laysGain_135 (K : Kt) : tl K (lX11_laysGain) 135 = o_iinc 2 (nI 1) 138 := rfl
set_option maxRecDepth 8000 in
theorem aX11_laysGain_138 (K : Kt) : tl K (lX11_laysGain) 138 = o_goto 4 := rfl
set_option maxRecDepth 8000 in
theorem aX11_laysGain_141 (K : Kt) : tl K (lX11_laysGain) 141 = o_iload 1 142 := rfl
set_option maxRecDepth 8000 in
theorem aX11_laysGain_142 (K : Kt) : tl K (lX11_laysGain) 142 = o_if_le 149 145 := rfl
set_option maxRecDepth 8000 in
theorem aX11_laysGain_145 (K : Kt) : tl K (lX11_laysGain) 145 = o_pushI (nI 1) 146 := rfl
set_option maxRecDepth 8000 in
theorem aX11_laysGain_146 (K : Kt) : tl K (lX11_laysGain) 146 = o_goto 150 := rfl
set_option maxRecDepth 8000 in
theorem aX11_laysGain_149 (K : Kt) : tl K (lX11_laysGain) 149 = o_pushI (nI 0) 150 := rfl
set_option maxRecDepth 8000 in
theorem aX11_laysGain_150 (K : Kt) : tl K (lX11_laysGain) 150 = o_zret K := rfl
theorem eX11_better {As L : List Value} {w : Wd} {K : Kt} (hw : wds As ≤ 2) (hL : ent 2 As = L) (h : RR (tl K lX11_better) 0 L [] w) : fX11_better As w K := ⟨hw, by rw [hL]; exact h⟩
theorem nX11_better : MonoF fX11_better := mono_f 2 lX11_better
theorem aX11_better_0 (K : Kt) : tl K (lX11_better) 0 = o_aload 0 1 := rfl
theorem aX11_better_1 (K : Kt) : tl K (lX11_better) 1 = o_aload 0 2 := rfl
theorem aX11_better_2 (K : Kt) : tl K (lX11_better) 2 = o_get 11 6 5 := rfl
theorem aX11_better_5 (K : Kt) : tl K (lX11_better) 5 = o_callS fX11_unless 1 8 := rfl
theorem aX11_better_8 (K : Kt) : tl K (lX11_better) 8 = o_callV fX11_isRefused 1 11 11 := rfl
theorem aX11_better_11 (K : Kt) : tl K (lX11_better) 11 = o_if_eq 16 14 := rfl
theorem aX11_better_14 (K : Kt) : tl K (lX11_better) 14 = o_pushI ((-1)) 15 := rfl
theorem aX11_better_15 (K : Kt) : tl K (lX11_better) 15 = o_iret K := rfl
theorem aX11_better_16 (K : Kt) : tl K (lX11_better) 16 = o_aload 0 17 := rfl
theorem aX11_better_17 (K : Kt) : tl K (lX11_better) 17 = o_callV fX11_remembers 0 11 20 := rfl
theorem aX11_better_20 (K : Kt) : tl K (lX11_better) 20 = o_pushI (nI 0) 21 := rfl
theorem aX11_better_21 (K : Kt) : tl K (lX11_better) 21 = o_istore 1 22 := rfl
theorem aX11_better_22 (K : Kt) : tl K (lX11_better) 22 = o_iload 1 23 := rfl
theorem aX11_better_23 (K : Kt) : tl K (lX11_better) 23 = o_pushI (nI 99) 25 := rfl
theorem aX11_better_25 (K : Kt) : tl K (lX11_better) 25 = o_icmp_ge 57 28 := rfl
theorem aX11_better_28 (K : Kt) : tl K (lX11_better) 28 = o_aload 0 29 := rfl
theorem aX11_better_29 (K : Kt) : tl K (lX11_better) 29 = o_callV fX11_laysGain 0 11 32 := rfl
theorem aX11_better_32 (K : Kt) : tl K (lX11_better) 32 = o_if_eq 57 35 := rfl
theorem aX11_better_35 (K : Kt) : tl K (lX11_better) 35 = o_aload 0 36 := rfl
theorem aX11_better_36 (K : Kt) : tl K (lX11_better) 36 = o_get 11 7 39 := rfl
theorem aX11_better_39 (K : Kt) : tl K (lX11_better) 39 = o_pushI (nI 126) 41 := rfl
theorem aX11_better_41 (K : Kt) : tl K (lX11_better) 41 = o_aload 0 42 := rfl
theorem aX11_better_42 (K : Kt) : tl K (lX11_better) 42 = o_get 11 26 45 := rfl
theorem aX11_better_45 (K : Kt) : tl K (lX11_better) 45 = o_iadd 46 := rfl
theorem aX11_better_46 (K : Kt) : tl K (lX11_better) 46 = o_aload 0 47 := rfl
theorem aX11_better_47 (K : Kt) : tl K (lX11_better) 47 = o_get 11 27 50 := rfl
theorem aX11_better_50 (K : Kt) : tl K (lX11_better) 50 = o_iast 51 := rfl
theorem aX11_better_51 (K : Kt) : tl K (lX11_better) 51 = o_iinc 1 (nI 1) 54 := rfl
theorem aX11_better_54 (K : Kt) : tl K (lX11_better) 54 = o_goto 22 := rfl
theorem aX11_better_57 (K : Kt) : tl K (lX11_better) 57 = o_iload 1 58 := rfl
theorem aX11_better_58 (K : Kt) : tl K (lX11_better) 58 = o_iret K := rfl
theorem eX11_fills {As L : List Value} {w : Wd} {K : Kt} (hw : wds As ≤ 8) (hL : ent 8 As = L) (h : RR (tl K lX11_fills) 0 L [] w) : fX11_fills As w K := ⟨hw, by rw [hL]; exact h⟩
theorem nX11_fills : MonoF fX11_fills := mono_f 8 lX11_fills
theorem aX11_fills_0 (K : Kt) : tl K (lX11_fills) 0 = o_pushI (nI 0) 1 := rfl
theorem aX11_fills_1 (K : Kt) : tl K (lX11_fills) 1 = o_istore 2 2 := rfl
theorem aX11_fills_2 (K : Kt) : tl K (lX11_fills) 2 = o_pushI (nI 0) 3 := rfl
theorem aX11_fills_3 (K : Kt) : tl K (lX11_fills) 3 = o_istore 3 4 := rfl
theorem aX11_fills_4 (K : Kt) : tl K (lX11_fills) 4 = o_iload 3 5 := rfl
theorem aX11_fills_5 (K : Kt) : tl K (lX11_fills) 5 = o_pushI ((-1)) 6 := rfl
theorem aX11_fills_6 (K : Kt) : tl K (lX11_fills) 6 = o_icmp_eq 107 9 := rfl
theorem aX11_fills_9 (K : Kt) : tl K (lX11_fills) 9 = o_pushI ((-1)) 10 := rfl
theorem aX11_fills_10 (K : Kt) : tl K (lX11_fills) 10 = o_istore 3 11 := rfl
theorem aX11_fills_11 (K : Kt) : tl K (lX11_fills) 11 = o_pushI (nI 0) 12 := rfl
theorem aX11_fills_12 (K : Kt) : tl K (lX11_fills) 12 = o_istore 4 14 := rfl
theorem aX11_fills_14 (K : Kt) : tl K (lX11_fills) 14 = o_pushI (nI 0) 15 := rfl
theorem aX11_fills_15 (K : Kt) : tl K (lX11_fills) 15 = o_istore 5 17 := rfl
theorem aX11_fills_17 (K : Kt) : tl K (lX11_fills) 17 = o_pushI (nI 0) 18 := rfl
theorem aX11_fills_18 (K : Kt) : tl K (lX11_fills) 18 = o_istore 6 20 := rfl
theorem aX11_fills_20 (K : Kt) : tl K (lX11_fills) 20 = o_iload 6 22 := rfl
theorem aX11_fills_22 (K : Kt) : tl K (lX11_fills) 22 = o_aload 0 23 := rfl
theorem aX11_fills_23 (K : Kt) : tl K (lX11_fills) 23 = o_get 11 7 26 := rfl
theorem aX11_fills_26 (K : Kt) : tl K (lX11_fills) 26 = o_pushI (nI 0) 27 := rfl
theorem aX11_fills_27 (K : Kt) : tl K (lX11_fills) 27 = o_iald 28 := rfl
theorem aX11_fills_28 (K : Kt) : tl K (lX11_fills) 28 = o_icmp_ge 88 31 := rfl
theorem aX11_fills_31 (K : Kt) : tl K (lX11_fills) 31 = o_aload 0 32 := rfl
theorem aX11_fills_32 (K : Kt) : tl K (lX11_fills) 32 = o_iload 6 34 := rfl
theorem aX11_fills_34 (K : Kt) : tl K (lX11_fills) 34 = o_iload 1 35 := rfl
theorem aX11_fills_35 (K : Kt) : tl K (lX11_fills) 35 = o_callV fX11_mostOf 2 11 38 := rfl
theorem aX11_fills_38 (K : Kt) : tl K (lX11_fills) 38 = o_istore 7 40 := rfl
theorem aX11_fills_40 (K : Kt) : tl K (lX11_fills) 40 = o_iload 7 42 := rfl
theorem aX11_fills_42 (K : Kt) : tl K (lX11_fills) 42 = o_if_le 82 45 := rfl
theorem aX11_fills_45 (K : Kt) : tl K (lX11_fills) 45 = o_iload 3 46 := rfl
theorem aX11_fills_46 (K : Kt) : tl K (lX11_fills) 46 = o_pushI ((-1)) 47 := rfl
theorem aX11_fills_47 (K : Kt) : tl K (lX11_fills) 47 = o_icmp_eq 64 50 := rfl
theorem aX11_fills_50 (K : Kt) : tl K (lX11_fills) 50 = o_aload 0 51 := rfl
theorem aX11_fills_51 (K : Kt) : tl K (lX11_fills) 51 = o_iload 6 53 := rfl
theorem aX11_fills_53 (K : Kt) : tl K (lX11_fills) 53 = o_iload 1 54 := rfl
theorem aX11_fills_54 (K : Kt) : tl K (lX11_fills) 54 = o_iload 7 56 := rfl
theorem aX11_fills_56 (K : Kt) : tl K (lX11_fills) 56 = o_callV fX11_worthOf 3 11 59 := rfl
theorem aX11_fills_59 (K : Kt) : tl K (lX11_fills) 59 = o_iload 5 61 := rfl
theorem aX11_fills_61 (K : Kt) : tl K (lX11_fills) 61 = o_icmp_le 82 64 := rfl
theorem aX11_fills_64 (K : Kt) : tl K (lX11_fills) 64 = o_iload 6 66 := rfl
theorem aX11_fills_66 (K : Kt) : tl K (lX11_fills) 66 = o_istore 3 67 := rfl
theorem aX11_fills_67 (K : Kt) : tl K (lX11_fills) 67 = o_iload 7 69 := rfl
theorem aX11_fills_69 (K : Kt) : tl K (lX11_fills) 69 = o_istore 4 71 := rfl
theorem aX11_fills_71 (K : Kt) : tl K (lX11_fills) 71 = o_aload 0 72 := rfl
theorem aX11_fills_72 (K : Kt) : tl K (lX11_fills) 72 = o_iload 6 74 := rfl
theorem aX11_fills_74 (K : Kt) : tl K (lX11_fills) 74 = o_iload 1 75 := rfl
theorem aX11_fills_75 (K : Kt) : tl K (lX11_fills) 75 = o_iload 7 77 := rfl
theorem aX11_fills_77 (K : Kt) : tl K (lX11_fills) 77 = o_callV fX11_worthOf 3 11 80 := rfl
theorem aX11_fills_80 (K : Kt) : tl K (lX11_fills) 80 = o_istore 5 82 := rfl
theorem aX11_fills_82 (K : Kt) : tl K (lX11_fills) 82 = o_iinc 6 (nI 1) 85 := rfl
theorem aX11_fills_85 (K : Kt) : tl K (lX11_fills) 85 = o_goto 20 := rfl
theorem aX11_fills_88 (K : Kt) : tl K (lX11_fills) 88 = o_iload 3 89 := rfl
theorem aX11_fills_89 (K : Kt) : tl K (lX11_fills) 89 = o_pushI ((-1)) 90 := rfl
theorem aX11_fills_90 (K : Kt) : tl K (lX11_fills) 90 = o_icmp_eq 104 93 := rfl
theorem aX11_fills_93 (K : Kt) : tl K (lX11_fills) 93 = o_aload 0 94 := rfl
theorem aX11_fills_94 (K : Kt) : tl K (lX11_fills) 94 = o_iload 1 95 := rfl
theorem aX11_fills_95 (K : Kt) : tl K (lX11_fills) 95 = o_iload 3 96 := rfl
theorem aX11_fills_96 (K : Kt) : tl K (lX11_fills) 96 = o_iload 4 98 := rfl
theorem aX11_fills_98 (K : Kt) : tl K (lX11_fills) 98 = o_callV fX11_comes 3 11 101 := rfl
theorem aX11_fills_101 (K : Kt) : tl K (lX11_fills) 101 = o_iinc 2 (nI 1) 104 := rfl
theorem aX11_fills_104 (K : Kt) : tl K (lX11_fills) 104 = o_goto 4 := rfl
theorem aX11_fills_107 (K : Kt) : tl K (lX11_fills) 107 = o_iload 2 108 := rfl
set_option maxRecDepth 8000 in
theorem aX11_fills_108 (K : Kt) : tl K (lX11_fills) 108 = o_iret K := rfl
theorem eX11_fill {As L : List Value} {w : Wd} {K : Kt} (hw : wds As ≤ 2) (hL : ent 2 As = L) (h : RR (tl K lX11_fill) 0 L [] w) : fX11_fill As w K := ⟨hw, by rw [hL]; exact h⟩
theorem nX11_fill : MonoF fX11_fill := mono_f 2 lX11_fill
theorem aX11_fill_0 (K : Kt) : tl K (lX11_fill) 0 = o_aload 0 1 := rfl
theorem aX11_fill_1 (K : Kt) : tl K (lX11_fill) 1 = o_aload 0 2 := rfl
theorem aX11_fill_2 (K : Kt) : tl K (lX11_fill) 2 = o_iload 1 3 := rfl
theorem aX11_fill_3 (K : Kt) : tl K (lX11_fill) 3 = o_callV fX11_isGame 1 11 6 := rfl
theorem aX11_fill_6 (K : Kt) : tl K (lX11_fill) 6 = o_callS fX11_unless 1 9 := rfl
theorem aX11_fill_9 (K : Kt) : tl K (lX11_fill) 9 = o_callV fX11_isRefused 1 11 12 := rfl
theorem aX11_fill_12 (K : Kt) : tl K (lX11_fill) 12 = o_if_eq 17 15 := rfl
theorem aX11_fill_15 (K : Kt) : tl K (lX11_fill) 15 = o_pushI ((-1)) 16 := rfl
theorem aX11_fill_16 (K : Kt) : tl K (lX11_fill) 16 = o_iret K := rfl
theorem aX11_fill_17 (K : Kt) : tl K (lX11_fill) 17 = o_aload 0 18 := rfl
theorem aX11_fill_18 (K : Kt) : tl K (lX11_fill) 18 = o_callV fX11_remembers 0 11 21 := rfl
theorem aX11_fill_21 (K : Kt) : tl K (lX11_fill) 21 = o_aload 0 22 := rfl
theorem aX11_fill_22 (K : Kt) : tl K (lX11_fill) 22 = o_iload 1 23 := rfl
theorem aX11_fill_23 (K : Kt) : tl K (lX11_fill) 23 = o_callV fX11_fills 1 11 26 := rfl
theorem aX11_fill_26 (K : Kt) : tl K (lX11_fill) 26 = o_iret K := rfl
theorem eX11_fillAll {As L : List Value} {w : Wd} {K : Kt} (hw : wds As ≤ 3) (hL : ent 3 As = L) (h : RR (tl K lX11_fillAll) 0 L [] w) : fX11_fillAll As w K := ⟨hw, by rw [hL]; exact h⟩
theorem nX11_fillAll : MonoF fX11_fillAll := mono_f 3 lX11_fillAll
theorem aX11_fillAll_0 (K : Kt) : tl K (lX11_fillAll) 0 = o_aload 0 1 := rfl
theorem aX11_fillAll_1 (K : Kt) : tl K (lX11_fillAll) 1 = o_aload 0 2 := rfl
theorem aX11_fillAll_2 (K : Kt) : tl K (lX11_fillAll) 2 = o_get 11 6 5 := rfl
theorem aX11_fillAll_5 (K : Kt) : tl K (lX11_fillAll) 5 = o_callS fX11_unless 1 8 := rfl
theorem aX11_fillAll_8 (K : Kt) : tl K (lX11_fillAll) 8 = o_callV fX11_isRefused 1 11 11 := rfl
theorem aX11_fillAll_11 (K : Kt) : tl K (lX11_fillAll) 11 = o_if_eq 16 14 := rfl
theorem aX11_fillAll_14 (K : Kt) : tl K (lX11_fillAll) 14 = o_pushI ((-1)) 15 := rfl
theorem aX11_fillAll_15 (K : Kt) : tl K (lX11_fillAll) 15 = o_iret K := rfl
theorem aX11_fillAll_16 (K : Kt) : tl K (lX11_fillAll) 16 = o_aload 0 17 := rfl
theorem aX11_fillAll_17 (K : Kt) : tl K (lX11_fillAll) 17 = o_callV fX11_remembers 0 11 20 := rfl
theorem aX11_fillAll_20 (K : Kt) : tl K (lX11_fillAll) 20 = o_pushI (nI 0) 21 := rfl
theorem aX11_fillAll_21 (K : Kt) : tl K (lX11_fillAll) 21 = o_istore 1 22 := rfl
theorem aX11_fillAll_22 (K : Kt) : tl K (lX11_fillAll) 22 = o_pushI (nI 0) 23 := rfl
theorem aX11_fillAll_23 (K : Kt) : tl K (lX11_fillAll) 23 = o_istore 2 24 := rfl
theorem aX11_fillAll_24 (K : Kt) : tl K (lX11_fillAll) 24 = o_iload 2 25 := rfl
theorem aX11_fillAll_25 (K : Kt) : tl K (lX11_fillAll) 25 = o_aload 0 26 := rfl
theorem aX11_fillAll_26 (K : Kt) : tl K (lX11_fillAll) 26 = o_get 11 7 29 := rfl
theorem aX11_fillAll_29 (K : Kt) : tl K (lX11_fillAll) 29 = o_pushI (nI 1) 30 := rfl
theorem aX11_fillAll_30 (K : Kt) : tl K (lX11_fillAll) 30 = o_iald 31 := rfl
theorem aX11_fillAll_31 (K : Kt) : tl K (lX11_fillAll) 31 = o_icmp_ge 48 34 := rfl
theorem aX11_fillAll_34 (K : Kt) : tl K (lX11_fillAll) 34 = o_iload 1 35 := rfl
theorem aX11_fillAll_35 (K : Kt) : tl K (lX11_fillAll) 35 = o_aload 0 36 := rfl
theorem aX11_fillAll_36 (K : Kt) : tl K (lX11_fillAll) 36 = o_iload 2 37 := rfl
theorem aX11_fillAll_37 (K : Kt) : tl K (lX11_fillAll) 37 = o_callV fX11_fills 1 11 40 := rfl
theorem aX11_fillAll_40 (K : Kt) : tl K (lX11_fillAll) 40 = o_iadd 41 := rfl
theorem aX11_fillAll_41 (K : Kt) : tl K (lX11_fillAll) 41 = o_istore 1 42 := rfl
theorem aX11_fillAll_42 (K : Kt) : tl K (lX11_fillAll) 42 = o_iinc 2 (nI 1) 45 := rfl
theorem aX11_fillAll_45 (K : Kt) : tl K (lX11_fillAll) 45 = o_goto 24 := rfl
theorem aX11_fillAll_48 (K : Kt) : tl K (lX11_fillAll) 48 = o_iload 1 49 := rfl
theorem aX11_fillAll_49 (K : Kt) : tl K (lX11_fillAll) 49 = o_iret K := rfl
theorem eX11_laid {As L : List Value} {w : Wd} {K : Kt} (hw : wds As ≤ 5) (hL : ent 5 As = L) (h : RR (tl K lX11_laid) 0 L [] w) : fX11_laid As w K := ⟨hw, by rw [hL]; exact h⟩
theorem nX11_laid : MonoF fX11_laid := mono_f 5 lX11_laid
theorem aX11_laid_0 (K : Kt) : tl K (lX11_laid) 0 = o_aload 0 1 := rfl
theorem aX11_laid_1 (K : Kt) : tl K (lX11_laid) 1 = o_aload 0 2 := rfl
theorem aX11_laid_2 (K : Kt) : tl K (lX11_laid) 2 = o_iload 1 3 := rfl
theorem aX11_laid_3 (K : Kt) : tl K (lX11_laid) 3 = o_iload 2 4 := rfl
theorem aX11_laid_4 (K : Kt) : tl K (lX11_laid) 4 = o_callV fX11_whyNotBest 2 11 7 := rfl
theorem aX11_laid_7 (K : Kt) : tl K (lX11_laid) 7 = o_callV fX11_isRefused 1 11 10 := rfl
theorem aX11_laid_10 (K : Kt) : tl K (lX11_laid) 10 = o_if_eq 15 13 := rfl
theorem aX11_laid_13 (K : Kt) : tl K (lX11_laid) 13 = o_pushI ((-1)) 14 := rfl
theorem aX11_laid_14 (K : Kt) : tl K (lX11_laid) 14 = o_iret K := rfl
theorem aX11_laid_15 (K : Kt) : tl K (lX11_laid) 15 = o_aload 0 16 := rfl
theorem aX11_laid_16 (K : Kt) : tl K (lX11_laid) 16 = o_iload 1 17 := rfl
theorem aX11_laid_17 (K : Kt) : tl K (lX11_laid) 17 = o_iload 2 18 := rfl
theorem aX11_laid_18 (K : Kt) : tl K (lX11_laid) 18 = o_callV fX11_laysBest 2 11 21 := rfl
theorem aX11_laid_21 (K : Kt) : tl K (lX11_laid) 21 = o_istore 3 22 := rfl
theorem aX11_laid_22 (K : Kt) : tl K (lX11_laid) 22 = o_aload 0 23 := rfl
theorem aX11_laid_23 (K : Kt) : tl K (lX11_laid) 23 = o_callV fX11_remembers 0 11 26 := rfl
theorem aX11_laid_26 (K : Kt) : tl K (lX11_laid) 26 = o_pushI (nI 0) 27 := rfl
theorem aX11_laid_27 (K : Kt) : tl K (lX11_laid) 27 = o_istore 4 29 := rfl
theorem aX11_laid_29 (K : Kt) : tl K (lX11_laid) 29 = o_iload 4 31 := rfl
theorem aX11_laid_31 (K : Kt) : tl K (lX11_laid) 31 = o_iload 2 32 := rfl
theorem aX11_laid_32 (K : Kt) : tl K (lX11_laid) 32 = o_icmp_ge 100 35 := rfl
theorem aX11_laid_35 (K : Kt) : tl K (lX11_laid) 35 = o_aload 0 36 := rfl
theorem aX11_laid_36 (K : Kt) : tl K (lX11_laid) 36 = o_get 11 7 39 := rfl
theorem aX11_laid_39 (K : Kt) : tl K (lX11_laid) 39 = o_pushI (nI 106) 41 := rfl
theorem aX11_laid_41 (K : Kt) : tl K (lX11_laid) 41 = o_iload 1 42 := rfl
theorem aX11_laid_42 (K : Kt) : tl K (lX11_laid) 42 = o_iadd 43 := rfl
theorem aX11_laid_43 (K : Kt) : tl K (lX11_laid) 43 = o_iload 4 45 := rfl
theorem aX11_laid_45 (K : Kt) : tl K (lX11_laid) 45 = o_iadd 46 := rfl
theorem aX11_laid_46 (K : Kt) : tl K (lX11_laid) 46 = o_pushI (nI 0) 47 := rfl
theorem aX11_laid_47 (K : Kt) : tl K (lX11_laid) 47 = o_iast 48 := rfl
theorem aX11_laid_48 (K : Kt) : tl K (lX11_laid) 48 = o_aload 0 49 := rfl
theorem aX11_laid_49 (K : Kt) : tl K (lX11_laid) 49 = o_get 11 21 52 := rfl
theorem aX11_laid_52 (K : Kt) : tl K (lX11_laid) 52 = o_iload 4 54 := rfl
theorem aX11_laid_54 (K : Kt) : tl K (lX11_laid) 54 = o_iald 55 := rfl
theorem aX11_laid_55 (K : Kt) : tl K (lX11_laid) 55 = o_aload 0 56 := rfl
theorem aX11_laid_56 (K : Kt) : tl K (lX11_laid) 56 = o_get 11 7 59 := rfl
theorem aX11_laid_59 (K : Kt) : tl K (lX11_laid) 59 = o_pushI (nI 0) 60 := rfl
theorem aX11_laid_60 (K : Kt) : tl K (lX11_laid) 60 = o_iald 61 := rfl
theorem aX11_laid_61 (K : Kt) : tl K (lX11_laid) 61 = o_icmp_ge 94 64 := rfl
theorem aX11_laid_64 (K : Kt) : tl K (lX11_laid) 64 = o_aload 0 65 := rfl
theorem aX11_laid_65 (K : Kt) : tl K (lX11_laid) 65 = o_iload 1 66 := rfl
theorem aX11_laid_66 (K : Kt) : tl K (lX11_laid) 66 = o_iload 4 68 := rfl
theorem aX11_laid_68 (K : Kt) : tl K (lX11_laid) 68 = o_iadd 69 := rfl
theorem aX11_laid_69 (K : Kt) : tl K (lX11_laid) 69 = o_aload 0 70 := rfl
theorem aX11_laid_70 (K : Kt) : tl K (lX11_laid) 70 = o_get 11 21 73 := rfl
theorem aX11_laid_73 (K : Kt) : tl K (lX11_laid) 73 = o_iload 4 75 := rfl
theorem aX11_laid_75 (K : Kt) : tl K (lX11_laid) 75 = o_iald 76 := rfl
theorem aX11_laid_76 (K : Kt) : tl K (lX11_laid) 76 = o_aload 0 77 := rfl
theorem aX11_laid_77 (K : Kt) : tl K (lX11_laid) 77 = o_aload 0 78 := rfl
theorem aX11_laid_78 (K : Kt) : tl K (lX11_laid) 78 = o_get 11 21 81 := rfl
theorem aX11_laid_81 (K : Kt) : tl K (lX11_laid) 81 = o_iload 4 83 := rfl
theorem aX11_laid_83 (K : Kt) : tl K (lX11_laid) 83 = o_iald 84 := rfl
theorem aX11_laid_84 (K : Kt) : tl K (lX11_laid) 84 = o_iload 1 85 := rfl
theorem aX11_laid_85 (K : Kt) : tl K (lX11_laid) 85 = o_iload 4 87 := rfl
theorem aX11_laid_87 (K : Kt) : tl K (lX11_laid) 87 = o_iadd 88 := rfl
theorem aX11_laid_88 (K : Kt) : tl K (lX11_laid) 88 = o_callV fX11_fullOf 2 11 91 := rfl
theorem aX11_laid_91 (K : Kt) : tl K (lX11_laid) 91 = o_callV fX11_comes 3 11 94 := rfl
theorem aX11_laid_94 (K : Kt) : tl K (lX11_laid) 94 = o_iinc 4 (nI 1) 97 := rfl
theorem aX11_laid_97 (K : Kt) : tl K (lX11_laid) 97 = o_goto 29 := rfl
theorem aX11_laid_100 (K : Kt) : tl K (lX11_laid) 100 = o_iload 3 101 := rfl
theorem aX11_laid_101 (K : Kt) : tl K (lX11_laid) 101 = o_iret K := rfl
theorem eX11_canBecome {As L : List Value} {w : Wd} {K : Kt} (hw : wds As ≤ 4) (hL : ent 4 As = L) (h : RR (tl K lX11_canBecome) 0 L [] w) : fX11_canBecome As w K := ⟨hw, by rw [hL]; exact h⟩
theorem nX11_canBecome : MonoF fX11_canBecome := mono_f 4 lX11_canBecome
theorem aX11_canBecome_0 (K : Kt) : tl K (lX11_canBecome) 0 = o_iload 2 1 := rfl
theorem aX11_canBecome_1 (K : Kt) : tl K (lX11_canBecome) 1 = o_if_ne 14 4 := rfl
theorem aX11_canBecome_4 (K : Kt) : tl K (lX11_canBecome) 4 = o_iload 3 5 := rfl
theorem aX11_canBecome_5 (K : Kt) : tl K (lX11_canBecome) 5 = o_pushI (nI 1) 6 := rfl
theorem aX11_canBecome_6 (K : Kt) : tl K (lX11_canBecome) 6 = o_pushI (nI 99) 8 := rfl
theorem aX11_canBecome_8 (K : Kt) : tl K (lX11_canBecome) 8 = o_callS fX11_in 3 11 := rfl
theorem aX11_canBecome_11 (K : Kt) : tl K (lX11_canBecome) 11 = o_goto 58 := rfl
theorem aX11_canBecome_14 (K : Kt) : tl K (lX11_canBecome) 14 = o_iload 2 15 := rfl
theorem aX11_canBecome_15 (K : Kt) : tl K (lX11_canBecome) 15 = o_pushI (nI 1) 16 := rfl
theorem aX11_canBecome_16 (K : Kt) : tl K (lX11_canBecome) 16 = o_icmp_ne 29 19 := rfl
theorem aX11_canBecome_19 (K : Kt) : tl K (lX11_canBecome) 19 = o_iload 3 20 := rfl
theorem aX11_canBecome_20 (K : Kt) : tl K (lX11_canBecome) 20 = o_pushI (nI 1) 21 := rfl
theorem aX11_canBecome_21 (K : Kt) : tl K (lX11_canBecome) 21 = o_pushI (nI 120) 23 := rfl
theorem aX11_canBecome_23 (K : Kt) : tl K (lX11_canBecome) 23 = o_callS fX11_in 3 26 := rfl
theorem aX11_canBecome_26 (K : Kt) : tl K (lX11_canBecome) 26 = o_goto 58 := rfl
theorem aX11_canBecome_29 (K : Kt) : tl K (lX11_canBecome) 29 = o_iload 2 30 := rfl
theorem aX11_canBecome_30 (K : Kt) : tl K (lX11_canBecome) 30 = o_pushI (nI 2) 31 := rfl
theorem aX11_canBecome_31 (K : Kt) : tl K (lX11_canBecome) 31 = o_icmp_ne 51 34 := rfl
theorem aX11_canBecome_34 (K : Kt) : tl K (lX11_canBecome) 34 = o_iload 3 35 := rfl
theorem aX11_canBecome_35 (K : Kt) : tl K (lX11_canBecome) 35 = o_pushI (nI 0) 36 := rfl
theorem aX11_canBecome_36 (K : Kt) : tl K (lX11_canBecome) 36 = o_aload 0 37 := rfl
theorem aX11_canBecome_37 (K : Kt) : tl K (lX11_canBecome) 37 = o_get 11 7 40 := rfl
theorem aX11_canBecome_40 (K : Kt) : tl K (lX11_canBecome) 40 = o_pushI (nI 22) 42 := rfl
theorem aX11_canBecome_42 (K : Kt) : tl K (lX11_canBecome) 42 = o_iload 1 43 := rfl
theorem aX11_canBecome_43 (K : Kt) : tl K (lX11_canBecome) 43 = o_iadd 44 := rfl
theorem aX11_canBecome_44 (K : Kt) : tl K (lX11_canBecome) 44 = o_iald 45 := rfl
theorem aX11_canBecome_45 (K : Kt) : tl K (lX11_canBecome) 45 = o_callS fX11_in 3 48 := rfl
theorem aX11_canBecome_48 (K : Kt) : tl K (lX11_canBecome) 48 = o_goto 58 := rfl
theorem aX11_canBecome_51 (K : Kt) : tl K (lX11_canBecome) 51 = o_iload 3 52 := rfl
theorem aX11_canBecome_52 (K : Kt) : tl K (lX11_canBecome) 52 = o_pushI (nI 0) 53 := rfl
theorem aX11_canBecome_53 (K : Kt) : tl K (lX11_canBecome) 53 = o_pushI (nI 9) 55 := rfl
theorem aX11_canBecome_55 (K : Kt) : tl K (lX11_canBecome) 55 = o_callS fX11_in 3 58 := rfl
theorem aX11_canBecome_58 (K : Kt) : tl K (lX11_canBecome) 58 = o_zret K := rfl
theorem eX11_become {As L : List Value} {w : Wd} {K : Kt} (hw : wds As ≤ 7) (hL : ent 7 As = L) (h : RR (tl K lX11_become) 0 L [] w) : fX11_become As w K := ⟨hw, by rw [hL]; exact h⟩
theorem nX11_become : MonoF fX11_become := mono_f 7 lX11_become
theorem aX11_become_0 (K : Kt) : tl K (lX11_become) 0 = o_aload 0 1 := rfl
theorem aX11_become_1 (K : Kt) : tl K (lX11_become) 1 = o_iload 1 2 := rfl
theorem aX11_become_2 (K : Kt) : tl K (lX11_become) 2 = o_callV fX11_isArm 1 11 5 := rfl
theorem aX11_become_5 (K : Kt) : tl K (lX11_become) 5 = o_if_eq 21 8 := rfl
theorem aX11_become_8 (K : Kt) : tl K (lX11_become) 8 = o_iload 2 9 := rfl
theorem aX11_become_9 (K : Kt) : tl K (lX11_become) 9 = o_pushI (nI 0) 10 := rfl
theorem aX11_become_10 (K : Kt) : tl K (lX11_become) 10 = o_pushI (nI 3) 11 := rfl
theorem aX11_become_11 (K : Kt) : tl K (lX11_become) 11 = o_callS fX11_in 3 14 := rfl
theorem aX11_become_14 (K : Kt) : tl K (lX11_become) 14 = o_if_eq 21 17 := rfl
theorem aX11_become_17 (K : Kt) : tl K (lX11_become) 17 = o_pushI (nI 1) 18 := rfl
theorem aX11_become_18 (K : Kt) : tl K (lX11_become) 18 = o_goto 22 := rfl
theorem aX11_become_21 (K : Kt) : tl K (lX11_become) 21 = o_pushI (nI 0) 22 := rfl
theorem aX11_become_22 (K : Kt) : tl K (lX11_become) 22 = o_istore 4 24 := rfl
theorem aX11_become_24 (K : Kt) : tl K (lX11_become) 24 = o_aload 0 25 := rfl
theorem aX11_become_25 (K : Kt) : tl K (lX11_become) 25 = o_iload 4 27 := rfl
theorem aX11_become_27 (K : Kt) : tl K (lX11_become) 27 = o_iload 4 29 := rfl
theorem aX11_become_29 (K : Kt) : tl K (lX11_become) 29 = o_if_eq 46 32 := rfl
theorem aX11_become_32 (K : Kt) : tl K (lX11_become) 32 = o_aload 0 33 := rfl
theorem aX11_become_33 (K : Kt) : tl K (lX11_become) 33 = o_iload 1 34 := rfl
theorem aX11_become_34 (K : Kt) : tl K (lX11_become) 34 = o_iload 2 35 := rfl
theorem aX11_become_35 (K : Kt) : tl K (lX11_become) 35 = o_iload 3 36 := rfl
theorem aX11_become_36 (K : Kt) : tl K (lX11_become) 36 = o_callV fX11_canBecome 3 11 39 := rfl
theorem aX11_become_39 (K : Kt) : tl K (lX11_become) 39 = o_if_eq 46 42 := rfl
theorem aX11_become_42 (K : Kt) : tl K (lX11_become) 42 = o_pushI (nI 1) 43 := rfl
theorem aX11_become_43 (K : Kt) : tl K (lX11_become) 43 = o_goto 47 := rfl
theorem aX11_become_46 (K : Kt) : tl K (lX11_become) 46 = o_pushI (nI 0) 47 := rfl
theorem aX11_become_47 (K : Kt) : tl K (lX11_become) 47 = o_callS fX11_unless_ 2 50 := rfl
theorem aX11_become_50 (K : Kt) : tl K (lX11_become) 50 = o_callV fX11_isRefused 1 11 53 := rfl
theorem aX11_become_53 (K : Kt) : tl K (lX11_become) 53 = o_if_eq 58 56 := rfl
theorem aX11_become_56 (K : Kt) : tl K (lX11_become) 56 = o_pushI ((-1)) 57 := rfl
theorem aX11_become_57 (K : Kt) : tl K (lX11_become) 57 = o_iret K := rfl
theorem aX11_become_58 (K : Kt) : tl K (lX11_become) 58 = o_aload 0 59 := rfl
theorem aX11_become_59 (K : Kt) : tl K (lX11_become) 59 = o_callV fX11_remembers 0 11 62 := rfl
theorem aX11_become_62 (K : Kt) : tl K (lX11_become) 62 = o_pushI (nI 14) 64 := rfl
theorem aX11_become_64 (K : Kt) : tl K (lX11_become) 64 = o_pushI (nI 8) 66 := rfl
theorem aX11_become_66 (K : Kt) : tl K (lX11_become) 66 = o_iload 2 67 := rfl
theorem aX11_become_67 (K : Kt) : tl K (lX11_become) 67 = o_imul 68 := rfl
theorem aX11_become_68 (K : Kt) : tl K (lX11_become) 68 = o_iadd 69 := rfl
theorem aX11_become_69 (K : Kt) : tl K (lX11_become) 69 = o_iload 1 70 := rfl
theorem aX11_become_70 (K : Kt) : tl K (lX11_become) 70 = o_iadd 71 := rfl
theorem aX11_become_71 (K : Kt) : tl K (lX11_become) 71 = o_istore 5 73 := rfl
theorem aX11_become_73 (K : Kt) : tl K (lX11_become) 73 = o_aload 0 74 := rfl
theorem aX11_become_74 (K : Kt) : tl K (lX11_become) 74 = o_get 11 7 77 := rfl
theorem aX11_become_77 (K : Kt) : tl K (lX11_become) 77 = o_iload 5 79 := rfl
theorem aX11_become_79 (K : Kt) : tl K (lX11_become) 79 = o_iald 80 := rfl
theorem aX11_become_80 (K : Kt) : tl K (lX11_become) 80 = o_istore 6 82 := rfl
theorem aX11_become_82 (K : Kt) : tl K (lX11_become) 82 = o_aload 0 83 := rfl
theorem aX11_become_83 (K : Kt) : tl K (lX11_become) 83 = o_get 11 7 86 := rfl
theorem aX11_become_86 (K : Kt) : tl K (lX11_become) 86 = o_iload 5 88 := rfl
theorem aX11_become_88 (K : Kt) : tl K (lX11_become) 88 = o_iload 3 89 := rfl
theorem aX11_become_89 (K : Kt) : tl K (lX11_become) 89 = o_iast 90 := rfl
theorem aX11_become_90 (K : Kt) : tl K (lX11_become) 90 = o_aload 0 91 := rfl
theorem aX11_become_91 (K : Kt) : tl K (lX11_become) 91 = o_get 11 7 94 := rfl
theorem aX11_become_94 (K : Kt) : tl K (lX11_become) 94 = o_pushI (nI 30) 96 := rfl
theorem aX11_become_96 (K : Kt) : tl K (lX11_become) 96 = o_iload 1 97 := rfl
theorem aX11_become_97 (K : Kt) : tl K (lX11_become) 97 = o_iadd 98 := rfl
theorem aX11_become_98 (K : Kt) : tl K (lX11_become) 98 = o_aload 0 99 := rfl
theorem aX11_become_99 (K : Kt) : tl K (lX11_become) 99 = o_get 11 7 102 := rfl
theorem aX11_become_102 (K : Kt) : tl K (lX11_become) 102 = o_pushI (nI 30) 104 := rfl
theorem aX11_become_104 (K : Kt) : tl K (lX11_become) 104 = o_iload 1 105 := rfl
theorem aX11_become_105 (K : Kt) : tl K (lX11_become) 105 = o_iadd 106 := rfl
set_option maxRecDepth 8000 in
theorem aX11_become_106 (K : Kt) : tl K (lX11_become) 106 = o_iald 107 := rfl
set_option maxRecDepth 8000 in
theorem aX11_become_107 (K : Kt) : tl K (lX11_become) 107 = o_aload 0 108 := rfl
set_option maxRecDepth 8000 in
theorem aX11_become_108 (K : Kt) : tl K (lX11_become) 108 = o_get 11 7 111 := rfl
set_option maxRecDepth 8000 in
theorem aX11_become_111 (K : Kt) : tl K (lX11_become) 111 = o_pushI (nI 22) 113 := rfl
set_option maxRecDepth 8000 in
theorem aX11_become_113 (K : Kt) : tl K (lX11_become) 113 = o_iload 1 114 := rfl
set_option maxRecDepth 8000 in
theorem aX11_become_114 (K : Kt) : tl K (lX11_become) 114 = o_iadd 115 := rfl
set_option maxRecDepth 8000 in
theorem aX11_become_115 (K : Kt) : tl K (lX11_become) 115 = o_iald 116 := rfl
set_option maxRecDepth 8000 in
theorem aX11_become_116 (K : Kt) : tl K (lX11_become) 116 = o_callS fX11_lesser 2 119 := rfl
set_option maxRecDepth 8000 in
theorem aX11_become_119 (K : Kt) : tl K (lX11_become) 119 = o_iast 120 := rfl
set_option maxRecDepth 8000 in
theorem aX11_become_120 (K : Kt) : tl K (lX11_become) 120 = o_iload 6 122 := rfl
set_option maxRecDepth 8000 in
theorem aX11_become_122 (K : Kt) : tl K (lX11_become) 122 = o_iret K := rfl
theorem eX11_rule {As L : List Value} {w : Wd} {K : Kt} (hw : wds As ≤ 5) (hL : ent 5 As = L) (h : RR (tl K lX11_rule) 0 L [] w) : fX11_rule As w K := ⟨hw, by rw [hL]; exact h⟩
theorem nX11_rule : MonoF fX11_rule := mono_f 5 lX11_rule
theorem aX11_rule_0 (K : Kt) : tl K (lX11_rule) 0 = o_iload 1 1 := rfl
theorem aX11_rule_1 (K : Kt) : tl K (lX11_rule) 1 = o_if_ne 15 4 := rfl
theorem aX11_rule_4 (K : Kt) : tl K (lX11_rule) 4 = o_iload 2 5 := rfl
theorem aX11_rule_5 (K : Kt) : tl K (lX11_rule) 5 = o_pushI (nI 0) 6 := rfl
theorem aX11_rule_6 (K : Kt) : tl K (lX11_rule) 6 = o_pushI (nI 500) 9 := rfl
theorem aX11_rule_9 (K : Kt) : tl K (lX11_rule) 9 = o_callS fX11_in 3 12 := rfl
theorem aX11_rule_12 (K : Kt) : tl K (lX11_rule) 12 = o_goto 37 := rfl
theorem aX11_rule_15 (K : Kt) : tl K (lX11_rule) 15 = o_iload 1 16 := rfl
theorem aX11_rule_16 (K : Kt) : tl K (lX11_rule) 16 = o_pushI (nI 1) 17 := rfl
theorem aX11_rule_17 (K : Kt) : tl K (lX11_rule) 17 = o_icmp_ne 30 20 := rfl
theorem aX11_rule_20 (K : Kt) : tl K (lX11_rule) 20 = o_iload 2 21 := rfl
theorem aX11_rule_21 (K : Kt) : tl K (lX11_rule) 21 = o_pushI (nI 0) 22 := rfl
theorem aX11_rule_22 (K : Kt) : tl K (lX11_rule) 22 = o_pushI (nI 9) 24 := rfl
theorem aX11_rule_24 (K : Kt) : tl K (lX11_rule) 24 = o_callS fX11_in 3 27 := rfl
theorem aX11_rule_27 (K : Kt) : tl K (lX11_rule) 27 = o_goto 37 := rfl
theorem aX11_rule_30 (K : Kt) : tl K (lX11_rule) 30 = o_iload 2 31 := rfl
theorem aX11_rule_31 (K : Kt) : tl K (lX11_rule) 31 = o_pushI (nI 1) 32 := rfl
theorem aX11_rule_32 (K : Kt) : tl K (lX11_rule) 32 = o_pushI (nI 60) 34 := rfl
theorem aX11_rule_34 (K : Kt) : tl K (lX11_rule) 34 = o_callS fX11_in 3 37 := rfl
theorem aX11_rule_37 (K : Kt) : tl K (lX11_rule) 37 = o_istore 3 38 := rfl
theorem aX11_rule_38 (K : Kt) : tl K (lX11_rule) 38 = o_aload 0 39 := rfl
theorem aX11_rule_39 (K : Kt) : tl K (lX11_rule) 39 = o_aload 0 40 := rfl
theorem aX11_rule_40 (K : Kt) : tl K (lX11_rule) 40 = o_get 11 6 43 := rfl
theorem aX11_rule_43 (K : Kt) : tl K (lX11_rule) 43 = o_if_eq 59 46 := rfl
theorem aX11_rule_46 (K : Kt) : tl K (lX11_rule) 46 = o_iload 1 47 := rfl
theorem aX11_rule_47 (K : Kt) : tl K (lX11_rule) 47 = o_pushI (nI 0) 48 := rfl
theorem aX11_rule_48 (K : Kt) : tl K (lX11_rule) 48 = o_pushI (nI 2) 49 := rfl
theorem aX11_rule_49 (K : Kt) : tl K (lX11_rule) 49 = o_callS fX11_in 3 52 := rfl
theorem aX11_rule_52 (K : Kt) : tl K (lX11_rule) 52 = o_if_eq 59 55 := rfl
theorem aX11_rule_55 (K : Kt) : tl K (lX11_rule) 55 = o_pushI (nI 1) 56 := rfl
theorem aX11_rule_56 (K : Kt) : tl K (lX11_rule) 56 = o_goto 60 := rfl
theorem aX11_rule_59 (K : Kt) : tl K (lX11_rule) 59 = o_pushI (nI 0) 60 := rfl
theorem aX11_rule_60 (K : Kt) : tl K (lX11_rule) 60 = o_iload 3 61 := rfl
theorem aX11_rule_61 (K : Kt) : tl K (lX11_rule) 61 = o_callS fX11_unless_ 2 64 := rfl
theorem aX11_rule_64 (K : Kt) : tl K (lX11_rule) 64 = o_callV fX11_isRefused 1 11 67 := rfl
theorem aX11_rule_67 (K : Kt) : tl K (lX11_rule) 67 = o_if_eq 72 70 := rfl
theorem aX11_rule_70 (K : Kt) : tl K (lX11_rule) 70 = o_pushI ((-1)) 71 := rfl
theorem aX11_rule_71 (K : Kt) : tl K (lX11_rule) 71 = o_iret K := rfl
theorem aX11_rule_72 (K : Kt) : tl K (lX11_rule) 72 = o_aload 0 73 := rfl
theorem aX11_rule_73 (K : Kt) : tl K (lX11_rule) 73 = o_callV fX11_remembers 0 11 76 := rfl
theorem aX11_rule_76 (K : Kt) : tl K (lX11_rule) 76 = o_aload 0 77 := rfl
theorem aX11_rule_77 (K : Kt) : tl K (lX11_rule) 77 = o_get 11 7 80 := rfl
theorem aX11_rule_80 (K : Kt) : tl K (lX11_rule) 80 = o_pushI (nI 3) 81 := rfl
theorem aX11_rule_81 (K : Kt) : tl K (lX11_rule) 81 = o_iload 1 82 := rfl
theorem aX11_rule_82 (K : Kt) : tl K (lX11_rule) 82 = o_iadd 83 := rfl
theorem aX11_rule_83 (K : Kt) : tl K (lX11_rule) 83 = o_iald 84 := rfl
theorem aX11_rule_84 (K : Kt) : tl K (lX11_rule) 84 = o_istore 4 86 := rfl
theorem aX11_rule_86 (K : Kt) : tl K (lX11_rule) 86 = o_aload 0 87 := rfl
theorem aX11_rule_87 (K : Kt) : tl K (lX11_rule) 87 = o_get 11 7 90 := rfl
theorem aX11_rule_90 (K : Kt) : tl K (lX11_rule) 90 = o_pushI (nI 3) 91 := rfl
theorem aX11_rule_91 (K : Kt) : tl K (lX11_rule) 91 = o_iload 1 92 := rfl
theorem aX11_rule_92 (K : Kt) : tl K (lX11_rule) 92 = o_iadd 93 := rfl
theorem aX11_rule_93 (K : Kt) : tl K (lX11_rule) 93 = o_iload 2 94 := rfl
theorem aX11_rule_94 (K : Kt) : tl K (lX11_rule) 94 = o_iast 95 := rfl
theorem aX11_rule_95 (K : Kt) : tl K (lX11_rule) 95 = o_iload 4 97 := rfl
theorem aX11_rule_97 (K : Kt) : tl K (lX11_rule) 97 = o_iret K := rfl
theorem eX11_rests {As L : List Value} {w : Wd} {K : Kt} (hw : wds As ≤ 4) (hL : ent 4 As = L) (h : RR (tl K lX11_rests) 0 L [] w) : fX11_rests As w K := ⟨hw, by rw [hL]; exact h⟩
theorem nX11_rests : MonoF fX11_rests := mono_f 4 lX11_rests
theorem aX11_rests_0 (K : Kt) : tl K (lX11_rests) 0 = o_aload 0 1 := rfl
theorem aX11_rests_1 (K : Kt) : tl K (lX11_rests) 1 = o_iload 1 2 := rfl
theorem aX11_rests_2 (K : Kt) : tl K (lX11_rests) 2 = o_pushI (nI 0) 3 := rfl
theorem aX11_rests_3 (K : Kt) : tl K (lX11_rests) 3 = o_aload 0 4 := rfl
theorem aX11_rests_4 (K : Kt) : tl K (lX11_rests) 4 = o_get 11 7 7 := rfl
theorem aX11_rests_7 (K : Kt) : tl K (lX11_rests) 7 = o_pushI (nI 2) 8 := rfl
theorem aX11_rests_8 (K : Kt) : tl K (lX11_rests) 8 = o_iald 9 := rfl
theorem aX11_rests_9 (K : Kt) : tl K (lX11_rests) 9 = o_pushI (nI 1) 10 := rfl
theorem aX11_rests_10 (K : Kt) : tl K (lX11_rests) 10 = o_isub 11 := rfl
theorem aX11_rests_11 (K : Kt) : tl K (lX11_rests) 11 = o_callS fX11_in 3 14 := rfl
theorem aX11_rests_14 (K : Kt) : tl K (lX11_rests) 14 = o_iload 2 15 := rfl
theorem aX11_rests_15 (K : Kt) : tl K (lX11_rests) 15 = o_pushI (nI 0) 16 := rfl
theorem aX11_rests_16 (K : Kt) : tl K (lX11_rests) 16 = o_pushI (nI 9) 18 := rfl
theorem aX11_rests_18 (K : Kt) : tl K (lX11_rests) 18 = o_callS fX11_in 3 21 := rfl
theorem aX11_rests_21 (K : Kt) : tl K (lX11_rests) 21 = o_callS fX11_unless_ 2 24 := rfl
theorem aX11_rests_24 (K : Kt) : tl K (lX11_rests) 24 = o_callV fX11_isRefused 1 11 27 := rfl
theorem aX11_rests_27 (K : Kt) : tl K (lX11_rests) 27 = o_if_eq 32 30 := rfl
theorem aX11_rests_30 (K : Kt) : tl K (lX11_rests) 30 = o_pushI ((-1)) 31 := rfl
theorem aX11_rests_31 (K : Kt) : tl K (lX11_rests) 31 = o_iret K := rfl
theorem aX11_rests_32 (K : Kt) : tl K (lX11_rests) 32 = o_aload 0 33 := rfl
theorem aX11_rests_33 (K : Kt) : tl K (lX11_rests) 33 = o_callV fX11_remembers 0 11 36 := rfl
theorem aX11_rests_36 (K : Kt) : tl K (lX11_rests) 36 = o_aload 0 37 := rfl
theorem aX11_rests_37 (K : Kt) : tl K (lX11_rests) 37 = o_get 11 7 40 := rfl
theorem aX11_rests_40 (K : Kt) : tl K (lX11_rests) 40 = o_pushI (nI 251) 43 := rfl
theorem aX11_rests_43 (K : Kt) : tl K (lX11_rests) 43 = o_iload 1 44 := rfl
theorem aX11_rests_44 (K : Kt) : tl K (lX11_rests) 44 = o_iadd 45 := rfl
theorem aX11_rests_45 (K : Kt) : tl K (lX11_rests) 45 = o_iald 46 := rfl
theorem aX11_rests_46 (K : Kt) : tl K (lX11_rests) 46 = o_istore 3 47 := rfl
theorem aX11_rests_47 (K : Kt) : tl K (lX11_rests) 47 = o_aload 0 48 := rfl
theorem aX11_rests_48 (K : Kt) : tl K (lX11_rests) 48 = o_get 11 7 51 := rfl
theorem aX11_rests_51 (K : Kt) : tl K (lX11_rests) 51 = o_pushI (nI 251) 54 := rfl
theorem aX11_rests_54 (K : Kt) : tl K (lX11_rests) 54 = o_iload 1 55 := rfl
theorem aX11_rests_55 (K : Kt) : tl K (lX11_rests) 55 = o_iadd 56 := rfl
theorem aX11_rests_56 (K : Kt) : tl K (lX11_rests) 56 = o_iload 2 57 := rfl
theorem aX11_rests_57 (K : Kt) : tl K (lX11_rests) 57 = o_iast 58 := rfl
theorem aX11_rests_58 (K : Kt) : tl K (lX11_rests) 58 = o_iload 3 59 := rfl
theorem aX11_rests_59 (K : Kt) : tl K (lX11_rests) 59 = o_iret K := rfl
theorem eX11_undo {As L : List Value} {w : Wd} {K : Kt} (hw : wds As ≤ 1) (hL : ent 1 As = L) (h : RR (tl K lX11_undo) 0 L [] w) : fX11_undo As w K := ⟨hw, by rw [hL]; exact h⟩
theorem nX11_undo : MonoF fX11_undo := mono_f 1 lX11_undo
theorem aX11_undo_0 (K : Kt) : tl K (lX11_undo) 0 = o_aload 0 1 := rfl
theorem aX11_undo_1 (K : Kt) : tl K (lX11_undo) 1 = o_aload 0 2 := rfl
theorem aX11_undo_2 (K : Kt) : tl K (lX11_undo) 2 = o_get 11 6 5 := rfl
theorem aX11_undo_5 (K : Kt) : tl K (lX11_undo) 5 = o_if_ne 12 8 := rfl
theorem aX11_undo_8 (K : Kt) : tl K (lX11_undo) 8 = o_pushI (nI 1) 9 := rfl
theorem aX11_undo_9 (K : Kt) : tl K (lX11_undo) 9 = o_goto 24 := rfl
theorem aX11_undo_12 (K : Kt) : tl K (lX11_undo) 12 = o_aload 0 13 := rfl
theorem aX11_undo_13 (K : Kt) : tl K (lX11_undo) 13 = o_get 11 24 16 := rfl
theorem aX11_undo_16 (K : Kt) : tl K (lX11_undo) 16 = o_if_ne 23 19 := rfl
theorem aX11_undo_19 (K : Kt) : tl K (lX11_undo) 19 = o_pushI (nI 5) 20 := rfl
theorem aX11_undo_20 (K : Kt) : tl K (lX11_undo) 20 = o_goto 24 := rfl
theorem aX11_undo_23 (K : Kt) : tl K (lX11_undo) 23 = o_pushI (nI 0) 24 := rfl
theorem aX11_undo_24 (K : Kt) : tl K (lX11_undo) 24 = o_callV fX11_isRefused 1 11 27 := rfl
theorem aX11_undo_27 (K : Kt) : tl K (lX11_undo) 27 = o_if_eq 32 30 := rfl
theorem aX11_undo_30 (K : Kt) : tl K (lX11_undo) 30 = o_pushI ((-1)) 31 := rfl
theorem aX11_undo_31 (K : Kt) : tl K (lX11_undo) 31 = o_iret K := rfl
theorem aX11_undo_32 (K : Kt) : tl K (lX11_undo) 32 = o_aload 0 33 := rfl
theorem aX11_undo_33 (K : Kt) : tl K (lX11_undo) 33 = o_dup 34 := rfl
theorem aX11_undo_34 (K : Kt) : tl K (lX11_undo) 34 = o_get 11 24 37 := rfl
theorem aX11_undo_37 (K : Kt) : tl K (lX11_undo) 37 = o_pushI (nI 1) 38 := rfl
theorem aX11_undo_38 (K : Kt) : tl K (lX11_undo) 38 = o_isub 39 := rfl
theorem aX11_undo_39 (K : Kt) : tl K (lX11_undo) 39 = o_putI 11 24 42 := rfl
theorem aX11_undo_42 (K : Kt) : tl K (lX11_undo) 42 = o_aload 0 43 := rfl
theorem aX11_undo_43 (K : Kt) : tl K (lX11_undo) 43 = o_get 11 7 46 := rfl
theorem aX11_undo_46 (K : Kt) : tl K (lX11_undo) 46 = o_pushI (nI 0) 47 := rfl
theorem aX11_undo_47 (K : Kt) : tl K (lX11_undo) 47 = o_aload 0 48 := rfl
theorem aX11_undo_48 (K : Kt) : tl K (lX11_undo) 48 = o_get 11 25 51 := rfl
theorem aX11_undo_51 (K : Kt) : tl K (lX11_undo) 51 = o_pushI (nI 256) 54 := rfl
theorem aX11_undo_54 (K : Kt) : tl K (lX11_undo) 54 = o_aload 0 55 := rfl
theorem aX11_undo_55 (K : Kt) : tl K (lX11_undo) 55 = o_get 11 24 58 := rfl
theorem aX11_undo_58 (K : Kt) : tl K (lX11_undo) 58 = o_imul 59 := rfl
theorem aX11_undo_59 (K : Kt) : tl K (lX11_undo) 59 = o_pushI (nI 256) 62 := rfl
theorem aX11_undo_62 (K : Kt) : tl K (lX11_undo) 62 = o_callS fX11_lays 5 65 := rfl
theorem aX11_undo_65 (K : Kt) : tl K (lX11_undo) 65 = o_aload 0 66 := rfl
theorem aX11_undo_66 (K : Kt) : tl K (lX11_undo) 66 = o_get 11 24 69 := rfl
theorem aX11_undo_69 (K : Kt) : tl K (lX11_undo) 69 = o_iret K := rfl
theorem eX11_named {As L : List Value} {w : Wd} {K : Kt} (hw : wds As ≤ 5) (hL : ent 5 As = L) (h : RR (tl K lX11_named) 0 L [] w) : fX11_named As w K := ⟨hw, by rw [hL]; exact h⟩
theorem nX11_named : MonoF fX11_named := mono_f 5 lX11_named
theorem aX11_named_0 (K : Kt) : tl K (lX11_named) 0 = o_aload 0 1 := rfl
theorem aX11_named_1 (K : Kt) : tl K (lX11_named) 1 = o_pushI (nI 0) 2 := rfl
theorem aX11_named_2 (K : Kt) : tl K (lX11_named) 2 = o_putI 11 0 5 := rfl
theorem aX11_named_5 (K : Kt) : tl K (lX11_named) 5 = o_pushI (nI 0) 6 := rfl
theorem aX11_named_6 (K : Kt) : tl K (lX11_named) 6 = o_istore 2 7 := rfl
theorem aX11_named_7 (K : Kt) : tl K (lX11_named) 7 = o_iload 1 8 := rfl
theorem aX11_named_8 (K : Kt) : tl K (lX11_named) 8 = o_pushI (nI 0) 9 := rfl
theorem aX11_named_9 (K : Kt) : tl K (lX11_named) 9 = o_aload 0 10 := rfl
theorem aX11_named_10 (K : Kt) : tl K (lX11_named) 10 = o_get 11 5 13 := rfl
theorem aX11_named_13 (K : Kt) : tl K (lX11_named) 13 = o_callS fX11_in 3 16 := rfl
theorem aX11_named_16 (K : Kt) : tl K (lX11_named) 16 = o_if_eq 23 19 := rfl
theorem aX11_named_19 (K : Kt) : tl K (lX11_named) 19 = o_iload 1 20 := rfl
theorem aX11_named_20 (K : Kt) : tl K (lX11_named) 20 = o_goto 24 := rfl
theorem aX11_named_23 (K : Kt) : tl K (lX11_named) 23 = o_pushI (nI 0) 24 := rfl
theorem aX11_named_24 (K : Kt) : tl K (lX11_named) 24 = o_istore 3 25 := rfl
theorem aX11_named_25 (K : Kt) : tl K (lX11_named) 25 = o_iload 2 26 := rfl
theorem aX11_named_26 (K : Kt) : tl K (lX11_named) 26 = o_iload 3 27 := rfl
theorem aX11_named_27 (K : Kt) : tl K (lX11_named) 27 = o_icmp_ge 47 30 := rfl
theorem aX11_named_30 (K : Kt) : tl K (lX11_named) 30 = o_aload 0 31 := rfl
theorem aX11_named_31 (K : Kt) : tl K (lX11_named) 31 = o_get 11 4 34 := rfl
theorem aX11_named_34 (K : Kt) : tl K (lX11_named) 34 = o_iload 2 35 := rfl
theorem aX11_named_35 (K : Kt) : tl K (lX11_named) 35 = o_iald 36 := rfl
theorem aX11_named_36 (K : Kt) : tl K (lX11_named) 36 = o_pushI (nI 32) 38 := rfl
theorem aX11_named_38 (K : Kt) : tl K (lX11_named) 38 = o_icmp_ne 47 41 := rfl
theorem aX11_named_41 (K : Kt) : tl K (lX11_named) 41 = o_iinc 2 (nI 1) 44 := rfl
theorem aX11_named_44 (K : Kt) : tl K (lX11_named) 44 = o_goto 25 := rfl
theorem aX11_named_47 (K : Kt) : tl K (lX11_named) 47 = o_iload 3 48 := rfl
theorem aX11_named_48 (K : Kt) : tl K (lX11_named) 48 = o_iload 2 49 := rfl
theorem aX11_named_49 (K : Kt) : tl K (lX11_named) 49 = o_icmp_le 71 52 := rfl
theorem aX11_named_52 (K : Kt) : tl K (lX11_named) 52 = o_aload 0 53 := rfl
theorem aX11_named_53 (K : Kt) : tl K (lX11_named) 53 = o_get 11 4 56 := rfl
theorem aX11_named_56 (K : Kt) : tl K (lX11_named) 56 = o_iload 3 57 := rfl
theorem aX11_named_57 (K : Kt) : tl K (lX11_named) 57 = o_pushI (nI 1) 58 := rfl
theorem aX11_named_58 (K : Kt) : tl K (lX11_named) 58 = o_isub 59 := rfl
theorem aX11_named_59 (K : Kt) : tl K (lX11_named) 59 = o_iald 60 := rfl
theorem aX11_named_60 (K : Kt) : tl K (lX11_named) 60 = o_pushI (nI 32) 62 := rfl
theorem aX11_named_62 (K : Kt) : tl K (lX11_named) 62 = o_icmp_ne 71 65 := rfl
theorem aX11_named_65 (K : Kt) : tl K (lX11_named) 65 = o_iinc 3 ((-1)) 68 := rfl
theorem aX11_named_68 (K : Kt) : tl K (lX11_named) 68 = o_goto 47 := rfl
theorem aX11_named_71 (K : Kt) : tl K (lX11_named) 71 = o_pushI (nI 0) 72 := rfl
theorem aX11_named_72 (K : Kt) : tl K (lX11_named) 72 = o_istore 4 74 := rfl
theorem aX11_named_74 (K : Kt) : tl K (lX11_named) 74 = o_iload 3 75 := rfl
theorem aX11_named_75 (K : Kt) : tl K (lX11_named) 75 = o_iload 2 76 := rfl
theorem aX11_named_76 (K : Kt) : tl K (lX11_named) 76 = o_icmp_le 117 79 := rfl
theorem aX11_named_79 (K : Kt) : tl K (lX11_named) 79 = o_iload 4 81 := rfl
theorem aX11_named_81 (K : Kt) : tl K (lX11_named) 81 = o_aload 0 82 := rfl
theorem aX11_named_82 (K : Kt) : tl K (lX11_named) 82 = o_get 11 7 85 := rfl
theorem aX11_named_85 (K : Kt) : tl K (lX11_named) 85 = o_pushI (nI 0) 86 := rfl
theorem aX11_named_86 (K : Kt) : tl K (lX11_named) 86 = o_iald 87 := rfl
theorem aX11_named_87 (K : Kt) : tl K (lX11_named) 87 = o_icmp_ge 117 90 := rfl
theorem aX11_named_90 (K : Kt) : tl K (lX11_named) 90 = o_aload 0 91 := rfl
theorem aX11_named_91 (K : Kt) : tl K (lX11_named) 91 = o_aload 0 92 := rfl
theorem aX11_named_92 (K : Kt) : tl K (lX11_named) 92 = o_get 11 9 95 := rfl
theorem aX11_named_95 (K : Kt) : tl K (lX11_named) 95 = o_pushI (nI 7) 97 := rfl
theorem aX11_named_97 (K : Kt) : tl K (lX11_named) 97 = o_iload 4 99 := rfl
theorem aX11_named_99 (K : Kt) : tl K (lX11_named) 99 = o_imul 100 := rfl
theorem aX11_named_100 (K : Kt) : tl K (lX11_named) 100 = o_iload 2 101 := rfl
theorem aX11_named_101 (K : Kt) : tl K (lX11_named) 101 = o_iload 3 102 := rfl
theorem aX11_named_102 (K : Kt) : tl K (lX11_named) 102 = o_callV fX11_isAt 4 11 105 := rfl
theorem aX11_named_105 (K : Kt) : tl K (lX11_named) 105 = o_if_eq 111 108 := rfl
theorem aX11_named_108 (K : Kt) : tl K (lX11_named) 108 = o_iload 4 110 := rfl
set_option maxRecDepth 8000 in
theorem aX11_named_110 (K : Kt) : tl K (lX11_named) 110 = o_iret K := rfl
set_option maxRecDepth 8000 in
theorem aX11_named_111 (K : Kt) : tl K (lX11_named) 111 = o_iinc 4 (nI 1) 114 := rfl
set_option maxRecDepth 8000 in
theorem aX11_named_114 (K : Kt) : tl K (lX11_named) 114 = o_goto 74 := rfl
set_option maxRecDepth 8000 in
theorem aX11_named_117 (K : Kt) : tl K (lX11_named) 117 = o_aload 0 118 := rfl
set_option maxRecDepth 8000 in
theorem aX11_named_118 (K : Kt) : tl K (lX11_named) 118 = o_pushI (nI 1) 119 := rfl
set_option maxRecDepth 8000 in
theorem aX11_named_119 (K : Kt) : tl K (lX11_named) 119 = o_putI 11 0 122 := rfl
set_option maxRecDepth 8000 in
theorem aX11_named_122 (K : Kt) : tl K (lX11_named) 122 = o_pushI (nI 0) 123 := rfl
set_option maxRecDepth 8000 in
theorem aX11_named_123 (K : Kt) : tl K (lX11_named) 123 = o_iret K := rfl
theorem eX11_size {As L : List Value} {w : Wd} {K : Kt} (hw : wds As ≤ 1) (hL : ent 1 As = L) (h : RR (tl K lX11_size) 0 L [] w) : fX11_size As w K := ⟨hw, by rw [hL]; exact h⟩
theorem nX11_size : MonoF fX11_size := mono_f 1 lX11_size
theorem aX11_size_0 (K : Kt) : tl K (lX11_size) 0 = o_aload 0 1 := rfl
theorem aX11_size_1 (K : Kt) : tl K (lX11_size) 1 = o_pushI (nI 0) 2 := rfl
theorem aX11_size_2 (K : Kt) : tl K (lX11_size) 2 = o_putI 11 0 5 := rfl
theorem aX11_size_5 (K : Kt) : tl K (lX11_size) 5 = o_aload 0 6 := rfl
theorem aX11_size_6 (K : Kt) : tl K (lX11_size) 6 = o_get 11 5 9 := rfl
theorem aX11_size_9 (K : Kt) : tl K (lX11_size) 9 = o_iret K := rfl
theorem eX11_trouble {As L : List Value} {w : Wd} {K : Kt} (hw : wds As ≤ 1) (hL : ent 1 As = L) (h : RR (tl K lX11_trouble) 0 L [] w) : fX11_trouble As w K := ⟨hw, by rw [hL]; exact h⟩
theorem nX11_trouble : MonoF fX11_trouble := mono_f 1 lX11_trouble
theorem aX11_trouble_0 (K : Kt) : tl K (lX11_trouble) 0 = o_aload 0 1 := rfl
theorem aX11_trouble_1 (K : Kt) : tl K (lX11_trouble) 1 = o_pushI (nI 0) 2 := rfl
theorem aX11_trouble_2 (K : Kt) : tl K (lX11_trouble) 2 = o_putI 11 0 5 := rfl
theorem aX11_trouble_5 (K : Kt) : tl K (lX11_trouble) 5 = o_aload 0 6 := rfl
theorem aX11_trouble_6 (K : Kt) : tl K (lX11_trouble) 6 = o_get 11 1 9 := rfl
theorem aX11_trouble_9 (K : Kt) : tl K (lX11_trouble) 9 = o_iret K := rfl
