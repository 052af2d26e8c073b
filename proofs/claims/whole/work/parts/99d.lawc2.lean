section LAWC2
variable {p : Program} {l : Launch} {e : Env} {s : State} {m : MethodId} {below : List Frame} {meth : Method} {c : Code} {Q : State → Prop} {D : va_G} {ad adV : Nat → Nat} {cA : Nat → ClassId} {b L ql sa i k : Nat} {xs : Nat → Int32} {w : Wd} {f : Nat → Int64} {H : Heap} {ls : Array Slot}
theorem lc_busiest (C : LX p s m meth c D ad adV cA b L xs ql sa) (hi : i + 6 ≤ L) (hk : k ≤ 512) (nx : NX p l e s m below meth c D ad cA b ql i (k + 1) 1891) (h : HD s D ad cA b ql i w f H ls) : W p l e room_1 s m #[Value.ref b] below meth c H [] (60 + k) (8000 + 6 * k) (lw_Z below #[Value.ref b] s) (F0 m 1047 ls []) := by
  obtain ⟨hLR, hP, hS, hq, hl⟩ := h
  have hrc : 60 + k ≤ room_1.cells ∧ 8000 + 6 * k ≤ room_1.slots := ⟨by show 60 + k ≤ 601024; omega, by show 8000 + 6 * k ≤ 7293034; omega⟩
  have hx := C.1.1
  have hb := C.1.2.1
  refine lv_aload_n hx hb (by decide +kernel : decode code 1047 = .ok (.aload_n 1, 1)) rfl (lv_at hl 1 rfl) ?_
  refine ld C (j := 1) (n := 1) (by decide +kernel : decode code 1048 = .ok (.aload_n 0, 1)) (by decide +kernel : decode code 1049 = .ok (.iload 4, 2)) (by decide +kernel : decode code 1051 = .ok (.iconst 1, 1)) (by decide +kernel : decode code 1052 = .ok (.iadd, 1)) (by decide +kernel : decode code 1053 = .ok (.iaload, 1)) rfl (by omega) hS hl ?_
  refine ld C (j := 2) (n := 2) (by decide +kernel : decode code 1054 = .ok (.aload_n 0, 1)) (by decide +kernel : decode code 1055 = .ok (.iload 4, 2)) (by decide +kernel : decode code 1057 = .ok (.iconst 2, 1)) (by decide +kernel : decode code 1058 = .ok (.iadd, 1)) (by decide +kernel : decode code 1059 = .ok (.iaload, 1)) rfl (by omega) hS hl ?_
  refine gc_V (ci := 10) (x := 0) (As := [.int (xs (i + 1)), .int (xs (i + 2))]) (rest := []) C.1 (kX10_busiest l) (by decide +kernel : decode code 1060 = .ok (.invokevirtual 115, 3)) rfl qX10_busiest tw4_207 tw4_208 tw4_209 tw1_1 tw4_210 (by decide) hrc rfl rfl (Nat.le_of_ble_eq_true rfl) hl.1 hP hS (l_busiest hLR) (fun r w1 H1 locs1 hK1 hP1 hS1 st1 => ?_)
  refine lv_aload_n hx hb (by decide +kernel : decode code 1063 = .ok (.aload_n 2, 1)) rfl (lv_at hl 2 rfl) ?_
  refine ld C (j := 1) (n := 1) (by decide +kernel : decode code 1064 = .ok (.aload_n 0, 1)) (by decide +kernel : decode code 1065 = .ok (.iload 4, 2)) (by decide +kernel : decode code 1067 = .ok (.iconst 1, 1)) (by decide +kernel : decode code 1068 = .ok (.iadd, 1)) (by decide +kernel : decode code 1069 = .ok (.iaload, 1)) rfl (by omega) hS1 hl ?_
  refine ld C (j := 2) (n := 2) (by decide +kernel : decode code 1070 = .ok (.aload_n 0, 1)) (by decide +kernel : decode code 1071 = .ok (.iload 4, 2)) (by decide +kernel : decode code 1073 = .ok (.iconst 2, 1)) (by decide +kernel : decode code 1074 = .ok (.iadd, 1)) (by decide +kernel : decode code 1075 = .ok (.iaload, 1)) rfl (by omega) hS1 hl ?_
  refine gc_V (ci := 11) (x := 41) (As := [.int (xs (i + 1)), .int (xs (i + 2))]) (rest := (r.map (vl ad)).toList ++ []) C.1 (kX11_busiest l) (by decide +kernel : decode code 1076 = .ok (.invokevirtual 118, 3)) rfl qX11_busiest tw7_157 tw7_158 tw7_159 tw1_12 tw7_160 (by decide) hrc rfl rfl (cat2 r ad) hl.1 hP1 hS1 hK1 (fun u w2 H2 locs2 hK2 hP2 hS2 st2 => ?_)
  obtain ⟨rfl, ⟨x, rfl⟩, hLR2⟩ := hK2
  refine lv_icmp_eq (tgt := 1891) hx hb (by decide +kernel : decode code 1079 = .ok (.if_icmp .eq 812, 3)) (by decide) (fun _ => ?_) (fun z => absurd rfl z)
  exact lc_end C nx hq (st1.tr st2) hLR2 hP2 hS2 hl
theorem lc_idle (C : LX p s m meth c D ad adV cA b L xs ql sa) (hi : i + 6 ≤ L) (hk : k ≤ 512) (nx : NX p l e s m below meth c D ad cA b ql i (k + 1) 1891) (h : HD s D ad cA b ql i w f H ls) : W p l e room_1 s m #[Value.ref b] below meth c H [] (60 + k) (8000 + 6 * k) (lw_Z below #[Value.ref b] s) (F0 m 1084 ls []) := by
  obtain ⟨hLR, hP, hS, hq, hl⟩ := h
  have hrc : 60 + k ≤ room_1.cells ∧ 8000 + 6 * k ≤ room_1.slots := ⟨by show 60 + k ≤ 601024; omega, by show 8000 + 6 * k ≤ 7293034; omega⟩
  have hx := C.1.1
  have hb := C.1.2.1
  refine lv_aload_n hx hb (by decide +kernel : decode code 1084 = .ok (.aload_n 1, 1)) rfl (lv_at hl 1 rfl) ?_
  refine ld C (j := 1) (n := 1) (by decide +kernel : decode code 1085 = .ok (.aload_n 0, 1)) (by decide +kernel : decode code 1086 = .ok (.iload 4, 2)) (by decide +kernel : decode code 1088 = .ok (.iconst 1, 1)) (by decide +kernel : decode code 1089 = .ok (.iadd, 1)) (by decide +kernel : decode code 1090 = .ok (.iaload, 1)) rfl (by omega) hS hl ?_
  refine gc_V (ci := 10) (x := 0) (As := [.int (xs (i + 1))]) (rest := []) C.1 (kX10_idle l) (by decide +kernel : decode code 1091 = .ok (.invokevirtual 119, 3)) rfl qX10_idle tw4_211 tw4_212 tw4_213 tw1_1 tw4_214 (by decide) hrc rfl rfl (Nat.le_of_ble_eq_true rfl) hl.1 hP hS (l_idle hLR) (fun r w1 H1 locs1 hK1 hP1 hS1 st1 => ?_)
  refine lv_aload_n hx hb (by decide +kernel : decode code 1094 = .ok (.aload_n 2, 1)) rfl (lv_at hl 2 rfl) ?_
  refine ld C (j := 1) (n := 1) (by decide +kernel : decode code 1095 = .ok (.aload_n 0, 1)) (by decide +kernel : decode code 1096 = .ok (.iload 4, 2)) (by decide +kernel : decode code 1098 = .ok (.iconst 1, 1)) (by decide +kernel : decode code 1099 = .ok (.iadd, 1)) (by decide +kernel : decode code 1100 = .ok (.iaload, 1)) rfl (by omega) hS1 hl ?_
  refine gc_V (ci := 11) (x := 41) (As := [.int (xs (i + 1))]) (rest := (r.map (vl ad)).toList ++ []) C.1 (kX11_idle l) (by decide +kernel : decode code 1101 = .ok (.invokevirtual 122, 3)) rfl qX11_idle tw7_161 tw7_162 tw7_163 tw1_12 tw7_164 (by decide) hrc rfl rfl (cat2 r ad) hl.1 hP1 hS1 hK1 (fun u w2 H2 locs2 hK2 hP2 hS2 st2 => ?_)
  obtain ⟨rfl, ⟨x, rfl⟩, hLR2⟩ := hK2
  refine lv_icmp_eq (tgt := 1891) hx hb (by decide +kernel : decode code 1104 = .ok (.if_icmp .eq 787, 3)) (by decide) (fun _ => ?_) (fun z => absurd rfl z)
  exact lc_end C nx hq (st1.tr st2) hLR2 hP2 hS2 hl
theorem lc_gap (C : LX p s m meth c D ad adV cA b L xs ql sa) (hi : i + 6 ≤ L) (hk : k ≤ 512) (nx : NX p l e s m below meth c D ad cA b ql i (k + 1) 1891) (h : HD s D ad cA b ql i w f H ls) : W p l e room_1 s m #[Value.ref b] below meth c H [] (60 + k) (8000 + 6 * k) (lw_Z below #[Value.ref b] s) (F0 m 1109 ls []) := by
  obtain ⟨hLR, hP, hS, hq, hl⟩ := h
  have hrc : 60 + k ≤ room_1.cells ∧ 8000 + 6 * k ≤ room_1.slots := ⟨by show 60 + k ≤ 601024; omega, by show 8000 + 6 * k ≤ 7293034; omega⟩
  have hx := C.1.1
  have hb := C.1.2.1
  refine lv_aload_n hx hb (by decide +kernel : decode code 1109 = .ok (.aload_n 1, 1)) rfl (lv_at hl 1 rfl) ?_
  refine ld C (j := 1) (n := 1) (by decide +kernel : decode code 1110 = .ok (.aload_n 0, 1)) (by decide +kernel : decode code 1111 = .ok (.iload 4, 2)) (by decide +kernel : decode code 1113 = .ok (.iconst 1, 1)) (by decide +kernel : decode code 1114 = .ok (.iadd, 1)) (by decide +kernel : decode code 1115 = .ok (.iaload, 1)) rfl (by omega) hS hl ?_
  refine gc_V (ci := 10) (x := 0) (As := [.int (xs (i + 1))]) (rest := []) C.1 (kX10_gap l) (by decide +kernel : decode code 1116 = .ok (.invokevirtual 123, 3)) rfl qX10_gap tw4_217 tw4_218 tw4_219 tw1_1 tw4_220 (by decide) hrc rfl rfl (Nat.le_of_ble_eq_true rfl) hl.1 hP hS (l_gap hLR) (fun r w1 H1 locs1 hK1 hP1 hS1 st1 => ?_)
  refine lv_aload_n hx hb (by decide +kernel : decode code 1119 = .ok (.aload_n 2, 1)) rfl (lv_at hl 2 rfl) ?_
  refine ld C (j := 1) (n := 1) (by decide +kernel : decode code 1120 = .ok (.aload_n 0, 1)) (by decide +kernel : decode code 1121 = .ok (.iload 4, 2)) (by decide +kernel : decode code 1123 = .ok (.iconst 1, 1)) (by decide +kernel : decode code 1124 = .ok (.iadd, 1)) (by decide +kernel : decode code 1125 = .ok (.iaload, 1)) rfl (by omega) hS1 hl ?_
  refine gc_V (ci := 11) (x := 41) (As := [.int (xs (i + 1))]) (rest := (r.map (vl ad)).toList ++ []) C.1 (kX11_gap l) (by decide +kernel : decode code 1126 = .ok (.invokevirtual 126, 3)) rfl qX11_gap tw7_165 tw7_166 tw7_167 tw1_12 tw7_168 (by decide) hrc rfl rfl (cat2 r ad) hl.1 hP1 hS1 hK1 (fun u w2 H2 locs2 hK2 hP2 hS2 st2 => ?_)
  obtain ⟨rfl, ⟨x, rfl⟩, hLR2⟩ := hK2
  refine lv_icmp_eq (tgt := 1891) hx hb (by decide +kernel : decode code 1129 = .ok (.if_icmp .eq 762, 3)) (by decide) (fun _ => ?_) (fun z => absurd rfl z)
  exact lc_end C nx hq (st1.tr st2) hLR2 hP2 hS2 hl
theorem lc_hands (C : LX p s m meth c D ad adV cA b L xs ql sa) (hi : i + 6 ≤ L) (hk : k ≤ 512) (nx : NX p l e s m below meth c D ad cA b ql i (k + 1) 1891) (h : HD s D ad cA b ql i w f H ls) : W p l e room_1 s m #[Value.ref b] below meth c H [] (60 + k) (8000 + 6 * k) (lw_Z below #[Value.ref b] s) (F0 m 1134 ls []) := by
  obtain ⟨hLR, hP, hS, hq, hl⟩ := h
  have hrc : 60 + k ≤ room_1.cells ∧ 8000 + 6 * k ≤ room_1.slots := ⟨by show 60 + k ≤ 601024; omega, by show 8000 + 6 * k ≤ 7293034; omega⟩
  have hx := C.1.1
  have hb := C.1.2.1
  refine lv_aload_n hx hb (by decide +kernel : decode code 1134 = .ok (.aload_n 1, 1)) rfl (lv_at hl 1 rfl) ?_
  refine ld C (j := 1) (n := 1) (by decide +kernel : decode code 1135 = .ok (.aload_n 0, 1)) (by decide +kernel : decode code 1136 = .ok (.iload 4, 2)) (by decide +kernel : decode code 1138 = .ok (.iconst 1, 1)) (by decide +kernel : decode code 1139 = .ok (.iadd, 1)) (by decide +kernel : decode code 1140 = .ok (.iaload, 1)) rfl (by omega) hS hl ?_
  refine ld C (j := 2) (n := 2) (by decide +kernel : decode code 1141 = .ok (.aload_n 0, 1)) (by decide +kernel : decode code 1142 = .ok (.iload 4, 2)) (by decide +kernel : decode code 1144 = .ok (.iconst 2, 1)) (by decide +kernel : decode code 1145 = .ok (.iadd, 1)) (by decide +kernel : decode code 1146 = .ok (.iaload, 1)) rfl (by omega) hS hl ?_
  refine lv_if_eq (tgt := 1154) hx hb (by decide +kernel : decode code 1147 = .ok (.ifCond .eq 7, 3)) (by decide) (fun z => ?_) (fun z => ?_)
  · refine lv_iconst (v := 0) hx hb (by decide +kernel : decode code 1154 = .ok (.iconst 0, 1)) (by decide) ?_
    refine gc_V (ci := 10) (x := 0) (As := [.int (xs (i + 1)), .int 0]) (rest := []) C.1 (kX10_hands l) (by decide +kernel : decode code 1155 = .ok (.invokevirtual 127, 3)) rfl qX10_hands tw4_224 tw4_225 tw4_226 tw1_1 tw4_227 (by decide) hrc rfl rfl (Nat.le_of_ble_eq_true rfl) hl.1 hP hS (l_hands hLR) (fun r w1 H1 locs1 hK1 hP1 hS1 st1 => ?_)
    refine lv_aload_n hx hb (by decide +kernel : decode code 1158 = .ok (.aload_n 2, 1)) rfl (lv_at hl 2 rfl) ?_
    refine ld C (j := 1) (n := 1) (by decide +kernel : decode code 1159 = .ok (.aload_n 0, 1)) (by decide +kernel : decode code 1160 = .ok (.iload 4, 2)) (by decide +kernel : decode code 1162 = .ok (.iconst 1, 1)) (by decide +kernel : decode code 1163 = .ok (.iadd, 1)) (by decide +kernel : decode code 1164 = .ok (.iaload, 1)) rfl (by omega) hS1 hl ?_
    refine ld C (j := 2) (n := 2) (by decide +kernel : decode code 1165 = .ok (.aload_n 0, 1)) (by decide +kernel : decode code 1166 = .ok (.iload 4, 2)) (by decide +kernel : decode code 1168 = .ok (.iconst 2, 1)) (by decide +kernel : decode code 1169 = .ok (.iadd, 1)) (by decide +kernel : decode code 1170 = .ok (.iaload, 1)) rfl (by omega) hS1 hl ?_
    refine lv_if_eq (tgt := 1178) hx hb (by decide +kernel : decode code 1171 = .ok (.ifCond .eq 7, 3)) (by decide) (fun _ => ?_) (fun y => absurd z y)
    refine lv_iconst (v := 0) hx hb (by decide +kernel : decode code 1178 = .ok (.iconst 0, 1)) (by decide) ?_
    refine gc_V (ci := 11) (x := 41) (As := [.int (xs (i + 1)), .int 0]) (rest := (r.map (vl ad)).toList ++ []) C.1 (kX11_hands l) (by decide +kernel : decode code 1179 = .ok (.invokevirtual 131, 3)) rfl qX11_hands tw7_169 tw7_170 tw7_171 tw1_12 tw7_172 (by decide) hrc rfl rfl (cat2 r ad) hl.1 hP1 hS1 hK1 (fun u w2 H2 locs2 hK2 hP2 hS2 st2 => ?_)
    obtain ⟨rfl, ⟨x, rfl⟩, hLR2⟩ := hK2
    refine lv_icmp_eq (tgt := 1891) hx hb (by decide +kernel : decode code 1182 = .ok (.if_icmp .eq 709, 3)) (by decide) (fun _ => ?_) (fun z => absurd rfl z)
    exact lc_end C nx hq (st1.tr st2) hLR2 hP2 hS2 hl
  · refine lv_iconst (v := 1) hx hb (by decide +kernel : decode code 1150 = .ok (.iconst 1, 1)) (by decide) ?_
    refine lv_goto (tgt := 1155) hx hb (by decide +kernel : decode code 1151 = .ok (.goto 4, 3)) (by decide) ?_
    refine gc_V (ci := 10) (x := 0) (As := [.int (xs (i + 1)), .int 1]) (rest := []) C.1 (kX10_hands l) (by decide +kernel : decode code 1155 = .ok (.invokevirtual 127, 3)) rfl qX10_hands tw4_224 tw4_225 tw4_226 tw1_1 tw4_227 (by decide) hrc rfl rfl (Nat.le_of_ble_eq_true rfl) hl.1 hP hS (l_hands hLR) (fun r w1 H1 locs1 hK1 hP1 hS1 st1 => ?_)
    refine lv_aload_n hx hb (by decide +kernel : decode code 1158 = .ok (.aload_n 2, 1)) rfl (lv_at hl 2 rfl) ?_
    refine ld C (j := 1) (n := 1) (by decide +kernel : decode code 1159 = .ok (.aload_n 0, 1)) (by decide +kernel : decode code 1160 = .ok (.iload 4, 2)) (by decide +kernel : decode code 1162 = .ok (.iconst 1, 1)) (by decide +kernel : decode code 1163 = .ok (.iadd, 1)) (by decide +kernel : decode code 1164 = .ok (.iaload, 1)) rfl (by omega) hS1 hl ?_
    refine ld C (j := 2) (n := 2) (by decide +kernel : decode code 1165 = .ok (.aload_n 0, 1)) (by decide +kernel : decode code 1166 = .ok (.iload 4, 2)) (by decide +kernel : decode code 1168 = .ok (.iconst 2, 1)) (by decide +kernel : decode code 1169 = .ok (.iadd, 1)) (by decide +kernel : decode code 1170 = .ok (.iaload, 1)) rfl (by omega) hS1 hl ?_
    refine lv_if_eq (tgt := 1178) hx hb (by decide +kernel : decode code 1171 = .ok (.ifCond .eq 7, 3)) (by decide) (fun y => absurd y z) (fun _ => ?_)
    refine lv_iconst (v := 1) hx hb (by decide +kernel : decode code 1174 = .ok (.iconst 1, 1)) (by decide) ?_
    refine lv_goto (tgt := 1179) hx hb (by decide +kernel : decode code 1175 = .ok (.goto 4, 3)) (by decide) ?_
    refine gc_V (ci := 11) (x := 41) (As := [.int (xs (i + 1)), .int 1]) (rest := (r.map (vl ad)).toList ++ []) C.1 (kX11_hands l) (by decide +kernel : decode code 1179 = .ok (.invokevirtual 131, 3)) rfl qX11_hands tw7_169 tw7_170 tw7_171 tw1_12 tw7_172 (by decide) hrc rfl rfl (cat2 r ad) hl.1 hP1 hS1 hK1 (fun u w2 H2 locs2 hK2 hP2 hS2 st2 => ?_)
    obtain ⟨rfl, ⟨x, rfl⟩, hLR2⟩ := hK2
    refine lv_icmp_eq (tgt := 1891) hx hb (by decide +kernel : decode code 1182 = .ok (.if_icmp .eq 709, 3)) (by decide) (fun _ => ?_) (fun z => absurd rfl z)
    exact lc_end C nx hq (st1.tr st2) hLR2 hP2 hS2 hl
theorem lc_bare (C : LX p s m meth c D ad adV cA b L xs ql sa) (hi : i + 6 ≤ L) (hk : k ≤ 512) (nx : NX p l e s m below meth c D ad cA b ql i (k + 1) 1891) (h : HD s D ad cA b ql i w f H ls) : W p l e room_1 s m #[Value.ref b] below meth c H [] (60 + k) (8000 + 6 * k) (lw_Z below #[Value.ref b] s) (F0 m 1187 ls []) := by
  obtain ⟨hLR, hP, hS, hq, hl⟩ := h
  have hrc : 60 + k ≤ room_1.cells ∧ 8000 + 6 * k ≤ room_1.slots := ⟨by show 60 + k ≤ 601024; omega, by show 8000 + 6 * k ≤ 7293034; omega⟩
  have hx := C.1.1
  have hb := C.1.2.1
  refine lv_aload_n hx hb (by decide +kernel : decode code 1187 = .ok (.aload_n 1, 1)) rfl (lv_at hl 1 rfl) ?_
  refine ld C (j := 1) (n := 1) (by decide +kernel : decode code 1188 = .ok (.aload_n 0, 1)) (by decide +kernel : decode code 1189 = .ok (.iload 4, 2)) (by decide +kernel : decode code 1191 = .ok (.iconst 1, 1)) (by decide +kernel : decode code 1192 = .ok (.iadd, 1)) (by decide +kernel : decode code 1193 = .ok (.iaload, 1)) rfl (by omega) hS hl ?_
  refine gc_V (ci := 10) (x := 0) (As := [.int (xs (i + 1))]) (rest := []) C.1 (kX10_bare l) (by decide +kernel : decode code 1194 = .ok (.invokevirtual 132, 3)) rfl qX10_bare tw4_228 tw4_229 tw4_230 tw1_1 tw4_231 (by decide) hrc rfl rfl (Nat.le_of_ble_eq_true rfl) hl.1 hP hS (l_bare hLR) (fun r w1 H1 locs1 hK1 hP1 hS1 st1 => ?_)
  refine lv_aload_n hx hb (by decide +kernel : decode code 1197 = .ok (.aload_n 2, 1)) rfl (lv_at hl 2 rfl) ?_
  refine ld C (j := 1) (n := 1) (by decide +kernel : decode code 1198 = .ok (.aload_n 0, 1)) (by decide +kernel : decode code 1199 = .ok (.iload 4, 2)) (by decide +kernel : decode code 1201 = .ok (.iconst 1, 1)) (by decide +kernel : decode code 1202 = .ok (.iadd, 1)) (by decide +kernel : decode code 1203 = .ok (.iaload, 1)) rfl (by omega) hS1 hl ?_
  refine gc_V (ci := 11) (x := 41) (As := [.int (xs (i + 1))]) (rest := (r.map (vl ad)).toList ++ []) C.1 (kX11_bare l) (by decide +kernel : decode code 1204 = .ok (.invokevirtual 135, 3)) rfl qX11_bare tw7_173 tw7_174 tw7_175 tw1_12 tw7_176 (by decide) hrc rfl rfl (cat2 r ad) hl.1 hP1 hS1 hK1 (fun u w2 H2 locs2 hK2 hP2 hS2 st2 => ?_)
  obtain ⟨rfl, ⟨x, rfl⟩, hLR2⟩ := hK2
  refine lv_icmp_eq (tgt := 1891) hx hb (by decide +kernel : decode code 1207 = .ok (.if_icmp .eq 684, 3)) (by decide) (fun _ => ?_) (fun z => absurd rfl z)
  exact lc_end C nx hq (st1.tr st2) hLR2 hP2 hS2 hl
theorem lc_risk (C : LX p s m meth c D ad adV cA b L xs ql sa) (hi : i + 6 ≤ L) (hk : k ≤ 512) (nx : NX p l e s m below meth c D ad cA b ql i (k + 1) 1891) (h : HD s D ad cA b ql i w f H ls) : W p l e room_1 s m #[Value.ref b] below meth c H [] (60 + k) (8000 + 6 * k) (lw_Z below #[Value.ref b] s) (F0 m 1212 ls []) := by
  obtain ⟨hLR, hP, hS, hq, hl⟩ := h
  have hrc : 60 + k ≤ room_1.cells ∧ 8000 + 6 * k ≤ room_1.slots := ⟨by show 60 + k ≤ 601024; omega, by show 8000 + 6 * k ≤ 7293034; omega⟩
  have hx := C.1.1
  have hb := C.1.2.1
  refine lv_aload_n hx hb (by decide +kernel : decode code 1212 = .ok (.aload_n 1, 1)) rfl (lv_at hl 1 rfl) ?_
  refine ld C (j := 1) (n := 1) (by decide +kernel : decode code 1213 = .ok (.aload_n 0, 1)) (by decide +kernel : decode code 1214 = .ok (.iload 4, 2)) (by decide +kernel : decode code 1216 = .ok (.iconst 1, 1)) (by decide +kernel : decode code 1217 = .ok (.iadd, 1)) (by decide +kernel : decode code 1218 = .ok (.iaload, 1)) rfl (by omega) hS hl ?_
  refine gc_V (ci := 10) (x := 0) (As := [.int (xs (i + 1))]) (rest := []) C.1 (kX10_risk l) (by decide +kernel : decode code 1219 = .ok (.invokevirtual 136, 3)) rfl qX10_risk tw4_232 tw4_233 tw4_234 tw1_1 tw4_235 (by decide) hrc rfl rfl (Nat.le_of_ble_eq_true rfl) hl.1 hP hS (l_risk hLR) (fun r w1 H1 locs1 hK1 hP1 hS1 st1 => ?_)
  refine lv_aload_n hx hb (by decide +kernel : decode code 1222 = .ok (.aload_n 2, 1)) rfl (lv_at hl 2 rfl) ?_
  refine ld C (j := 1) (n := 1) (by decide +kernel : decode code 1223 = .ok (.aload_n 0, 1)) (by decide +kernel : decode code 1224 = .ok (.iload 4, 2)) (by decide +kernel : decode code 1226 = .ok (.iconst 1, 1)) (by decide +kernel : decode code 1227 = .ok (.iadd, 1)) (by decide +kernel : decode code 1228 = .ok (.iaload, 1)) rfl (by omega) hS1 hl ?_
  refine gc_V (ci := 11) (x := 41) (As := [.int (xs (i + 1))]) (rest := (r.map (vl ad)).toList ++ []) C.1 (kX11_risk l) (by decide +kernel : decode code 1229 = .ok (.invokevirtual 139, 3)) rfl qX11_risk tw7_186 tw7_187 tw7_188 tw1_12 tw7_189 (by decide) hrc rfl rfl (cat2 r ad) hl.1 hP1 hS1 hK1 (fun u w2 H2 locs2 hK2 hP2 hS2 st2 => ?_)
  obtain ⟨rfl, ⟨x, rfl⟩, hLR2⟩ := hK2
  refine lv_icmp_eq (tgt := 1891) hx hb (by decide +kernel : decode code 1232 = .ok (.if_icmp .eq 659, 3)) (by decide) (fun _ => ?_) (fun z => absurd rfl z)
  exact lc_end C nx hq (st1.tr st2) hLR2 hP2 hS2 hl
theorem lc_sound (C : LX p s m meth c D ad adV cA b L xs ql sa) (hi : i + 6 ≤ L) (hk : k ≤ 512) (nx : NX p l e s m below meth c D ad cA b ql i (k + 1) 1891) (h : HD s D ad cA b ql i w f H ls) : W p l e room_1 s m #[Value.ref b] below meth c H [] (60 + k) (8000 + 6 * k) (lw_Z below #[Value.ref b] s) (F0 m 1237 ls []) := by
  obtain ⟨hLR, hP, hS, hq, hl⟩ := h
  have hrc : 60 + k ≤ room_1.cells ∧ 8000 + 6 * k ≤ room_1.slots := ⟨by show 60 + k ≤ 601024; omega, by show 8000 + 6 * k ≤ 7293034; omega⟩
  have hx := C.1.1
  have hb := C.1.2.1
  refine lv_aload_n hx hb (by decide +kernel : decode code 1237 = .ok (.aload_n 1, 1)) rfl (lv_at hl 1 rfl) ?_
  refine ld C (j := 1) (n := 1) (by decide +kernel : decode code 1238 = .ok (.aload_n 0, 1)) (by decide +kernel : decode code 1239 = .ok (.iload 4, 2)) (by decide +kernel : decode code 1241 = .ok (.iconst 1, 1)) (by decide +kernel : decode code 1242 = .ok (.iadd, 1)) (by decide +kernel : decode code 1243 = .ok (.iaload, 1)) rfl (by omega) hS hl ?_
  refine ld C (j := 2) (n := 2) (by decide +kernel : decode code 1244 = .ok (.aload_n 0, 1)) (by decide +kernel : decode code 1245 = .ok (.iload 4, 2)) (by decide +kernel : decode code 1247 = .ok (.iconst 2, 1)) (by decide +kernel : decode code 1248 = .ok (.iadd, 1)) (by decide +kernel : decode code 1249 = .ok (.iaload, 1)) rfl (by omega) hS hl ?_
  refine gc_V (ci := 10) (x := 0) (As := [.int (xs (i + 1)), .int (xs (i + 2))]) (rest := []) C.1 (kX10_sound l) (by decide +kernel : decode code 1250 = .ok (.invokevirtual 140, 3)) rfl qX10_sound tw4_238 tw4_239 tw5_0 tw1_1 tw5_1 (by decide) hrc rfl rfl (Nat.le_of_ble_eq_true rfl) hl.1 hP hS (l_sound hLR) (fun r w1 H1 locs1 hK1 hP1 hS1 st1 => ?_)
  refine lv_aload_n hx hb (by decide +kernel : decode code 1253 = .ok (.aload_n 2, 1)) rfl (lv_at hl 2 rfl) ?_
  refine ld C (j := 1) (n := 1) (by decide +kernel : decode code 1254 = .ok (.aload_n 0, 1)) (by decide +kernel : decode code 1255 = .ok (.iload 4, 2)) (by decide +kernel : decode code 1257 = .ok (.iconst 1, 1)) (by decide +kernel : decode code 1258 = .ok (.iadd, 1)) (by decide +kernel : decode code 1259 = .ok (.iaload, 1)) rfl (by omega) hS1 hl ?_
  refine ld C (j := 2) (n := 2) (by decide +kernel : decode code 1260 = .ok (.aload_n 0, 1)) (by decide +kernel : decode code 1261 = .ok (.iload 4, 2)) (by decide +kernel : decode code 1263 = .ok (.iconst 2, 1)) (by decide +kernel : decode code 1264 = .ok (.iadd, 1)) (by decide +kernel : decode code 1265 = .ok (.iaload, 1)) rfl (by omega) hS1 hl ?_
  refine gc_V (ci := 11) (x := 41) (As := [.int (xs (i + 1)), .int (xs (i + 2))]) (rest := (r.map (vl ad)).toList ++ []) C.1 (kX11_sound l) (by decide +kernel : decode code 1266 = .ok (.invokevirtual 144, 3)) rfl qX11_sound tw7_177 tw7_178 tw7_179 tw1_12 tw7_180 (by decide) hrc rfl rfl (cat2 r ad) hl.1 hP1 hS1 hK1 (fun u w2 H2 locs2 hK2 hP2 hS2 st2 => ?_)
  obtain ⟨rfl, ⟨x, rfl⟩, hLR2⟩ := hK2
  refine W.lcmp hx hb (by decide +kernel : decode code 1269 = .ok (.lcmp, 1)) ?_
  refine lv_if_eq (tgt := 1891) hx hb (by decide +kernel : decode code 1270 = .ok (.ifCond .eq 621, 3)) (by decide) (fun _ => ?_) (fun z => absurd (lg_cmp_rf x) z)
  exact lc_end C nx hq (st1.tr st2) hLR2 hP2 hS2 hl
theorem lc_season (C : LX p s m meth c D ad adV cA b L xs ql sa) (hi : i + 6 ≤ L) (hk : k ≤ 512) (nx : NX p l e s m below meth c D ad cA b ql i (k + 1) 1891) (h : HD s D ad cA b ql i w f H ls) : W p l e room_1 s m #[Value.ref b] below meth c H [] (60 + k) (8000 + 6 * k) (lw_Z below #[Value.ref b] s) (F0 m 1275 ls []) := by
  obtain ⟨hLR, hP, hS, hq, hl⟩ := h
  have hrc : 60 + k ≤ room_1.cells ∧ 8000 + 6 * k ≤ room_1.slots := ⟨by show 60 + k ≤ 601024; omega, by show 8000 + 6 * k ≤ 7293034; omega⟩
  have hx := C.1.1
  have hb := C.1.2.1
  refine lv_aload_n hx hb (by decide +kernel : decode code 1275 = .ok (.aload_n 1, 1)) rfl (lv_at hl 1 rfl) ?_
  refine ld C (j := 1) (n := 1) (by decide +kernel : decode code 1276 = .ok (.aload_n 0, 1)) (by decide +kernel : decode code 1277 = .ok (.iload 4, 2)) (by decide +kernel : decode code 1279 = .ok (.iconst 1, 1)) (by decide +kernel : decode code 1280 = .ok (.iadd, 1)) (by decide +kernel : decode code 1281 = .ok (.iaload, 1)) rfl (by omega) hS hl ?_
  refine ld C (j := 2) (n := 2) (by decide +kernel : decode code 1282 = .ok (.aload_n 0, 1)) (by decide +kernel : decode code 1283 = .ok (.iload 4, 2)) (by decide +kernel : decode code 1285 = .ok (.iconst 2, 1)) (by decide +kernel : decode code 1286 = .ok (.iadd, 1)) (by decide +kernel : decode code 1287 = .ok (.iaload, 1)) rfl (by omega) hS hl ?_
  refine gc_V (ci := 10) (x := 0) (As := [.int (xs (i + 1)), .int (xs (i + 2))]) (rest := []) C.1 (kX10_season l) (by decide +kernel : decode code 1288 = .ok (.invokevirtual 145, 3)) rfl qX10_season tw5_6 tw5_7 tw5_8 tw1_1 tw5_9 (by decide) hrc rfl rfl (Nat.le_of_ble_eq_true rfl) hl.1 hP hS (l_season hLR) (fun r w1 H1 locs1 hK1 hP1 hS1 st1 => ?_)
  refine lv_aload_n hx hb (by decide +kernel : decode code 1291 = .ok (.aload_n 2, 1)) rfl (lv_at hl 2 rfl) ?_
  refine ld C (j := 1) (n := 1) (by decide +kernel : decode code 1292 = .ok (.aload_n 0, 1)) (by decide +kernel : decode code 1293 = .ok (.iload 4, 2)) (by decide +kernel : decode code 1295 = .ok (.iconst 1, 1)) (by decide +kernel : decode code 1296 = .ok (.iadd, 1)) (by decide +kernel : decode code 1297 = .ok (.iaload, 1)) rfl (by omega) hS1 hl ?_
  refine ld C (j := 2) (n := 2) (by decide +kernel : decode code 1298 = .ok (.aload_n 0, 1)) (by decide +kernel : decode code 1299 = .ok (.iload 4, 2)) (by decide +kernel : decode code 1301 = .ok (.iconst 2, 1)) (by decide +kernel : decode code 1302 = .ok (.iadd, 1)) (by decide +kernel : decode code 1303 = .ok (.iaload, 1)) rfl (by omega) hS1 hl ?_
  refine gc_V (ci := 11) (x := 41) (As := [.int (xs (i + 1)), .int (xs (i + 2))]) (rest := (r.map (vl ad)).toList ++ []) C.1 (kX11_season l) (by decide +kernel : decode code 1304 = .ok (.invokevirtual 148, 3)) rfl qX11_season tw7_190 tw7_191 tw7_192 tw1_12 tw7_193 (by decide) hrc rfl rfl (cat2 r ad) hl.1 hP1 hS1 hK1 (fun u w2 H2 locs2 hK2 hP2 hS2 st2 => ?_)
  obtain ⟨rfl, ⟨x, rfl⟩, hLR2⟩ := hK2
  refine lv_icmp_eq (tgt := 1891) hx hb (by decide +kernel : decode code 1307 = .ok (.if_icmp .eq 584, 3)) (by decide) (fun _ => ?_) (fun z => absurd rfl z)
  exact lc_end C nx hq (st1.tr st2) hLR2 hP2 hS2 hl
theorem lc_span (C : LX p s m meth c D ad adV cA b L xs ql sa) (hi : i + 6 ≤ L) (hk : k ≤ 512) (nx : NX p l e s m below meth c D ad cA b ql i (k + 1) 1891) (h : HD s D ad cA b ql i w f H ls) : W p l e room_1 s m #[Value.ref b] below meth c H [] (60 + k) (8000 + 6 * k) (lw_Z below #[Value.ref b] s) (F0 m 1312 ls []) := by
  obtain ⟨hLR, hP, hS, hq, hl⟩ := h
  have hrc : 60 + k ≤ room_1.cells ∧ 8000 + 6 * k ≤ room_1.slots := ⟨by show 60 + k ≤ 601024; omega, by show 8000 + 6 * k ≤ 7293034; omega⟩
  have hx := C.1.1
  have hb := C.1.2.1
  refine lv_aload_n hx hb (by decide +kernel : decode code 1312 = .ok (.aload_n 1, 1)) rfl (lv_at hl 1 rfl) ?_
  refine ld C (j := 1) (n := 1) (by decide +kernel : decode code 1313 = .ok (.aload_n 0, 1)) (by decide +kernel : decode code 1314 = .ok (.iload 4, 2)) (by decide +kernel : decode code 1316 = .ok (.iconst 1, 1)) (by decide +kernel : decode code 1317 = .ok (.iadd, 1)) (by decide +kernel : decode code 1318 = .ok (.iaload, 1)) rfl (by omega) hS hl ?_
  refine ld C (j := 2) (n := 2) (by decide +kernel : decode code 1319 = .ok (.aload_n 0, 1)) (by decide +kernel : decode code 1320 = .ok (.iload 4, 2)) (by decide +kernel : decode code 1322 = .ok (.iconst 2, 1)) (by decide +kernel : decode code 1323 = .ok (.iadd, 1)) (by decide +kernel : decode code 1324 = .ok (.iaload, 1)) rfl (by omega) hS hl ?_
  refine ld C (j := 3) (n := 3) (by decide +kernel : decode code 1325 = .ok (.aload_n 0, 1)) (by decide +kernel : decode code 1326 = .ok (.iload 4, 2)) (by decide +kernel : decode code 1328 = .ok (.iconst 3, 1)) (by decide +kernel : decode code 1329 = .ok (.iadd, 1)) (by decide +kernel : decode code 1330 = .ok (.iaload, 1)) rfl (by omega) hS hl ?_
  refine gc_V (ci := 10) (x := 0) (As := [.int (xs (i + 1)), .int (xs (i + 2)), .int (xs (i + 3))]) (rest := []) C.1 (kX10_span l) (by decide +kernel : decode code 1331 = .ok (.invokevirtual 149, 3)) rfl qX10_span tw5_30 tw5_31 tw5_32 tw1_1 tw5_33 (by decide) hrc rfl rfl (Nat.le_of_ble_eq_true rfl) hl.1 hP hS (l_span hLR) (fun r w1 H1 locs1 hK1 hP1 hS1 st1 => ?_)
  refine lv_aload_n hx hb (by decide +kernel : decode code 1334 = .ok (.aload_n 2, 1)) rfl (lv_at hl 2 rfl) ?_
  refine ld C (j := 1) (n := 1) (by decide +kernel : decode code 1335 = .ok (.aload_n 0, 1)) (by decide +kernel : decode code 1336 = .ok (.iload 4, 2)) (by decide +kernel : decode code 1338 = .ok (.iconst 1, 1)) (by decide +kernel : decode code 1339 = .ok (.iadd, 1)) (by decide +kernel : decode code 1340 = .ok (.iaload, 1)) rfl (by omega) hS1 hl ?_
  refine ld C (j := 2) (n := 2) (by decide +kernel : decode code 1341 = .ok (.aload_n 0, 1)) (by decide +kernel : decode code 1342 = .ok (.iload 4, 2)) (by decide +kernel : decode code 1344 = .ok (.iconst 2, 1)) (by decide +kernel : decode code 1345 = .ok (.iadd, 1)) (by decide +kernel : decode code 1346 = .ok (.iaload, 1)) rfl (by omega) hS1 hl ?_
  refine ld C (j := 3) (n := 3) (by decide +kernel : decode code 1347 = .ok (.aload_n 0, 1)) (by decide +kernel : decode code 1348 = .ok (.iload 4, 2)) (by decide +kernel : decode code 1350 = .ok (.iconst 3, 1)) (by decide +kernel : decode code 1351 = .ok (.iadd, 1)) (by decide +kernel : decode code 1352 = .ok (.iaload, 1)) rfl (by omega) hS1 hl ?_
  refine gc_V (ci := 11) (x := 41) (As := [.int (xs (i + 1)), .int (xs (i + 2)), .int (xs (i + 3))]) (rest := (r.map (vl ad)).toList ++ []) C.1 (kX11_span l) (by decide +kernel : decode code 1353 = .ok (.invokevirtual 152, 3)) rfl qX11_span tw7_201 tw7_202 tw7_203 tw1_12 tw7_204 (by decide) hrc rfl rfl (cat2 r ad) hl.1 hP1 hS1 hK1 (fun u w2 H2 locs2 hK2 hP2 hS2 st2 => ?_)
  obtain ⟨rfl, ⟨x, rfl⟩, hLR2⟩ := hK2
  refine lv_icmp_eq (tgt := 1891) hx hb (by decide +kernel : decode code 1356 = .ok (.if_icmp .eq 535, 3)) (by decide) (fun _ => ?_) (fun z => absurd rfl z)
  exact lc_end C nx hq (st1.tr st2) hLR2 hP2 hS2 hl
theorem lc_put (C : LX p s m meth c D ad adV cA b L xs ql sa) (hi : i + 6 ≤ L) (hk : k ≤ 512) (nx : NX p l e s m below meth c D ad cA b ql i (k + 1) 1891) (h : HD s D ad cA b ql i w f H ls) : W p l e room_1 s m #[Value.ref b] below meth c H [] (60 + k) (8000 + 6 * k) (lw_Z below #[Value.ref b] s) (F0 m 1361 ls []) := by
  obtain ⟨hLR, hP, hS, hq, hl⟩ := h
  have hrc : 60 + k ≤ room_1.cells ∧ 8000 + 6 * k ≤ room_1.slots := ⟨by show 60 + k ≤ 601024; omega, by show 8000 + 6 * k ≤ 7293034; omega⟩
  have hx := C.1.1
  have hb := C.1.2.1
  refine lv_aload_n hx hb (by decide +kernel : decode code 1361 = .ok (.aload_n 1, 1)) rfl (lv_at hl 1 rfl) ?_
  refine ld C (j := 1) (n := 1) (by decide +kernel : decode code 1362 = .ok (.aload_n 0, 1)) (by decide +kernel : decode code 1363 = .ok (.iload 4, 2)) (by decide +kernel : decode code 1365 = .ok (.iconst 1, 1)) (by decide +kernel : decode code 1366 = .ok (.iadd, 1)) (by decide +kernel : decode code 1367 = .ok (.iaload, 1)) rfl (by omega) hS hl ?_
  refine ld C (j := 2) (n := 2) (by decide +kernel : decode code 1368 = .ok (.aload_n 0, 1)) (by decide +kernel : decode code 1369 = .ok (.iload 4, 2)) (by decide +kernel : decode code 1371 = .ok (.iconst 2, 1)) (by decide +kernel : decode code 1372 = .ok (.iadd, 1)) (by decide +kernel : decode code 1373 = .ok (.iaload, 1)) rfl (by omega) hS hl ?_
  refine ld C (j := 3) (n := 3) (by decide +kernel : decode code 1374 = .ok (.aload_n 0, 1)) (by decide +kernel : decode code 1375 = .ok (.iload 4, 2)) (by decide +kernel : decode code 1377 = .ok (.iconst 3, 1)) (by decide +kernel : decode code 1378 = .ok (.iadd, 1)) (by decide +kernel : decode code 1379 = .ok (.iaload, 1)) rfl (by omega) hS hl ?_
  refine ld C (j := 4) (n := 4) (by decide +kernel : decode code 1380 = .ok (.aload_n 0, 1)) (by decide +kernel : decode code 1381 = .ok (.iload 4, 2)) (by decide +kernel : decode code 1383 = .ok (.iconst 4, 1)) (by decide +kernel : decode code 1384 = .ok (.iadd, 1)) (by decide +kernel : decode code 1385 = .ok (.iaload, 1)) rfl (by omega) hS hl ?_
  refine lv_if_eq (tgt := 1393) hx hb (by decide +kernel : decode code 1386 = .ok (.ifCond .eq 7, 3)) (by decide) (fun z => ?_) (fun z => ?_)
  · refine lv_iconst (v := 0) hx hb (by decide +kernel : decode code 1393 = .ok (.iconst 0, 1)) (by decide) ?_
    refine gc_V (ci := 10) (x := 0) (As := [.int (xs (i + 1)), .int (xs (i + 2)), .int (xs (i + 3)), .int 0]) (rest := []) C.1 (kX10_put l) (by decide +kernel : decode code 1394 = .ok (.invokevirtual 153, 3)) rfl qX10_put tw5_35 tw5_36 tw5_37 tw1_1 tw5_38 (by decide) hrc rfl rfl (Nat.le_of_ble_eq_true rfl) hl.1 hP hS (l_put hLR) (fun r w1 H1 locs1 hK1 hP1 hS1 st1 => ?_)
    refine lv_aload_n hx hb (by decide +kernel : decode code 1397 = .ok (.aload_n 2, 1)) rfl (lv_at hl 2 rfl) ?_
    refine ld C (j := 1) (n := 1) (by decide +kernel : decode code 1398 = .ok (.aload_n 0, 1)) (by decide +kernel : decode code 1399 = .ok (.iload 4, 2)) (by decide +kernel : decode code 1401 = .ok (.iconst 1, 1)) (by decide +kernel : decode code 1402 = .ok (.iadd, 1)) (by decide +kernel : decode code 1403 = .ok (.iaload, 1)) rfl (by omega) hS1 hl ?_
    refine ld C (j := 2) (n := 2) (by decide +kernel : decode code 1404 = .ok (.aload_n 0, 1)) (by decide +kernel : decode code 1405 = .ok (.iload 4, 2)) (by decide +kernel : decode code 1407 = .ok (.iconst 2, 1)) (by decide +kernel : decode code 1408 = .ok (.iadd, 1)) (by decide +kernel : decode code 1409 = .ok (.iaload, 1)) rfl (by omega) hS1 hl ?_
    refine ld C (j := 3) (n := 3) (by decide +kernel : decode code 1410 = .ok (.aload_n 0, 1)) (by decide +kernel : decode code 1411 = .ok (.iload 4, 2)) (by decide +kernel : decode code 1413 = .ok (.iconst 3, 1)) (by decide +kernel : decode code 1414 = .ok (.iadd, 1)) (by decide +kernel : decode code 1415 = .ok (.iaload, 1)) rfl (by omega) hS1 hl ?_
    refine ld C (j := 4) (n := 4) (by decide +kernel : decode code 1416 = .ok (.aload_n 0, 1)) (by decide +kernel : decode code 1417 = .ok (.iload 4, 2)) (by decide +kernel : decode code 1419 = .ok (.iconst 4, 1)) (by decide +kernel : decode code 1420 = .ok (.iadd, 1)) (by decide +kernel : decode code 1421 = .ok (.iaload, 1)) rfl (by omega) hS1 hl ?_
    refine lv_if_eq (tgt := 1429) hx hb (by decide +kernel : decode code 1422 = .ok (.ifCond .eq 7, 3)) (by decide) (fun _ => ?_) (fun y => absurd z y)
    refine lv_iconst (v := 0) hx hb (by decide +kernel : decode code 1429 = .ok (.iconst 0, 1)) (by decide) ?_
    refine gc_V (ci := 11) (x := 41) (As := [.int (xs (i + 1)), .int (xs (i + 2)), .int (xs (i + 3)), .int 0]) (rest := (r.map (vl ad)).toList ++ []) C.1 (kX11_put l) (by decide +kernel : decode code 1430 = .ok (.invokevirtual 157, 3)) rfl qX11_put tw7_205 tw7_206 tw7_207 tw1_12 tw7_208 (by decide) hrc rfl rfl (cat2 r ad) hl.1 hP1 hS1 hK1 (fun u w2 H2 locs2 hK2 hP2 hS2 st2 => ?_)
    obtain ⟨rfl, ⟨x, rfl⟩, hLR2⟩ := hK2
    refine lv_icmp_eq (tgt := 1891) hx hb (by decide +kernel : decode code 1433 = .ok (.if_icmp .eq 458, 3)) (by decide) (fun _ => ?_) (fun z => absurd rfl z)
    exact lc_end C nx hq (st1.tr st2) hLR2 hP2 hS2 hl
  · refine lv_iconst (v := 1) hx hb (by decide +kernel : decode code 1389 = .ok (.iconst 1, 1)) (by decide) ?_
    refine lv_goto (tgt := 1394) hx hb (by decide +kernel : decode code 1390 = .ok (.goto 4, 3)) (by decide) ?_
    refine gc_V (ci := 10) (x := 0) (As := [.int (xs (i + 1)), .int (xs (i + 2)), .int (xs (i + 3)), .int 1]) (rest := []) C.1 (kX10_put l) (by decide +kernel : decode code 1394 = .ok (.invokevirtual 153, 3)) rfl qX10_put tw5_35 tw5_36 tw5_37 tw1_1 tw5_38 (by decide) hrc rfl rfl (Nat.le_of_ble_eq_true rfl) hl.1 hP hS (l_put hLR) (fun r w1 H1 locs1 hK1 hP1 hS1 st1 => ?_)
    refine lv_aload_n hx hb (by decide +kernel : decode code 1397 = .ok (.aload_n 2, 1)) rfl (lv_at hl 2 rfl) ?_
    refine ld C (j := 1) (n := 1) (by decide +kernel : decode code 1398 = .ok (.aload_n 0, 1)) (by decide +kernel : decode code 1399 = .ok (.iload 4, 2)) (by decide +kernel : decode code 1401 = .ok (.iconst 1, 1)) (by decide +kernel : decode code 1402 = .ok (.iadd, 1)) (by decide +kernel : decode code 1403 = .ok (.iaload, 1)) rfl (by omega) hS1 hl ?_
    refine ld C (j := 2) (n := 2) (by decide +kernel : decode code 1404 = .ok (.aload_n 0, 1)) (by decide +kernel : decode code 1405 = .ok (.iload 4, 2)) (by decide +kernel : decode code 1407 = .ok (.iconst 2, 1)) (by decide +kernel : decode code 1408 = .ok (.iadd, 1)) (by decide +kernel : decode code 1409 = .ok (.iaload, 1)) rfl (by omega) hS1 hl ?_
    refine ld C (j := 3) (n := 3) (by decide +kernel : decode code 1410 = .ok (.aload_n 0, 1)) (by decide +kernel : decode code 1411 = .ok (.iload 4, 2)) (by decide +kernel : decode code 1413 = .ok (.iconst 3, 1)) (by decide +kernel : decode code 1414 = .ok (.iadd, 1)) (by decide +kernel : decode code 1415 = .ok (.iaload, 1)) rfl (by omega) hS1 hl ?_
    refine ld C (j := 4) (n := 4) (by decide +kernel : decode code 1416 = .ok (.aload_n 0, 1)) (by decide +kernel : decode code 1417 = .ok (.iload 4, 2)) (by decide +kernel : decode code 1419 = .ok (.iconst 4, 1)) (by decide +kernel : decode code 1420 = .ok (.iadd, 1)) (by decide +kernel : decode code 1421 = .ok (.iaload, 1)) rfl (by omega) hS1 hl ?_
    refine lv_if_eq (tgt := 1429) hx hb (by decide +kernel : decode code 1422 = .ok (.ifCond .eq 7, 3)) (by decide) (fun y => absurd y z) (fun _ => ?_)
    refine lv_iconst (v := 1) hx hb (by decide +kernel : decode code 1425 = .ok (.iconst 1, 1)) (by decide) ?_
    refine lv_goto (tgt := 1430) hx hb (by decide +kernel : decode code 1426 = .ok (.goto 4, 3)) (by decide) ?_
    refine gc_V (ci := 11) (x := 41) (As := [.int (xs (i + 1)), .int (xs (i + 2)), .int (xs (i + 3)), .int 1]) (rest := (r.map (vl ad)).toList ++ []) C.1 (kX11_put l) (by decide +kernel : decode code 1430 = .ok (.invokevirtual 157, 3)) rfl qX11_put tw7_205 tw7_206 tw7_207 tw1_12 tw7_208 (by decide) hrc rfl rfl (cat2 r ad) hl.1 hP1 hS1 hK1 (fun u w2 H2 locs2 hK2 hP2 hS2 st2 => ?_)
    obtain ⟨rfl, ⟨x, rfl⟩, hLR2⟩ := hK2
    refine lv_icmp_eq (tgt := 1891) hx hb (by decide +kernel : decode code 1433 = .ok (.if_icmp .eq 458, 3)) (by decide) (fun _ => ?_) (fun z => absurd rfl z)
    exact lc_end C nx hq (st1.tr st2) hLR2 hP2 hS2 hl
theorem lc_take (C : LX p s m meth c D ad adV cA b L xs ql sa) (hi : i + 6 ≤ L) (hk : k ≤ 512) (nx : NX p l e s m below meth c D ad cA b ql i (k + 1) 1891) (h : HD s D ad cA b ql i w f H ls) : W p l e room_1 s m #[Value.ref b] below meth c H [] (60 + k) (8000 + 6 * k) (lw_Z below #[Value.ref b] s) (F0 m 1438 ls []) := by
  obtain ⟨hLR, hP, hS, hq, hl⟩ := h
  have hrc : 60 + k ≤ room_1.cells ∧ 8000 + 6 * k ≤ room_1.slots := ⟨by show 60 + k ≤ 601024; omega, by show 8000 + 6 * k ≤ 7293034; omega⟩
  have hx := C.1.1
  have hb := C.1.2.1
  refine lv_aload_n hx hb (by decide +kernel : decode code 1438 = .ok (.aload_n 1, 1)) rfl (lv_at hl 1 rfl) ?_
  refine ld C (j := 1) (n := 1) (by decide +kernel : decode code 1439 = .ok (.aload_n 0, 1)) (by decide +kernel : decode code 1440 = .ok (.iload 4, 2)) (by decide +kernel : decode code 1442 = .ok (.iconst 1, 1)) (by decide +kernel : decode code 1443 = .ok (.iadd, 1)) (by decide +kernel : decode code 1444 = .ok (.iaload, 1)) rfl (by omega) hS hl ?_
  refine ld C (j := 2) (n := 2) (by decide +kernel : decode code 1445 = .ok (.aload_n 0, 1)) (by decide +kernel : decode code 1446 = .ok (.iload 4, 2)) (by decide +kernel : decode code 1448 = .ok (.iconst 2, 1)) (by decide +kernel : decode code 1449 = .ok (.iadd, 1)) (by decide +kernel : decode code 1450 = .ok (.iaload, 1)) rfl (by omega) hS hl ?_
  refine gc_V (ci := 10) (x := 0) (As := [.int (xs (i + 1)), .int (xs (i + 2))]) (rest := []) C.1 (kX10_take l) (by decide +kernel : decode code 1451 = .ok (.invokevirtual 158, 3)) rfl qX10_take tw5_57 tw5_58 tw5_59 tw1_1 tw5_60 (by decide) hrc rfl rfl (Nat.le_of_ble_eq_true rfl) hl.1 hP hS (l_take hLR) (fun r w1 H1 locs1 hK1 hP1 hS1 st1 => ?_)
  refine lv_aload_n hx hb (by decide +kernel : decode code 1454 = .ok (.aload_n 2, 1)) rfl (lv_at hl 2 rfl) ?_
  refine ld C (j := 1) (n := 1) (by decide +kernel : decode code 1455 = .ok (.aload_n 0, 1)) (by decide +kernel : decode code 1456 = .ok (.iload 4, 2)) (by decide +kernel : decode code 1458 = .ok (.iconst 1, 1)) (by decide +kernel : decode code 1459 = .ok (.iadd, 1)) (by decide +kernel : decode code 1460 = .ok (.iaload, 1)) rfl (by omega) hS1 hl ?_
  refine ld C (j := 2) (n := 2) (by decide +kernel : decode code 1461 = .ok (.aload_n 0, 1)) (by decide +kernel : decode code 1462 = .ok (.iload 4, 2)) (by decide +kernel : decode code 1464 = .ok (.iconst 2, 1)) (by decide +kernel : decode code 1465 = .ok (.iadd, 1)) (by decide +kernel : decode code 1466 = .ok (.iaload, 1)) rfl (by omega) hS1 hl ?_
  refine gc_V (ci := 11) (x := 41) (As := [.int (xs (i + 1)), .int (xs (i + 2))]) (rest := (r.map (vl ad)).toList ++ []) C.1 (kX11_take l) (by decide +kernel : decode code 1467 = .ok (.invokevirtual 161, 3)) rfl qX11_take tw7_217 tw7_218 tw7_219 tw1_12 tw7_220 (by decide) hrc rfl rfl (cat2 r ad) hl.1 hP1 hS1 hK1 (fun u w2 H2 locs2 hK2 hP2 hS2 st2 => ?_)
  obtain ⟨rfl, ⟨x, rfl⟩, hLR2⟩ := hK2
  refine lv_icmp_eq (tgt := 1891) hx hb (by decide +kernel : decode code 1470 = .ok (.if_icmp .eq 421, 3)) (by decide) (fun _ => ?_) (fun z => absurd rfl z)
  exact lc_end C nx hq (st1.tr st2) hLR2 hP2 hS2 hl
theorem lc_shift (C : LX p s m meth c D ad adV cA b L xs ql sa) (hi : i + 6 ≤ L) (hk : k ≤ 512) (nx : NX p l e s m below meth c D ad cA b ql i (k + 1) 1891) (h : HD s D ad cA b ql i w f H ls) : W p l e room_1 s m #[Value.ref b] below meth c H [] (60 + k) (8000 + 6 * k) (lw_Z below #[Value.ref b] s) (F0 m 1475 ls []) := by
  obtain ⟨hLR, hP, hS, hq, hl⟩ := h
  have hrc : 60 + k ≤ room_1.cells ∧ 8000 + 6 * k ≤ room_1.slots := ⟨by show 60 + k ≤ 601024; omega, by show 8000 + 6 * k ≤ 7293034; omega⟩
  have hx := C.1.1
  have hb := C.1.2.1
  refine lv_aload_n hx hb (by decide +kernel : decode code 1475 = .ok (.aload_n 1, 1)) rfl (lv_at hl 1 rfl) ?_
  refine ld C (j := 1) (n := 1) (by decide +kernel : decode code 1476 = .ok (.aload_n 0, 1)) (by decide +kernel : decode code 1477 = .ok (.iload 4, 2)) (by decide +kernel : decode code 1479 = .ok (.iconst 1, 1)) (by decide +kernel : decode code 1480 = .ok (.iadd, 1)) (by decide +kernel : decode code 1481 = .ok (.iaload, 1)) rfl (by omega) hS hl ?_
  refine ld C (j := 2) (n := 2) (by decide +kernel : decode code 1482 = .ok (.aload_n 0, 1)) (by decide +kernel : decode code 1483 = .ok (.iload 4, 2)) (by decide +kernel : decode code 1485 = .ok (.iconst 2, 1)) (by decide +kernel : decode code 1486 = .ok (.iadd, 1)) (by decide +kernel : decode code 1487 = .ok (.iaload, 1)) rfl (by omega) hS hl ?_
  refine ld C (j := 3) (n := 3) (by decide +kernel : decode code 1488 = .ok (.aload_n 0, 1)) (by decide +kernel : decode code 1489 = .ok (.iload 4, 2)) (by decide +kernel : decode code 1491 = .ok (.iconst 3, 1)) (by decide +kernel : decode code 1492 = .ok (.iadd, 1)) (by decide +kernel : decode code 1493 = .ok (.iaload, 1)) rfl (by omega) hS hl ?_
  refine gc_V (ci := 10) (x := 0) (As := [.int (xs (i + 1)), .int (xs (i + 2)), .int (xs (i + 3))]) (rest := []) C.1 (kX10_shift l) (by decide +kernel : decode code 1494 = .ok (.invokevirtual 162, 3)) rfl qX10_shift tw5_62 tw5_63 tw5_64 tw1_1 tw5_65 (by decide) hrc rfl rfl (Nat.le_of_ble_eq_true rfl) hl.1 hP hS (l_shift hLR) (fun r w1 H1 locs1 hK1 hP1 hS1 st1 => ?_)
  refine lv_aload_n hx hb (by decide +kernel : decode code 1497 = .ok (.aload_n 2, 1)) rfl (lv_at hl 2 rfl) ?_
  refine ld C (j := 1) (n := 1) (by decide +kernel : decode code 1498 = .ok (.aload_n 0, 1)) (by decide +kernel : decode code 1499 = .ok (.iload 4, 2)) (by decide +kernel : decode code 1501 = .ok (.iconst 1, 1)) (by decide +kernel : decode code 1502 = .ok (.iadd, 1)) (by decide +kernel : decode code 1503 = .ok (.iaload, 1)) rfl (by omega) hS1 hl ?_
  refine ld C (j := 2) (n := 2) (by decide +kernel : decode code 1504 = .ok (.aload_n 0, 1)) (by decide +kernel : decode code 1505 = .ok (.iload 4, 2)) (by decide +kernel : decode code 1507 = .ok (.iconst 2, 1)) (by decide +kernel : decode code 1508 = .ok (.iadd, 1)) (by decide +kernel : decode code 1509 = .ok (.iaload, 1)) rfl (by omega) hS1 hl ?_
  refine ld C (j := 3) (n := 3) (by decide +kernel : decode code 1510 = .ok (.aload_n 0, 1)) (by decide +kernel : decode code 1511 = .ok (.iload 4, 2)) (by decide +kernel : decode code 1513 = .ok (.iconst 3, 1)) (by decide +kernel : decode code 1514 = .ok (.iadd, 1)) (by decide +kernel : decode code 1515 = .ok (.iaload, 1)) rfl (by omega) hS1 hl ?_
  refine gc_V (ci := 11) (x := 41) (As := [.int (xs (i + 1)), .int (xs (i + 2)), .int (xs (i + 3))]) (rest := (r.map (vl ad)).toList ++ []) C.1 (kX11_shift l) (by decide +kernel : decode code 1516 = .ok (.invokevirtual 165, 3)) rfl qX11_shift tw7_221 tw7_222 tw7_223 tw1_12 tw7_224 (by decide) hrc rfl rfl (cat2 r ad) hl.1 hP1 hS1 hK1 (fun u w2 H2 locs2 hK2 hP2 hS2 st2 => ?_)
  obtain ⟨rfl, ⟨x, rfl⟩, hLR2⟩ := hK2
  refine lv_icmp_eq (tgt := 1891) hx hb (by decide +kernel : decode code 1519 = .ok (.if_icmp .eq 372, 3)) (by decide) (fun _ => ?_) (fun z => absurd rfl z)
  exact lc_end C nx hq (st1.tr st2) hLR2 hP2 hS2 hl
theorem lc_swap (C : LX p s m meth c D ad adV cA b L xs ql sa) (hi : i + 6 ≤ L) (hk : k ≤ 512) (nx : NX p l e s m below meth c D ad cA b ql i (k + 1) 1891) (h : HD s D ad cA b ql i w f H ls) : W p l e room_1 s m #[Value.ref b] below meth c H [] (60 + k) (8000 + 6 * k) (lw_Z below #[Value.ref b] s) (F0 m 1524 ls []) := by
  obtain ⟨hLR, hP, hS, hq, hl⟩ := h
  have hrc : 60 + k ≤ room_1.cells ∧ 8000 + 6 * k ≤ room_1.slots := ⟨by show 60 + k ≤ 601024; omega, by show 8000 + 6 * k ≤ 7293034; omega⟩
  have hx := C.1.1
  have hb := C.1.2.1
  refine lv_aload_n hx hb (by decide +kernel : decode code 1524 = .ok (.aload_n 1, 1)) rfl (lv_at hl 1 rfl) ?_
  refine ld C (j := 1) (n := 1) (by decide +kernel : decode code 1525 = .ok (.aload_n 0, 1)) (by decide +kernel : decode code 1526 = .ok (.iload 4, 2)) (by decide +kernel : decode code 1528 = .ok (.iconst 1, 1)) (by decide +kernel : decode code 1529 = .ok (.iadd, 1)) (by decide +kernel : decode code 1530 = .ok (.iaload, 1)) rfl (by omega) hS hl ?_
  refine ld C (j := 2) (n := 2) (by decide +kernel : decode code 1531 = .ok (.aload_n 0, 1)) (by decide +kernel : decode code 1532 = .ok (.iload 4, 2)) (by decide +kernel : decode code 1534 = .ok (.iconst 2, 1)) (by decide +kernel : decode code 1535 = .ok (.iadd, 1)) (by decide +kernel : decode code 1536 = .ok (.iaload, 1)) rfl (by omega) hS hl ?_
  refine ld C (j := 3) (n := 3) (by decide +kernel : decode code 1537 = .ok (.aload_n 0, 1)) (by decide +kernel : decode code 1538 = .ok (.iload 4, 2)) (by decide +kernel : decode code 1540 = .ok (.iconst 3, 1)) (by decide +kernel : decode code 1541 = .ok (.iadd, 1)) (by decide +kernel : decode code 1542 = .ok (.iaload, 1)) rfl (by omega) hS hl ?_
  refine ld C (j := 4) (n := 4) (by decide +kernel : decode code 1543 = .ok (.aload_n 0, 1)) (by decide +kernel : decode code 1544 = .ok (.iload 4, 2)) (by decide +kernel : decode code 1546 = .ok (.iconst 4, 1)) (by decide +kernel : decode code 1547 = .ok (.iadd, 1)) (by decide +kernel : decode code 1548 = .ok (.iaload, 1)) rfl (by omega) hS hl ?_
  refine gc_V (ci := 10) (x := 0) (As := [.int (xs (i + 1)), .int (xs (i + 2)), .int (xs (i + 3)), .int (xs (i + 4))]) (rest := []) C.1 (kX10_swap l) (by decide +kernel : decode code 1549 = .ok (.invokevirtual 166, 3)) rfl qX10_swap tw5_70 tw5_71 tw5_72 tw1_1 tw5_73 (by decide) hrc rfl rfl (Nat.le_of_ble_eq_true rfl) hl.1 hP hS (l_swap hLR) (fun r w1 H1 locs1 hK1 hP1 hS1 st1 => ?_)
  refine lv_aload_n hx hb (by decide +kernel : decode code 1552 = .ok (.aload_n 2, 1)) rfl (lv_at hl 2 rfl) ?_
  refine ld C (j := 1) (n := 1) (by decide +kernel : decode code 1553 = .ok (.aload_n 0, 1)) (by decide +kernel : decode code 1554 = .ok (.iload 4, 2)) (by decide +kernel : decode code 1556 = .ok (.iconst 1, 1)) (by decide +kernel : decode code 1557 = .ok (.iadd, 1)) (by decide +kernel : decode code 1558 = .ok (.iaload, 1)) rfl (by omega) hS1 hl ?_
  refine ld C (j := 2) (n := 2) (by decide +kernel : decode code 1559 = .ok (.aload_n 0, 1)) (by decide +kernel : decode code 1560 = .ok (.iload 4, 2)) (by decide +kernel : decode code 1562 = .ok (.iconst 2, 1)) (by decide +kernel : decode code 1563 = .ok (.iadd, 1)) (by decide +kernel : decode code 1564 = .ok (.iaload, 1)) rfl (by omega) hS1 hl ?_
  refine ld C (j := 3) (n := 3) (by decide +kernel : decode code 1565 = .ok (.aload_n 0, 1)) (by decide +kernel : decode code 1566 = .ok (.iload 4, 2)) (by decide +kernel : decode code 1568 = .ok (.iconst 3, 1)) (by decide +kernel : decode code 1569 = .ok (.iadd, 1)) (by decide +kernel : decode code 1570 = .ok (.iaload, 1)) rfl (by omega) hS1 hl ?_
  refine ld C (j := 4) (n := 4) (by decide +kernel : decode code 1571 = .ok (.aload_n 0, 1)) (by decide +kernel : decode code 1572 = .ok (.iload 4, 2)) (by decide +kernel : decode code 1574 = .ok (.iconst 4, 1)) (by decide +kernel : decode code 1575 = .ok (.iadd, 1)) (by decide +kernel : decode code 1576 = .ok (.iaload, 1)) rfl (by omega) hS1 hl ?_
  refine gc_V (ci := 11) (x := 41) (As := [.int (xs (i + 1)), .int (xs (i + 2)), .int (xs (i + 3)), .int (xs (i + 4))]) (rest := (r.map (vl ad)).toList ++ []) C.1 (kX11_swap l) (by decide +kernel : decode code 1577 = .ok (.invokevirtual 170, 3)) rfl qX11_swap tw7_225 tw7_226 tw7_227 tw1_12 tw7_228 (by decide) hrc rfl rfl (cat2 r ad) hl.1 hP1 hS1 hK1 (fun u w2 H2 locs2 hK2 hP2 hS2 st2 => ?_)
  obtain ⟨rfl, ⟨x, rfl⟩, hLR2⟩ := hK2
  refine lv_icmp_eq (tgt := 1891) hx hb (by decide +kernel : decode code 1580 = .ok (.if_icmp .eq 311, 3)) (by decide) (fun _ => ?_) (fun z => absurd rfl z)
  exact lc_end C nx hq (st1.tr st2) hLR2 hP2 hS2 hl
theorem lc_better (C : LX p s m meth c D ad adV cA b L xs ql sa) (hi : i + 6 ≤ L) (hk : k ≤ 512) (nx : NX p l e s m below meth c D ad cA b ql i (k + 1) 1891) (h : HD s D ad cA b ql i w f H ls) : W p l e room_1 s m #[Value.ref b] below meth c H [] (60 + k) (8000 + 6 * k) (lw_Z below #[Value.ref b] s) (F0 m 1585 ls []) := by
  obtain ⟨hLR, hP, hS, hq, hl⟩ := h
  have hrc : 60 + k ≤ room_1.cells ∧ 8000 + 6 * k ≤ room_1.slots := ⟨by show 60 + k ≤ 601024; omega, by show 8000 + 6 * k ≤ 7293034; omega⟩
  have hx := C.1.1
  have hb := C.1.2.1
  refine lv_aload_n hx hb (by decide +kernel : decode code 1585 = .ok (.aload_n 1, 1)) rfl (lv_at hl 1 rfl) ?_
  refine gc_V (ci := 10) (x := 0) (As := []) (rest := []) C.1 (kX10_better l) (by decide +kernel : decode code 1586 = .ok (.invokevirtual 171, 3)) rfl qX10_better tw5_83 tw5_84 tw5_85 tw1_1 tw5_86 (by decide) hrc rfl rfl (Nat.le_of_ble_eq_true rfl) hl.1 hP hS (l_better hLR) (fun r w1 H1 locs1 hK1 hP1 hS1 st1 => ?_)
  refine lv_aload_n hx hb (by decide +kernel : decode code 1589 = .ok (.aload_n 2, 1)) rfl (lv_at hl 2 rfl) ?_
  refine gc_V (ci := 11) (x := 41) (As := []) (rest := (r.map (vl ad)).toList ++ []) C.1 (kX11_better l) (by decide +kernel : decode code 1590 = .ok (.invokevirtual 174, 3)) rfl qX11_better tw7_233 tw7_234 tw7_235 tw1_12 tw7_236 (by decide) hrc rfl rfl (cat2 r ad) hl.1 hP1 hS1 hK1 (fun u w2 H2 locs2 hK2 hP2 hS2 st2 => ?_)
  obtain ⟨rfl, ⟨x, rfl⟩, hLR2⟩ := hK2
  refine lv_icmp_eq (tgt := 1891) hx hb (by decide +kernel : decode code 1593 = .ok (.if_icmp .eq 298, 3)) (by decide) (fun _ => ?_) (fun z => absurd rfl z)
  exact lc_end C nx hq (st1.tr st2) hLR2 hP2 hS2 hl
theorem lc_fill (C : LX p s m meth c D ad adV cA b L xs ql sa) (hi : i + 6 ≤ L) (hk : k ≤ 512) (nx : NX p l e s m below meth c D ad cA b ql i (k + 1) 1891) (h : HD s D ad cA b ql i w f H ls) : W p l e room_1 s m #[Value.ref b] below meth c H [] (60 + k) (8000 + 6 * k) (lw_Z below #[Value.ref b] s) (F0 m 1598 ls []) := by
  obtain ⟨hLR, hP, hS, hq, hl⟩ := h
  have hrc : 60 + k ≤ room_1.cells ∧ 8000 + 6 * k ≤ room_1.slots := ⟨by show 60 + k ≤ 601024; omega, by show 8000 + 6 * k ≤ 7293034; omega⟩
  have hx := C.1.1
  have hb := C.1.2.1
  refine lv_aload_n hx hb (by decide +kernel : decode code 1598 = .ok (.aload_n 1, 1)) rfl (lv_at hl 1 rfl) ?_
  refine ld C (j := 1) (n := 1) (by decide +kernel : decode code 1599 = .ok (.aload_n 0, 1)) (by decide +kernel : decode code 1600 = .ok (.iload 4, 2)) (by decide +kernel : decode code 1602 = .ok (.iconst 1, 1)) (by decide +kernel : decode code 1603 = .ok (.iadd, 1)) (by decide +kernel : decode code 1604 = .ok (.iaload, 1)) rfl (by omega) hS hl ?_
  refine gc_V (ci := 10) (x := 0) (As := [.int (xs (i + 1))]) (rest := []) C.1 (kX10_fill l) (by decide +kernel : decode code 1605 = .ok (.invokevirtual 175, 3)) rfl qX10_fill tw5_99 tw5_100 tw5_101 tw1_1 tw5_102 (by decide) hrc rfl rfl (Nat.le_of_ble_eq_true rfl) hl.1 hP hS (l_fill hLR) (fun r w1 H1 locs1 hK1 hP1 hS1 st1 => ?_)
  refine lv_aload_n hx hb (by decide +kernel : decode code 1608 = .ok (.aload_n 2, 1)) rfl (lv_at hl 2 rfl) ?_
  refine ld C (j := 1) (n := 1) (by decide +kernel : decode code 1609 = .ok (.aload_n 0, 1)) (by decide +kernel : decode code 1610 = .ok (.iload 4, 2)) (by decide +kernel : decode code 1612 = .ok (.iconst 1, 1)) (by decide +kernel : decode code 1613 = .ok (.iadd, 1)) (by decide +kernel : decode code 1614 = .ok (.iaload, 1)) rfl (by omega) hS1 hl ?_
  refine gc_V (ci := 11) (x := 41) (As := [.int (xs (i + 1))]) (rest := (r.map (vl ad)).toList ++ []) C.1 (kX11_fill l) (by decide +kernel : decode code 1615 = .ok (.invokevirtual 178, 3)) rfl qX11_fill tw8_1 tw8_2 tw8_3 tw1_12 tw8_4 (by decide) hrc rfl rfl (cat2 r ad) hl.1 hP1 hS1 hK1 (fun u w2 H2 locs2 hK2 hP2 hS2 st2 => ?_)
  obtain ⟨rfl, ⟨x, rfl⟩, hLR2⟩ := hK2
  refine lv_icmp_eq (tgt := 1891) hx hb (by decide +kernel : decode code 1618 = .ok (.if_icmp .eq 273, 3)) (by decide) (fun _ => ?_) (fun z => absurd rfl z)
  exact lc_end C nx hq (st1.tr st2) hLR2 hP2 hS2 hl
theorem lc_fillAll (C : LX p s m meth c D ad adV cA b L xs ql sa) (hi : i + 6 ≤ L) (hk : k ≤ 512) (nx : NX p l e s m below meth c D ad cA b ql i (k + 1) 1891) (h : HD s D ad cA b ql i w f H ls) : W p l e room_1 s m #[Value.ref b] below meth c H [] (60 + k) (8000 + 6 * k) (lw_Z below #[Value.ref b] s) (F0 m 1623 ls []) := by
  obtain ⟨hLR, hP, hS, hq, hl⟩ := h
  have hrc : 60 + k ≤ room_1.cells ∧ 8000 + 6 * k ≤ room_1.slots := ⟨by show 60 + k ≤ 601024; omega, by show 8000 + 6 * k ≤ 7293034; omega⟩
  have hx := C.1.1
  have hb := C.1.2.1
  refine lv_aload_n hx hb (by decide +kernel : decode code 1623 = .ok (.aload_n 1, 1)) rfl (lv_at hl 1 rfl) ?_
  refine gc_V (ci := 10) (x := 0) (As := []) (rest := []) C.1 (kX10_fillAll l) (by decide +kernel : decode code 1624 = .ok (.invokevirtual 179, 3)) rfl qX10_fillAll tw5_113 tw5_114 tw5_115 tw1_1 tw5_116 (by decide) hrc rfl rfl (Nat.le_of_ble_eq_true rfl) hl.1 hP hS (l_fillAll hLR) (fun r w1 H1 locs1 hK1 hP1 hS1 st1 => ?_)
  refine lv_aload_n hx hb (by decide +kernel : decode code 1627 = .ok (.aload_n 2, 1)) rfl (lv_at hl 2 rfl) ?_
  refine gc_V (ci := 11) (x := 41) (As := []) (rest := (r.map (vl ad)).toList ++ []) C.1 (kX11_fillAll l) (by decide +kernel : decode code 1628 = .ok (.invokevirtual 182, 3)) rfl qX11_fillAll tw8_9 tw8_10 tw8_11 tw1_12 tw8_12 (by decide) hrc rfl rfl (cat2 r ad) hl.1 hP1 hS1 hK1 (fun u w2 H2 locs2 hK2 hP2 hS2 st2 => ?_)
  obtain ⟨rfl, ⟨x, rfl⟩, hLR2⟩ := hK2
  refine lv_icmp_eq (tgt := 1891) hx hb (by decide +kernel : decode code 1631 = .ok (.if_icmp .eq 260, 3)) (by decide) (fun _ => ?_) (fun z => absurd rfl z)
  exact lc_end C nx hq (st1.tr st2) hLR2 hP2 hS2 hl
theorem lc_laid (C : LX p s m meth c D ad adV cA b L xs ql sa) (hi : i + 6 ≤ L) (hk : k ≤ 512) (nx : NX p l e s m below meth c D ad cA b ql i (k + 1) 1891) (h : HD s D ad cA b ql i w f H ls) : W p l e room_1 s m #[Value.ref b] below meth c H [] (60 + k) (8000 + 6 * k) (lw_Z below #[Value.ref b] s) (F0 m 1636 ls []) := by
  obtain ⟨hLR, hP, hS, hq, hl⟩ := h
  have hrc : 60 + k ≤ room_1.cells ∧ 8000 + 6 * k ≤ room_1.slots := ⟨by show 60 + k ≤ 601024; omega, by show 8000 + 6 * k ≤ 7293034; omega⟩
  have hx := C.1.1
  have hb := C.1.2.1
  refine lv_aload_n hx hb (by decide +kernel : decode code 1636 = .ok (.aload_n 1, 1)) rfl (lv_at hl 1 rfl) ?_
  refine ld C (j := 1) (n := 1) (by decide +kernel : decode code 1637 = .ok (.aload_n 0, 1)) (by decide +kernel : decode code 1638 = .ok (.iload 4, 2)) (by decide +kernel : decode code 1640 = .ok (.iconst 1, 1)) (by decide +kernel : decode code 1641 = .ok (.iadd, 1)) (by decide +kernel : decode code 1642 = .ok (.iaload, 1)) rfl (by omega) hS hl ?_
  refine ld C (j := 2) (n := 2) (by decide +kernel : decode code 1643 = .ok (.aload_n 0, 1)) (by decide +kernel : decode code 1644 = .ok (.iload 4, 2)) (by decide +kernel : decode code 1646 = .ok (.iconst 2, 1)) (by decide +kernel : decode code 1647 = .ok (.iadd, 1)) (by decide +kernel : decode code 1648 = .ok (.iaload, 1)) rfl (by omega) hS hl ?_
  refine gc_V (ci := 10) (x := 0) (As := [.int (xs (i + 1)), .int (xs (i + 2))]) (rest := []) C.1 (kX10_laid l) (by decide +kernel : decode code 1649 = .ok (.invokevirtual 183, 3)) rfl qX10_laid tw5_117 tw5_118 tw5_119 tw1_1 tw5_120 (by decide) hrc rfl rfl (Nat.le_of_ble_eq_true rfl) hl.1 hP hS (l_laid hLR) (fun r w1 H1 locs1 hK1 hP1 hS1 st1 => ?_)
  refine lv_aload_n hx hb (by decide +kernel : decode code 1652 = .ok (.aload_n 2, 1)) rfl (lv_at hl 2 rfl) ?_
  refine ld C (j := 1) (n := 1) (by decide +kernel : decode code 1653 = .ok (.aload_n 0, 1)) (by decide +kernel : decode code 1654 = .ok (.iload 4, 2)) (by decide +kernel : decode code 1656 = .ok (.iconst 1, 1)) (by decide +kernel : decode code 1657 = .ok (.iadd, 1)) (by decide +kernel : decode code 1658 = .ok (.iaload, 1)) rfl (by omega) hS1 hl ?_
  refine ld C (j := 2) (n := 2) (by decide +kernel : decode code 1659 = .ok (.aload_n 0, 1)) (by decide +kernel : decode code 1660 = .ok (.iload 4, 2)) (by decide +kernel : decode code 1662 = .ok (.iconst 2, 1)) (by decide +kernel : decode code 1663 = .ok (.iadd, 1)) (by decide +kernel : decode code 1664 = .ok (.iaload, 1)) rfl (by omega) hS1 hl ?_
  refine gc_V (ci := 11) (x := 41) (As := [.int (xs (i + 1)), .int (xs (i + 2))]) (rest := (r.map (vl ad)).toList ++ []) C.1 (kX11_laid l) (by decide +kernel : decode code 1665 = .ok (.invokevirtual 186, 3)) rfl qX11_laid tw8_13 tw8_14 tw8_15 tw1_12 tw8_16 (by decide) hrc rfl rfl (cat2 r ad) hl.1 hP1 hS1 hK1 (fun u w2 H2 locs2 hK2 hP2 hS2 st2 => ?_)
  obtain ⟨rfl, ⟨x, rfl⟩, hLR2⟩ := hK2
  refine lv_icmp_eq (tgt := 1891) hx hb (by decide +kernel : decode code 1668 = .ok (.if_icmp .eq 223, 3)) (by decide) (fun _ => ?_) (fun z => absurd rfl z)
  exact lc_end C nx hq (st1.tr st2) hLR2 hP2 hS2 hl
theorem lc_become (C : LX p s m meth c D ad adV cA b L xs ql sa) (hi : i + 6 ≤ L) (hk : k ≤ 512) (nx : NX p l e s m below meth c D ad cA b ql i (k + 1) 1891) (h : HD s D ad cA b ql i w f H ls) : W p l e room_1 s m #[Value.ref b] below meth c H [] (60 + k) (8000 + 6 * k) (lw_Z below #[Value.ref b] s) (F0 m 1673 ls []) := by
  obtain ⟨hLR, hP, hS, hq, hl⟩ := h
  have hrc : 60 + k ≤ room_1.cells ∧ 8000 + 6 * k ≤ room_1.slots := ⟨by show 60 + k ≤ 601024; omega, by show 8000 + 6 * k ≤ 7293034; omega⟩
  have hx := C.1.1
  have hb := C.1.2.1
  refine lv_aload_n hx hb (by decide +kernel : decode code 1673 = .ok (.aload_n 1, 1)) rfl (lv_at hl 1 rfl) ?_
  refine ld C (j := 1) (n := 1) (by decide +kernel : decode code 1674 = .ok (.aload_n 0, 1)) (by decide +kernel : decode code 1675 = .ok (.iload 4, 2)) (by decide +kernel : decode code 1677 = .ok (.iconst 1, 1)) (by decide +kernel : decode code 1678 = .ok (.iadd, 1)) (by decide +kernel : decode code 1679 = .ok (.iaload, 1)) rfl (by omega) hS hl ?_
  refine ld C (j := 2) (n := 2) (by decide +kernel : decode code 1680 = .ok (.aload_n 0, 1)) (by decide +kernel : decode code 1681 = .ok (.iload 4, 2)) (by decide +kernel : decode code 1683 = .ok (.iconst 2, 1)) (by decide +kernel : decode code 1684 = .ok (.iadd, 1)) (by decide +kernel : decode code 1685 = .ok (.iaload, 1)) rfl (by omega) hS hl ?_
  refine ld C (j := 3) (n := 3) (by decide +kernel : decode code 1686 = .ok (.aload_n 0, 1)) (by decide +kernel : decode code 1687 = .ok (.iload 4, 2)) (by decide +kernel : decode code 1689 = .ok (.iconst 3, 1)) (by decide +kernel : decode code 1690 = .ok (.iadd, 1)) (by decide +kernel : decode code 1691 = .ok (.iaload, 1)) rfl (by omega) hS hl ?_
  refine gc_V (ci := 10) (x := 0) (As := [.int (xs (i + 1)), .int (xs (i + 2)), .int (xs (i + 3))]) (rest := []) C.1 (kX10_become l) (by decide +kernel : decode code 1692 = .ok (.invokevirtual 187, 3)) rfl qX10_become tw5_122 tw5_123 tw5_124 tw1_1 tw5_125 (by decide) hrc rfl rfl (Nat.le_of_ble_eq_true rfl) hl.1 hP hS (l_become hLR) (fun r w1 H1 locs1 hK1 hP1 hS1 st1 => ?_)
  refine lv_aload_n hx hb (by decide +kernel : decode code 1695 = .ok (.aload_n 2, 1)) rfl (lv_at hl 2 rfl) ?_
  refine ld C (j := 1) (n := 1) (by decide +kernel : decode code 1696 = .ok (.aload_n 0, 1)) (by decide +kernel : decode code 1697 = .ok (.iload 4, 2)) (by decide +kernel : decode code 1699 = .ok (.iconst 1, 1)) (by decide +kernel : decode code 1700 = .ok (.iadd, 1)) (by decide +kernel : decode code 1701 = .ok (.iaload, 1)) rfl (by omega) hS1 hl ?_
  refine ld C (j := 2) (n := 2) (by decide +kernel : decode code 1702 = .ok (.aload_n 0, 1)) (by decide +kernel : decode code 1703 = .ok (.iload 4, 2)) (by decide +kernel : decode code 1705 = .ok (.iconst 2, 1)) (by decide +kernel : decode code 1706 = .ok (.iadd, 1)) (by decide +kernel : decode code 1707 = .ok (.iaload, 1)) rfl (by omega) hS1 hl ?_
  refine ld C (j := 3) (n := 3) (by decide +kernel : decode code 1708 = .ok (.aload_n 0, 1)) (by decide +kernel : decode code 1709 = .ok (.iload 4, 2)) (by decide +kernel : decode code 1711 = .ok (.iconst 3, 1)) (by decide +kernel : decode code 1712 = .ok (.iadd, 1)) (by decide +kernel : decode code 1713 = .ok (.iaload, 1)) rfl (by omega) hS1 hl ?_
  refine gc_V (ci := 11) (x := 41) (As := [.int (xs (i + 1)), .int (xs (i + 2)), .int (xs (i + 3))]) (rest := (r.map (vl ad)).toList ++ []) C.1 (kX11_become l) (by decide +kernel : decode code 1714 = .ok (.invokevirtual 190, 3)) rfl qX11_become tw8_17 tw8_18 tw8_19 tw1_12 tw8_20 (by decide) hrc rfl rfl (cat2 r ad) hl.1 hP1 hS1 hK1 (fun u w2 H2 locs2 hK2 hP2 hS2 st2 => ?_)
  obtain ⟨rfl, ⟨x, rfl⟩, hLR2⟩ := hK2
  refine lv_icmp_eq (tgt := 1891) hx hb (by decide +kernel : decode code 1717 = .ok (.if_icmp .eq 174, 3)) (by decide) (fun _ => ?_) (fun z => absurd rfl z)
  exact lc_end C nx hq (st1.tr st2) hLR2 hP2 hS2 hl
theorem lc_rule (C : LX p s m meth c D ad adV cA b L xs ql sa) (hi : i + 6 ≤ L) (hk : k ≤ 512) (nx : NX p l e s m below meth c D ad cA b ql i (k + 1) 1891) (h : HD s D ad cA b ql i w f H ls) : W p l e room_1 s m #[Value.ref b] below meth c H [] (60 + k) (8000 + 6 * k) (lw_Z below #[Value.ref b] s) (F0 m 1722 ls []) := by
  obtain ⟨hLR, hP, hS, hq, hl⟩ := h
  have hrc : 60 + k ≤ room_1.cells ∧ 8000 + 6 * k ≤ room_1.slots := ⟨by show 60 + k ≤ 601024; omega, by show 8000 + 6 * k ≤ 7293034; omega⟩
  have hx := C.1.1
  have hb := C.1.2.1
  refine lv_aload_n hx hb (by decide +kernel : decode code 1722 = .ok (.aload_n 1, 1)) rfl (lv_at hl 1 rfl) ?_
  refine ld C (j := 1) (n := 1) (by decide +kernel : decode code 1723 = .ok (.aload_n 0, 1)) (by decide +kernel : decode code 1724 = .ok (.iload 4, 2)) (by decide +kernel : decode code 1726 = .ok (.iconst 1, 1)) (by decide +kernel : decode code 1727 = .ok (.iadd, 1)) (by decide +kernel : decode code 1728 = .ok (.iaload, 1)) rfl (by omega) hS hl ?_
  refine ld C (j := 2) (n := 2) (by decide +kernel : decode code 1729 = .ok (.aload_n 0, 1)) (by decide +kernel : decode code 1730 = .ok (.iload 4, 2)) (by decide +kernel : decode code 1732 = .ok (.iconst 2, 1)) (by decide +kernel : decode code 1733 = .ok (.iadd, 1)) (by decide +kernel : decode code 1734 = .ok (.iaload, 1)) rfl (by omega) hS hl ?_
  refine gc_V (ci := 10) (x := 0) (As := [.int (xs (i + 1)), .int (xs (i + 2))]) (rest := []) C.1 (kX10_rule l) (by decide +kernel : decode code 1735 = .ok (.invokevirtual 191, 3)) rfl qX10_rule tw5_129 tw5_130 tw5_131 tw1_1 tw5_132 (by decide) hrc rfl rfl (Nat.le_of_ble_eq_true rfl) hl.1 hP hS (l_rule hLR) (fun r w1 H1 locs1 hK1 hP1 hS1 st1 => ?_)
  refine lv_aload_n hx hb (by decide +kernel : decode code 1738 = .ok (.aload_n 2, 1)) rfl (lv_at hl 2 rfl) ?_
  refine ld C (j := 1) (n := 1) (by decide +kernel : decode code 1739 = .ok (.aload_n 0, 1)) (by decide +kernel : decode code 1740 = .ok (.iload 4, 2)) (by decide +kernel : decode code 1742 = .ok (.iconst 1, 1)) (by decide +kernel : decode code 1743 = .ok (.iadd, 1)) (by decide +kernel : decode code 1744 = .ok (.iaload, 1)) rfl (by omega) hS1 hl ?_
  refine ld C (j := 2) (n := 2) (by decide +kernel : decode code 1745 = .ok (.aload_n 0, 1)) (by decide +kernel : decode code 1746 = .ok (.iload 4, 2)) (by decide +kernel : decode code 1748 = .ok (.iconst 2, 1)) (by decide +kernel : decode code 1749 = .ok (.iadd, 1)) (by decide +kernel : decode code 1750 = .ok (.iaload, 1)) rfl (by omega) hS1 hl ?_
  refine gc_V (ci := 11) (x := 41) (As := [.int (xs (i + 1)), .int (xs (i + 2))]) (rest := (r.map (vl ad)).toList ++ []) C.1 (kX11_rule l) (by decide +kernel : decode code 1751 = .ok (.invokevirtual 194, 3)) rfl qX11_rule tw8_25 tw8_26 tw8_27 tw1_12 tw8_28 (by decide) hrc rfl rfl (cat2 r ad) hl.1 hP1 hS1 hK1 (fun u w2 H2 locs2 hK2 hP2 hS2 st2 => ?_)
  obtain ⟨rfl, ⟨x, rfl⟩, hLR2⟩ := hK2
  refine lv_icmp_eq (tgt := 1891) hx hb (by decide +kernel : decode code 1754 = .ok (.if_icmp .eq 137, 3)) (by decide) (fun _ => ?_) (fun z => absurd rfl z)
  exact lc_end C nx hq (st1.tr st2) hLR2 hP2 hS2 hl
theorem lc_rests (C : LX p s m meth c D ad adV cA b L xs ql sa) (hi : i + 6 ≤ L) (hk : k ≤ 512) (nx : NX p l e s m below meth c D ad cA b ql i (k + 1) 1891) (h : HD s D ad cA b ql i w f H ls) : W p l e room_1 s m #[Value.ref b] below meth c H [] (60 + k) (8000 + 6 * k) (lw_Z below #[Value.ref b] s) (F0 m 1759 ls []) := by
  obtain ⟨hLR, hP, hS, hq, hl⟩ := h
  have hrc : 60 + k ≤ room_1.cells ∧ 8000 + 6 * k ≤ room_1.slots := ⟨by show 60 + k ≤ 601024; omega, by show 8000 + 6 * k ≤ 7293034; omega⟩
  have hx := C.1.1
  have hb := C.1.2.1
  refine lv_aload_n hx hb (by decide +kernel : decode code 1759 = .ok (.aload_n 1, 1)) rfl (lv_at hl 1 rfl) ?_
  refine ld C (j := 1) (n := 1) (by decide +kernel : decode code 1760 = .ok (.aload_n 0, 1)) (by decide +kernel : decode code 1761 = .ok (.iload 4, 2)) (by decide +kernel : decode code 1763 = .ok (.iconst 1, 1)) (by decide +kernel : decode code 1764 = .ok (.iadd, 1)) (by decide +kernel : decode code 1765 = .ok (.iaload, 1)) rfl (by omega) hS hl ?_
  refine ld C (j := 2) (n := 2) (by decide +kernel : decode code 1766 = .ok (.aload_n 0, 1)) (by decide +kernel : decode code 1767 = .ok (.iload 4, 2)) (by decide +kernel : decode code 1769 = .ok (.iconst 2, 1)) (by decide +kernel : decode code 1770 = .ok (.iadd, 1)) (by decide +kernel : decode code 1771 = .ok (.iaload, 1)) rfl (by omega) hS hl ?_
  refine gc_V (ci := 10) (x := 0) (As := [.int (xs (i + 1)), .int (xs (i + 2))]) (rest := []) C.1 (kX10_rests l) (by decide +kernel : decode code 1772 = .ok (.invokevirtual 195, 3)) rfl qX10_rests tw5_135 tw5_136 tw5_137 tw1_1 tw5_138 (by decide) hrc rfl rfl (Nat.le_of_ble_eq_true rfl) hl.1 hP hS (l_rests hLR) (fun r w1 H1 locs1 hK1 hP1 hS1 st1 => ?_)
  refine lv_aload_n hx hb (by decide +kernel : decode code 1775 = .ok (.aload_n 2, 1)) rfl (lv_at hl 2 rfl) ?_
  refine ld C (j := 1) (n := 1) (by decide +kernel : decode code 1776 = .ok (.aload_n 0, 1)) (by decide +kernel : decode code 1777 = .ok (.iload 4, 2)) (by decide +kernel : decode code 1779 = .ok (.iconst 1, 1)) (by decide +kernel : decode code 1780 = .ok (.iadd, 1)) (by decide +kernel : decode code 1781 = .ok (.iaload, 1)) rfl (by omega) hS1 hl ?_
  refine ld C (j := 2) (n := 2) (by decide +kernel : decode code 1782 = .ok (.aload_n 0, 1)) (by decide +kernel : decode code 1783 = .ok (.iload 4, 2)) (by decide +kernel : decode code 1785 = .ok (.iconst 2, 1)) (by decide +kernel : decode code 1786 = .ok (.iadd, 1)) (by decide +kernel : decode code 1787 = .ok (.iaload, 1)) rfl (by omega) hS1 hl ?_
  refine gc_V (ci := 11) (x := 41) (As := [.int (xs (i + 1)), .int (xs (i + 2))]) (rest := (r.map (vl ad)).toList ++ []) C.1 (kX11_rests l) (by decide +kernel : decode code 1788 = .ok (.invokevirtual 198, 3)) rfl qX11_rests tw8_29 tw8_30 tw8_31 tw1_12 tw8_32 (by decide) hrc rfl rfl (cat2 r ad) hl.1 hP1 hS1 hK1 (fun u w2 H2 locs2 hK2 hP2 hS2 st2 => ?_)
  obtain ⟨rfl, ⟨x, rfl⟩, hLR2⟩ := hK2
  refine lv_icmp_eq (tgt := 1891) hx hb (by decide +kernel : decode code 1791 = .ok (.if_icmp .eq 100, 3)) (by decide) (fun _ => ?_) (fun z => absurd rfl z)
  exact lc_end C nx hq (st1.tr st2) hLR2 hP2 hS2 hl
theorem lc_undo (C : LX p s m meth c D ad adV cA b L xs ql sa) (hi : i + 6 ≤ L) (hk : k ≤ 512) (nx : NX p l e s m below meth c D ad cA b ql i (k + 1) 1891) (h : HD s D ad cA b ql i w f H ls) : W p l e room_1 s m #[Value.ref b] below meth c H [] (60 + k) (8000 + 6 * k) (lw_Z below #[Value.ref b] s) (F0 m 1796 ls []) := by
  obtain ⟨hLR, hP, hS, hq, hl⟩ := h
  have hrc : 60 + k ≤ room_1.cells ∧ 8000 + 6 * k ≤ room_1.slots := ⟨by show 60 + k ≤ 601024; omega, by show 8000 + 6 * k ≤ 7293034; omega⟩
  have hx := C.1.1
  have hb := C.1.2.1
  refine lv_aload_n hx hb (by decide +kernel : decode code 1796 = .ok (.aload_n 1, 1)) rfl (lv_at hl 1 rfl) ?_
  refine gc_V (ci := 10) (x := 0) (As := []) (rest := []) C.1 (kX10_undo l) (by decide +kernel : decode code 1797 = .ok (.invokevirtual 199, 3)) rfl qX10_undo tw5_139 tw5_140 tw5_141 tw1_1 tw5_142 (by decide) hrc rfl rfl (Nat.le_of_ble_eq_true rfl) hl.1 hP hS (l_undo hLR) (fun r w1 H1 locs1 hK1 hP1 hS1 st1 => ?_)
  refine lv_aload_n hx hb (by decide +kernel : decode code 1800 = .ok (.aload_n 2, 1)) rfl (lv_at hl 2 rfl) ?_
  refine gc_V (ci := 11) (x := 41) (As := []) (rest := (r.map (vl ad)).toList ++ []) C.1 (kX11_undo l) (by decide +kernel : decode code 1801 = .ok (.invokevirtual 202, 3)) rfl qX11_undo tw8_33 tw8_34 tw8_35 tw1_12 tw8_36 (by decide) hrc rfl rfl (cat2 r ad) hl.1 hP1 hS1 hK1 (fun u w2 H2 locs2 hK2 hP2 hS2 st2 => ?_)
  obtain ⟨rfl, ⟨x, rfl⟩, hLR2⟩ := hK2
  refine lv_icmp_eq (tgt := 1891) hx hb (by decide +kernel : decode code 1804 = .ok (.if_icmp .eq 87, 3)) (by decide) (fun _ => ?_) (fun z => absurd rfl z)
  exact lc_end C nx hq (st1.tr st2) hLR2 hP2 hS2 hl
theorem lc_size (C : LX p s m meth c D ad adV cA b L xs ql sa) (hi : i + 6 ≤ L) (hk : k ≤ 512) (nx : NX p l e s m below meth c D ad cA b ql i (k + 1) 1891) (h : HD s D ad cA b ql i w f H ls) : W p l e room_1 s m #[Value.ref b] below meth c H [] (60 + k) (8000 + 6 * k) (lw_Z below #[Value.ref b] s) (F0 m 1865 ls []) := by
  obtain ⟨hLR, hP, hS, hq, hl⟩ := h
  have hrc : 60 + k ≤ room_1.cells ∧ 8000 + 6 * k ≤ room_1.slots := ⟨by show 60 + k ≤ 601024; omega, by show 8000 + 6 * k ≤ 7293034; omega⟩
  have hx := C.1.1
  have hb := C.1.2.1
  refine lv_aload_n hx hb (by decide +kernel : decode code 1865 = .ok (.aload_n 1, 1)) rfl (lv_at hl 1 rfl) ?_
  refine gc_V (ci := 10) (x := 0) (As := []) (rest := []) C.1 (kX10_size l) (by decide +kernel : decode code 1866 = .ok (.invokevirtual 212, 3)) rfl qX10_size tw5_157 tw5_158 tw5_159 tw1_1 tw5_160 (by decide) hrc rfl rfl (Nat.le_of_ble_eq_true rfl) hl.1 hP hS (l_size hLR) (fun r w1 H1 locs1 hK1 hP1 hS1 st1 => ?_)
  refine lv_aload_n hx hb (by decide +kernel : decode code 1869 = .ok (.aload_n 2, 1)) rfl (lv_at hl 2 rfl) ?_
  refine gc_V (ci := 11) (x := 41) (As := []) (rest := (r.map (vl ad)).toList ++ []) C.1 (kX11_size l) (by decide +kernel : decode code 1870 = .ok (.invokevirtual 215, 3)) rfl qX11_size tw8_41 tw8_42 tw8_43 tw1_12 tw8_44 (by decide) hrc rfl rfl (cat2 r ad) hl.1 hP1 hS1 hK1 (fun u w2 H2 locs2 hK2 hP2 hS2 st2 => ?_)
  obtain ⟨rfl, ⟨x, rfl⟩, hLR2⟩ := hK2
  refine lv_icmp_eq (tgt := 1891) hx hb (by decide +kernel : decode code 1873 = .ok (.if_icmp .eq 18, 3)) (by decide) (fun _ => ?_) (fun z => absurd rfl z)
  exact lc_end C nx hq (st1.tr st2) hLR2 hP2 hS2 hl
theorem lc_trouble (C : LX p s m meth c D ad adV cA b L xs ql sa) (hi : i + 6 ≤ L) (hk : k ≤ 512) (nx : NX p l e s m below meth c D ad cA b ql i (k + 1) 1891) (h : HD s D ad cA b ql i w f H ls) : W p l e room_1 s m #[Value.ref b] below meth c H [] (60 + k) (8000 + 6 * k) (lw_Z below #[Value.ref b] s) (F0 m 1878 ls []) := by
  obtain ⟨hLR, hP, hS, hq, hl⟩ := h
  have hrc : 60 + k ≤ room_1.cells ∧ 8000 + 6 * k ≤ room_1.slots := ⟨by show 60 + k ≤ 601024; omega, by show 8000 + 6 * k ≤ 7293034; omega⟩
  have hx := C.1.1
  have hb := C.1.2.1
  refine lv_aload_n hx hb (by decide +kernel : decode code 1878 = .ok (.aload_n 1, 1)) rfl (lv_at hl 1 rfl) ?_
  refine gc_V (ci := 10) (x := 0) (As := []) (rest := []) C.1 (kX10_trouble l) (by decide +kernel : decode code 1879 = .ok (.invokevirtual 216, 3)) rfl qX10_trouble tw5_161 tw5_162 tw5_163 tw1_1 tw5_164 (by decide) hrc rfl rfl (Nat.le_of_ble_eq_true rfl) hl.1 hP hS (l_trouble hLR) (fun r w1 H1 locs1 hK1 hP1 hS1 st1 => ?_)
  refine lv_aload_n hx hb (by decide +kernel : decode code 1882 = .ok (.aload_n 2, 1)) rfl (lv_at hl 2 rfl) ?_
  refine gc_V (ci := 11) (x := 41) (As := []) (rest := (r.map (vl ad)).toList ++ []) C.1 (kX11_trouble l) (by decide +kernel : decode code 1883 = .ok (.invokevirtual 219, 3)) rfl qX11_trouble tw8_45 tw8_46 tw8_47 tw1_12 tw8_48 (by decide) hrc rfl rfl (cat2 r ad) hl.1 hP1 hS1 hK1 (fun u w2 H2 locs2 hK2 hP2 hS2 st2 => ?_)
  obtain ⟨rfl, ⟨x, rfl⟩, hLR2⟩ := hK2
  refine lv_icmp_eq (tgt := 1891) hx hb (by decide +kernel : decode code 1886 = .ok (.if_icmp .eq 5, 3)) (by decide) (fun _ => ?_) (fun z => absurd rfl z)
  exact lc_end C nx hq (st1.tr st2) hLR2 hP2 hS2 hl
end LAWC2
