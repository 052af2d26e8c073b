/-! text() -/
theorem cpL_2 {w : Wd} {c sp dp n : Nat} {f : Nat → Int64} {j : Nat} : (cpL w c f sp dp n).2 c j = va_cpy f (w.2 c) sp dp n j := if_pos rfl
theorem cpL_1 {w : Wd} {c sp dp n : Nat} {f : Nat → Int64} : (cpL w c f sp dp n).1 = w.1 := rfl
theorem Off.cpL {S : Nat → Prop} {w : Wd} {c sp dp n : Nat} {f : Nat → Int64} (hc : S c) : Off S w (cpL w c f sp dp n) := fun a ha => ⟨rfl, by
  funext b
  exact if_neg (fun (z : a = c) => ha (by rw [z]; exact hc))⟩
theorem cpI_2 {w : Wd} {c sp dp n : Nat} {f : Nat → Int32} : (cpI w c f sp dp n).2 = w.2 := rfl
section TEXT
variable {w : Wd} {K : Kt}
theorem c_copyFrom (h : ∀ w1, Off (fun c => 13 ≤ c ∧ c ≤ 20) w w1 → w1.1 13 0 = w.1 5 0 → w1.1 13 4 = w.1 5 4 → w1.1 13 7 = w.1 5 7 → (∀ j, j < 8 → w1.2 14 j = w.2 6 j ∧ w1.1 15 j = w.1 7 j) → (∀ j, j < 32 → w1.1 16 j = w.1 8 j) → (∀ j, j < 60 → w1.1 17 j = w.1 9 j) → (∀ j, j < 3 → w1.1 18 j = w.1 10 j) → (∀ j, j < 5 → w1.1 19 j = w.1 11 j ∧ w1.1 20 j = w.1 12 j) → K none w1) : fX9_copyFrom [.ref 13, .ref 5] w K := by
  refine tX9_copyFrom_0 ?_
  have o0 : Off (fun c => c = 13) w (upI (upI (upI w 13 0 (w.1 5 0)) 13 4 ((upI w 13 0 (w.1 5 0)).1 5 4)) 13 7 ((upI (upI w 13 0 (w.1 5 0)) 13 4 ((upI w 13 0 (w.1 5 0)).1 5 4)).1 5 7)) := ((Off.up (S := fun c => c = 13) rfl).tr (Off.up rfl)).tr (Off.up rfl)
  have b0 : (upI (upI (upI w 13 0 (w.1 5 0)) 13 4 ((upI w 13 0 (w.1 5 0)).1 5 4)) 13 7 ((upI (upI w 13 0 (w.1 5 0)) 13 4 ((upI w 13 0 (w.1 5 0)).1 5 4)).1 5 7)).1 13 0 = w.1 5 0 := by rw [upI1, if_neg (by decide), upI1, if_neg (by decide), upI1, if_pos ⟨rfl, rfl⟩]
  have b4 : (upI (upI (upI w 13 0 (w.1 5 0)) 13 4 ((upI w 13 0 (w.1 5 0)).1 5 4)) 13 7 ((upI (upI w 13 0 (w.1 5 0)) 13 4 ((upI w 13 0 (w.1 5 0)).1 5 4)).1 5 7)).1 13 4 = w.1 5 4 := by rw [upI1, if_neg (by decide), upI1, if_pos ⟨rfl, rfl⟩, upI1, if_neg (fun z => absurd z.1 (by decide))]
  have b7 : (upI (upI (upI w 13 0 (w.1 5 0)) 13 4 ((upI w 13 0 (w.1 5 0)).1 5 4)) 13 7 ((upI (upI w 13 0 (w.1 5 0)) 13 4 ((upI w 13 0 (w.1 5 0)).1 5 4)).1 5 7)).1 13 7 = w.1 5 7 := by rw [upI1, if_pos ⟨rfl, rfl⟩, upI1, if_neg (fun z => absurd z.1 (by decide)), upI1, if_neg (fun z => absurd z.1 (by decide))]
  generalize upI (upI (upI w 13 0 (w.1 5 0)) 13 4 ((upI w 13 0 (w.1 5 0)).1 5 4)) 13 7 ((upI (upI w 13 0 (w.1 5 0)) 13 4 ((upI w 13 0 (w.1 5 0)).1 5 4)).1 5 7) = wa at o0 b0 b4 b7 ⊢
  rw [cpyL_N (w := wa) (c := 14) (f := wa.2 6) (by omega) (by omega) (by omega)]
  have o1 : Off (fun c => c = 14) wa (cpL wa 14 (wa.2 6) 0 0 8) := Off.cpL rfl
  have c14 : ∀ j, j < 8 → (cpL wa 14 (wa.2 6) 0 0 8).2 14 j = wa.2 6 j := fun j hj => by rw [cpL_2, pk_cpy_in (Nat.zero_le _) (by omega), show 0 + (j - 0) = j by omega]
  generalize cpL wa 14 (wa.2 6) 0 0 8 = wb at o1 c14 ⊢
  rw [cpy_N (w := wb) (c := 15) (f := wb.1 7) (by omega) (by omega) (by omega)]
  have o2 : Off (fun c => c = 15) wb (cpI wb 15 (wb.1 7) 0 0 8) := Off.cpI rfl
  have c15 : ∀ j, j < 8 → (cpI wb 15 (wb.1 7) 0 0 8).1 15 j = wb.1 7 j := fun j hj => by rw [cpI_c, pk_cpy_in (Nat.zero_le _) (by omega), show 0 + (j - 0) = j by omega]
  generalize cpI wb 15 (wb.1 7) 0 0 8 = wc at o2 c15 ⊢
  rw [cpy_N (w := wc) (c := 16) (f := wc.1 8) (by omega) (by omega) (by omega)]
  have o3 : Off (fun c => c = 16) wc (cpI wc 16 (wc.1 8) 0 0 32) := Off.cpI rfl
  have c16 : ∀ j, j < 32 → (cpI wc 16 (wc.1 8) 0 0 32).1 16 j = wc.1 8 j := fun j hj => by rw [cpI_c, pk_cpy_in (Nat.zero_le _) (by omega), show 0 + (j - 0) = j by omega]
  generalize cpI wc 16 (wc.1 8) 0 0 32 = wd at o3 c16 ⊢
  rw [cpy_N (w := wd) (c := 17) (f := wd.1 9) (by omega) (by omega) (by omega)]
  have o4 : Off (fun c => c = 17) wd (cpI wd 17 (wd.1 9) 0 0 60) := Off.cpI rfl
  have c17 : ∀ j, j < 60 → (cpI wd 17 (wd.1 9) 0 0 60).1 17 j = wd.1 9 j := fun j hj => by rw [cpI_c, pk_cpy_in (Nat.zero_le _) (by omega), show 0 + (j - 0) = j by omega]
  generalize cpI wd 17 (wd.1 9) 0 0 60 = we at o4 c17 ⊢
  rw [cpy_N (w := we) (c := 18) (f := we.1 10) (by omega) (by omega) (by omega)]
  have o5 : Off (fun c => c = 18) we (cpI we 18 (we.1 10) 0 0 3) := Off.cpI rfl
  have c18 : ∀ j, j < 3 → (cpI we 18 (we.1 10) 0 0 3).1 18 j = we.1 10 j := fun j hj => by rw [cpI_c, pk_cpy_in (Nat.zero_le _) (by omega), show 0 + (j - 0) = j by omega]
  generalize cpI we 18 (we.1 10) 0 0 3 = wf at o5 c18 ⊢
  rw [cpy_N (w := wf) (c := 19) (f := wf.1 11) (by omega) (by omega) (by omega)]
  have o6 : Off (fun c => c = 19) wf (cpI wf 19 (wf.1 11) 0 0 5) := Off.cpI rfl
  have c19 : ∀ j, j < 5 → (cpI wf 19 (wf.1 11) 0 0 5).1 19 j = wf.1 11 j := fun j hj => by rw [cpI_c, pk_cpy_in (Nat.zero_le _) (by omega), show 0 + (j - 0) = j by omega]
  generalize cpI wf 19 (wf.1 11) 0 0 5 = wg at o6 c19 ⊢
  rw [cpy_N (w := wg) (c := 20) (f := wg.1 12) (by omega) (by omega) (by omega)]
  have o7 : Off (fun c => c = 20) wg (cpI wg 20 (wg.1 12) 0 0 5) := Off.cpI rfl
  have c20 : ∀ j, j < 5 → (cpI wg 20 (wg.1 12) 0 0 5).1 20 j = wg.1 12 j := fun j hj => by rw [cpI_c, pk_cpy_in (Nat.zero_le _) (by omega), show 0 + (j - 0) = j by omega]
  generalize cpI wg 20 (wg.1 12) 0 0 5 = wh at o7 c20 ⊢
  have oo : Off (fun c => 13 ≤ c ∧ c ≤ 20) w wh := (((((((o0.mono (fun c q => by omega)).tr (o1.mono (fun c q => by omega))).tr (o2.mono (fun c q => by omega))).tr (o3.mono (fun c q => by omega))).tr (o4.mono (fun c q => by omega))).tr (o5.mono (fun c q => by omega))).tr (o6.mono (fun c q => by omega))).tr (o7.mono (fun c q => by omega))
  have a13 : wh.1 13 = wa.1 13 := ((o7 13 (by decide)).1).trans (((o6 13 (by decide)).1).trans (((o5 13 (by decide)).1).trans (((o4 13 (by decide)).1).trans (((o3 13 (by decide)).1).trans (((o2 13 (by decide)).1).trans (o1 13 (by decide)).1)))))
  refine h wh oo (by rw [a13]; exact b0) (by rw [a13]; exact b4) (by rw [a13]; exact b7) (fun j hj => ⟨?_, ?_⟩) (fun j hj => ?_) (fun j hj => ?_) (fun j hj => ?_) (fun j hj => ⟨?_, ?_⟩)
  · rw [(o7 14 (by decide)).2, (o6 14 (by decide)).2, (o5 14 (by decide)).2, (o4 14 (by decide)).2, (o3 14 (by decide)).2, (o2 14 (by decide)).2, c14 j hj, (o0 6 (by decide)).2]
  · rw [(o7 15 (by decide)).1, (o6 15 (by decide)).1, (o5 15 (by decide)).1, (o4 15 (by decide)).1, (o3 15 (by decide)).1, c15 j hj, (o1 7 (by decide)).1, (o0 7 (by decide)).1]
  · rw [(o7 16 (by decide)).1, (o6 16 (by decide)).1, (o5 16 (by decide)).1, (o4 16 (by decide)).1, c16 j hj, (o2 8 (by decide)).1, (o1 8 (by decide)).1, (o0 8 (by decide)).1]
  · rw [(o7 17 (by decide)).1, (o6 17 (by decide)).1, (o5 17 (by decide)).1, c17 j hj, (o3 9 (by decide)).1, (o2 9 (by decide)).1, (o1 9 (by decide)).1, (o0 9 (by decide)).1]
  · rw [(o7 18 (by decide)).1, (o6 18 (by decide)).1, c18 j hj, (o4 10 (by decide)).1, (o3 10 (by decide)).1, (o2 10 (by decide)).1, (o1 10 (by decide)).1, (o0 10 (by decide)).1]
  · rw [(o7 19 (by decide)).1, c19 j hj, (o5 11 (by decide)).1, (o4 11 (by decide)).1, (o3 11 (by decide)).1, (o2 11 (by decide)).1, (o1 11 (by decide)).1, (o0 11 (by decide)).1]
  · rw [c20 j hj, (o6 12 (by decide)).1, (o5 12 (by decide)).1, (o4 12 (by decide)).1, (o3 12 (by decide)).1, (o2 12 (by decide)).1, (o1 12 (by decide)).1, (o0 12 (by decide)).1]
theorem WFr_lo {r D r1 : Nat → Nat} (hW : WFr r) (hD : WFr D) (lo : ∀ j, j < 256 → r1 j = D j) (hi : ∀ j, 256 ≤ j → r1 j = r j) : WFr r1 := by
  obtain ⟨a, b, c, d, f, k, l, m, n, o⟩ := hD
  refine ⟨fun j => ?_, ?_, ?_, ?_, ?_, ?_, fun u hu => ?_, fun g hg => ?_, fun j hj => ?_, fun i hi => ?_⟩
  · by_cases q : j < 256
    · rw [lo j q]; exact a j
    · rw [hi j (by omega)]; exact hW.1 j
  · rw [lo _ (by omega)]; exact b
  · rw [lo _ (by omega)]; exact c
  · rw [lo _ (by omega)]; exact d
  · rw [lo _ (by omega)]; exact f
  · rw [lo _ (by omega)]; exact k
  · rw [lo _ (by omega), lo _ (by omega), lo _ (by omega), lo _ (by omega), lo _ (by omega)]; exact l u hu
  · rw [lo _ (by omega), lo _ (by omega), lo _ (by omega), lo _ (by omega)]; exact m g hg
  · rw [lo _ (by omega), lo _ (by omega)]; exact n j hj
  · rw [lo _ (by omega), lo _ (by omega)]; exact o i hi
theorem wd_bd {D : Nat → Nat} (h : WDp D) (a : Nat) (ha : a < 20) : D (106 + a) = 0 := by
  have := h.1 (106 + a)
  rw [bd_106 (by omega) (by omega)] at this
  omega
theorem l_text (h : LR w) {x1 : Int32} : fX10_text [.ref 0, .int x1] w (fun v w1 => fX11_text [.ref 41, .int x1] w1 (fun u w2 => LK v u w2)) := by
  have hL0 := h
  obtain ⟨T, L, r, nm0, hR, hc, hg, hb, hn0, ht⟩ := h
  have hRR := hR
  obtain ⟨hRA, N, A, H, h3, h4, hw, hm, hv⟩ := hR
  obtain ⟨hM, hC, hP, hW, hV, h6, h7, h8⟩ := hRA
  refine tX10_text_0 ?_
  rw [hc.1]
  refine ⟨fun z => ?_, fun z => ?_⟩
  · have z1 := z
    obtain ⟨n, -, hn, rfl⟩ := (rng2 (by omega) (by have := hb.2; omega)).mp z
    have hL8 := hb.2
    -- the reference, behind what the class did
    have G : ∀ (wc : Wd) (K : Kt), TPg wc T L → el (parseP T n) (KFg (upI (upI (rfs wc (nI 0)) 41 5 (nI 0)) 41 2 (nI 0)) (fun v w1 => RR (tl K lX11_text) 37 [.ref 41, .int (nI n)] (psh v []) w1)) (fun x => ∀ w1, KG (upI (upI (rfs wc (nI 0)) 41 5 (nI 0)) 41 2 (nI 0)) w1 → D44 w1 x.1 → N46 w1 x.1 x.2 → RR (tl K lX11_text) 37 [.ref 41, .int (nI n)] [.int (nI 1)] w1) → fX11_text [.ref 41, .int (nI n)] wc K := by
      intro wc K gc hp
      have e : un2 (nI 1) (bI (nI 0 ≤ nI n ∧ nI n ≤ wc.1 41 5)) = nI 0 := by rw [gc.1, bI_t z1, un2_11]
      refine tX11_text_0 ⟨fun _ => ?_, fun q => absurd e q⟩
      rw [e]
      refine g_readAll hb.1 ?_ (by omega) hp
      intro j hj
      have o : Off (fun c => c = 41) wc (upI (upI (rfs wc (nI 0)) 41 5 (nI 0)) 41 2 (nI 0)) := ((((Off.up (S := fun c => c = 41) rfl).tr (Off.up rfl)).tr (Off.up rfl)).tr (Off.up rfl)).tr (Off.up rfl)
      rw [(o 42 (by decide)).1]; exact gc.2 j hj
    have pre : ∀ wc : Wd, Off (fun c => c = 41) wc (upI (upI (rfs wc (nI 0)) 41 5 (nI 0)) 41 2 (nI 0)) ∧ (∀ j, 6 ≤ j → (upI (upI (rfs wc (nI 0)) 41 5 (nI 0)) 41 2 (nI 0)).1 41 j = wc.1 41 j) ∧ (upI (upI (rfs wc (nI 0)) 41 5 (nI 0)) 41 2 (nI 0)).1 41 1 = nI 0 ∧ (upI (upI (rfs wc (nI 0)) 41 5 (nI 0)) 41 2 (nI 0)).1 41 2 = nI 0 ∧ (upI (upI (rfs wc (nI 0)) 41 5 (nI 0)) 41 2 (nI 0)).1 41 3 = -1 ∧ (upI (upI (rfs wc (nI 0)) 41 5 (nI 0)) 41 2 (nI 0)).1 41 5 = nI 0 := fun wc => by
      refine ⟨((((Off.up (S := fun c => c = 41) rfl).tr (Off.up rfl)).tr (Off.up rfl)).tr (Off.up rfl)).tr (Off.up rfl), fun j hj => ?_, ?_, ?_, ?_, ?_⟩
      · unfold rfs
        rw [upI1, if_neg (by omega), upI1, if_neg (by omega), upI1, if_neg (by omega), upI1, if_neg (by omega), upI1, if_neg (by omega)]
      · unfold rfs
        rw [upI1, if_neg (by decide), upI1, if_neg (by decide), upI1, if_pos ⟨rfl, rfl⟩]
      · rw [upI1, if_pos ⟨rfl, rfl⟩]
      · unfold rfs
        rw [upI1, if_neg (by decide), upI1, if_neg (by decide), upI1, if_neg (by decide), upI1, if_pos ⟨rfl, rfl⟩]
      · rw [upI1, if_neg (by decide), upI1, if_pos ⟨rfl, rfl⟩]
    refine c_read hb.1 hc.2 hc.1 hL8 hn ?_
    cases hpr : parseP T n with
    | inl e =>
      obtain ⟨f, s⟩ := e
      intro w1 o1 a33 a34
      refine tX10_text_29 ⟨fun y => absurd rfl y, fun _ => ?_⟩
      -- what the class leaves
      have b33 : (upI w1 1 1 (nI 0)).1 3 3 = nI f := by rw [upI1, if_neg (fun z => absurd z.1 (by decide))]; exact a33
      rw [b33]
      have b34 : (upI (upI (upI (upI w1 1 1 (nI 0)) 0 11 (nI f)) 0 10 (nI 4)) 0 12 (-1)).1 3 4 = nI s := by
        rw [upI1, if_neg (fun z => absurd z.1 (by decide)), upI1, if_neg (fun z => absurd z.1 (by decide)), upI1, if_neg (fun z => absurd z.1 (by decide)), upI1, if_neg (fun z => absurd z.1 (by decide))]; exact a34
      rw [b34]
      have u0 : ∀ (a : Wd) (j : Nat) (v : Int32), Off (fun c => c = 0 ∨ SRd c) a (upI a 0 j v) := fun a j v => Off.up (Or.inl rfl)
      have oc : Off (fun c => c = 0 ∨ SRd c) w (upI (upI (upI (upI (upI w1 1 1 (nI 0)) 0 11 (nI f)) 0 10 (nI 4)) 0 12 (-1)) 0 12 (nI s)) := (((((o1.mono (fun c q => Or.inr q)).tr (Off.up (Or.inr (Or.inl rfl)))).tr (u0 _ _ _)).tr (u0 _ _ _)).tr (u0 _ _ _)).tr (u0 _ _ _)
      have c10 : (upI (upI (upI (upI (upI w1 1 1 (nI 0)) 0 11 (nI f)) 0 10 (nI 4)) 0 12 (-1)) 0 12 (nI s)).1 0 10 = nI 4 := by rw [upI1, if_neg (by decide), upI1, if_neg (by decide), upI1, if_pos ⟨rfl, rfl⟩]
      have c11 : (upI (upI (upI (upI (upI w1 1 1 (nI 0)) 0 11 (nI f)) 0 10 (nI 4)) 0 12 (-1)) 0 12 (nI s)).1 0 11 = nI f := by rw [upI1, if_neg (by decide), upI1, if_neg (by decide), upI1, if_neg (by decide), upI1, if_pos ⟨rfl, rfl⟩]
      have c12 : (upI (upI (upI (upI (upI w1 1 1 (nI 0)) 0 11 (nI f)) 0 10 (nI 4)) 0 12 (-1)) 0 12 (nI s)).1 0 12 = nI s := by rw [upI1, if_pos ⟨rfl, rfl⟩]
      have c01 : (upI (upI (upI (upI (upI w1 1 1 (nI 0)) 0 11 (nI f)) 0 10 (nI 4)) 0 12 (-1)) 0 12 (nI s)).1 1 1 = nI 0 := by rw [upI1, if_neg (fun z => absurd z.1 (by decide)), upI1, if_neg (fun z => absurd z.1 (by decide)), upI1, if_neg (fun z => absurd z.1 (by decide)), upI1, if_neg (fun z => absurd z.1 (by decide)), upI1, if_pos ⟨rfl, rfl⟩]
      generalize upI (upI (upI (upI (upI w1 1 1 (nI 0)) 0 11 (nI f)) 0 10 (nI 4)) 0 12 (-1)) 0 12 (nI s) = wc at oc c10 c11 c12 c01 ⊢
      have e41 : wc.1 41 = w.1 41 := (oc 41 (by unfold SRd; omega)).1
      have gc : TPg wc T L := hg.off oc (by rw [e41]) (by unfold SRd; omega)
      refine G wc _ gc ?_
      rw [hpr]
      intro w2 k2 e17 e18
      obtain ⟨po, p6, -, -, -, p5⟩ := pre wc
      generalize upI (upI (rfs wc (nI 0)) 41 5 (nI 0)) 41 2 (nI 0) = wp at k2 po p6 p5
      refine tX11_text_37 ⟨fun y => absurd rfl y, fun _ => ?_⟩
      rw [e17]
      have f18 : (upI w2 41 2 (nI f)).1 41 18 = nI s := by rw [upI1, if_neg (by decide)]; exact e18
      rw [f18]
      have o3 : Off (fun c => c = 41) w2 (upI (upI (upI w2 41 2 (nI f)) 41 3 (nI s)) 41 1 (nI 4)) := ((Off.up (S := fun c => c = 41) rfl).tr (Off.up rfl)).tr (Off.up rfl)
      have k3 : ∀ j, 4 ≤ j → (upI (upI (upI w2 41 2 (nI f)) 41 3 (nI s)) 41 1 (nI 4)).1 41 j = w2.1 41 j := fun j hj => by rw [upI1, if_neg (by omega), upI1, if_neg (by omega), upI1, if_neg (by omega)]
      have x1 : (upI (upI (upI w2 41 2 (nI f)) 41 3 (nI s)) 41 1 (nI 4)).1 41 1 = nI 4 := by rw [upI1, if_pos ⟨rfl, rfl⟩]
      have x2 : (upI (upI (upI w2 41 2 (nI f)) 41 3 (nI s)) 41 1 (nI 4)).1 41 2 = nI f := by rw [upI1, if_neg (by decide), upI1, if_neg (by decide), upI1, if_pos ⟨rfl, rfl⟩]
      have x3 : (upI (upI (upI w2 41 2 (nI f)) 41 3 (nI s)) 41 1 (nI 4)).1 41 3 = nI s := by rw [upI1, if_neg (by decide), upI1, if_pos ⟨rfl, rfl⟩]
      generalize upI (upI (upI w2 41 2 (nI f)) 41 3 (nI s)) 41 1 (nI 4) = wz at o3 k3 x1 x2 x3 ⊢
      have oz : Off (fun c => c = 41 ∨ c = 44 ∨ c = 46) wc wz := ((po.mono (fun c q => Or.inl q)).tr (k2.1.mono (fun c q => q))).tr (o3.mono (fun c q => Or.inl q))
      have ow : Off (fun c => c = 0 ∨ c = 1 ∨ (3 ≤ c ∧ c ≤ 12) ∨ c = 41 ∨ c = 44 ∨ c = 46) w wz := (oc.mono (fun c q => by unfold SRd at q; omega)).tr (oz.mono (fun c q => by omega))
      have z41 : ∀ j, 6 ≤ j → (j < 11 ∨ 19 ≤ j) → wz.1 41 j = w.1 41 j := fun j hj hj2 => by rw [k3 j (by omega), k2.2 j (by omega), p6 j hj, e41]
      have z0 : wz.1 0 = wc.1 0 := (oz 0 (by omega)).1
      refine ⟨rfl, ⟨_, rfl⟩, T, 0, r, nm0, RH_fr hRR ow (fun c q => by omega) (z41 6 (by omega) (by omega)) (z41 24 (by omega) (by omega)), ⟨?_, fun j hj => ?_⟩, ⟨?_, fun j hj => ?_⟩, ⟨hb.1, Nat.zero_le _⟩, hn0.off ow (by omega) (by omega) rfl, ?_, ?_, ?_⟩
      · rw [(oz 1 (by omega)).1]; exact c01
      · rw [(ow 2 (by omega)).1]; exact hc.2 j hj
      · rw [k3 5 (by omega), k2.2 5 (by omega)]; exact p5
      · rw [(ow 42 (by omega)).1]; exact hg.2 j hj
      · rw [z0, c10, x1]
      · rw [z0, c11, x2]
      · rw [z0, c12, x1, if_pos rfl, x3]
    | inr x =>
      obtain ⟨D, nm⟩ := x
      intro w1 o1 dr wd hO d0 d1 a33
      obtain ⟨B, dr⟩ := dr
      have wd : WDp D := wd
      have d0 : 0 < D 0 := d0
      have d1 : 0 < D 1 := d1
      have hWD := WFr_bd wd.1
      have hVD := VP_D wd
      have l0 : D 0 ≤ 8 := wd.1 0
      have l1 : D 1 ≤ 20 := wd.1 1
      have l2 : D 2 ≤ 5 := wd.1 2
      refine tX10_text_29 ⟨fun _ => ?_, fun y => absurd y (by decide)⟩
      have b33 : (upI w1 1 1 (nI 0)).1 3 3 = nI 0 := by rw [upI1, if_neg (fun z => absurd z.1 (by decide))]; exact a33
      rw [b33]
      have ob : Off (fun c => c = 0 ∨ c = 1) w1 (upI (upI w1 1 1 (nI 0)) 0 11 (nI 0)) := (Off.up (S := fun c => c = 0 ∨ c = 1) (Or.inr rfl)).tr (Off.up (Or.inl rfl))
      have c11 : (upI (upI w1 1 1 (nI 0)) 0 11 (nI 0)).1 0 11 = nI 0 := by rw [upI1, if_pos ⟨rfl, rfl⟩]
      have c01 : (upI (upI w1 1 1 (nI 0)) 0 11 (nI 0)).1 1 1 = nI 0 := by rw [upI1, if_neg (fun z => absurd z.1 (by decide)), upI1, if_pos ⟨rfl, rfl⟩]
      generalize upI (upI w1 1 1 (nI 0)) 0 11 (nI 0) = wb at ob c11 c01 ⊢
      have drb : DRt wb D nm B := dr.off ob (fun c a b q => by omega)
      obtain ⟨⟨e0, e4, e7⟩, da, dg, db, dr5⟩ := drb
      have oWB : Off (fun c => c = 0 ∨ SRd c) w wb := (o1.mono (fun c q => Or.inr q)).tr (ob.mono (fun c q => by unfold SRd; omega))
      refine c_copyFrom (fun wc oc f0 f4 f7 f14 f16 f17 f18 f19 => tX10_text_86 ?_)
      obtain ⟨r1, er1⟩ : ∃ r1 : Nat → Nat, r1 = fun j => if j < 256 then D j else r j := ⟨_, rfl⟩
      have lo : ∀ j, j < 256 → r1 j = D j := fun j hj => by rw [er1]; exact if_pos hj
      have hi : ∀ j, 256 ≤ j → r1 j = r j := fun j hj => by rw [er1]; exact if_neg (by omega)
      have hW1 := WFr_lo hW hWD lo hi
      have hV1 : VP r1 := VP_same hWD hVD (fun j hj => lo j (by omega)) (fun t ht => by rw [lo _ (by omega)]; exact hVD.2.2.2.2.2.1 t ht)
      have hCc : CT wc r1 := by
        refine ⟨?_, ?_, ?_, fun t ht => ?_, fun g hg => ?_, ?_, fun i hi => ?_⟩
        · rw [f0, e0, lo 0 (by omega)]
        · rw [f4, e4, lo 1 (by omega)]
        · rw [f7, e7, lo 2 (by omega)]
        · rw [lo 0 (by omega)] at ht
          have a := da t ht
          rw [(f14 t (by omega)).2, f16 _ (by omega), f16 _ (by omega), f16 _ (by omega), f16 _ (by omega), lo _ (by omega), lo _ (by omega), lo _ (by omega), lo _ (by omega), lo _ (by omega)]
          exact ⟨a.2.1, a.2.2 0 (by omega), a.2.2 1 (by omega), a.2.2 2 (by omega), a.2.2 3 (by omega)⟩
        · rw [lo 1 (by omega)] at hg
          rw [f17 _ (by omega), f17 _ (by omega), f17 _ (by omega), lo _ (by omega), lo _ (by omega), lo _ (by omega)]
          exact dg g hg
        · rw [f18 0 (by omega), f18 1 (by omega), f18 2 (by omega), lo 3 (by omega), lo 4 (by omega), lo 5 (by omega)]
          exact ⟨(db 0 (by omega)).1, (db 1 (by omega)).1, (db 2 (by omega)).1⟩
        · rw [lo 2 (by omega)] at hi
          rw [(f19 i (by omega)).1, (f19 i (by omega)).2, lo _ (by omega), lo _ (by omega)]
          exact dr5 i hi
      have oC : Off (fun c => c = 0 ∨ SRd c ∨ (13 ≤ c ∧ c ≤ 20)) w wc := (oWB.mono (fun c q => q.elim Or.inl (fun y => Or.inr (Or.inl y)))).tr (oc.mono (fun c q => Or.inr (Or.inr q)))
      have hPc : CP wc r := hP.off oC (fun c a b q => by unfold SRd at q; omega)
      refine d_empty hPc hW (fun g i j hg hij hj => hV.2.2.2.1 g i j hg hij hj) (fun wv od hPd => tX10_text_93 ?_)
      have hPd : CP wv r1 := CP_ext hW1 hPd (fun a ha => by
        have z1 : emR r 20 (106 + a) = 0 := if_pos (by omega)
        have z2 : D (106 + a) = 0 := by have := wd_bd wd a ha; exact this
        rw [z1, lo _ (by omega), z2]) (fun a j ha hj => by
        have z1 : emR r 20 (106 + a) = 0 := if_pos (by omega)
        omega)
      have hCd : CT wv r1 := hCc.off od (fun c a b q => by unfold SP at q; omega)
      have g13 : (upI wv 39 4 (nI 0)).1 13 4 = nI (D 1) := by rw [upI1, if_neg (fun z => absurd z.1 (by decide)), hCd.2.1, lo 1 (by omega)]
      rw [g13]
      have oD : Off (fun c => c = 0 ∨ SRd c ∨ (13 ≤ c ∧ c ≤ 25)) w wv := (oC.mono (fun c q => by unfold SRd at q ⊢; omega)).tr (od.mono (fun c q => by unfold SP at q; unfold SRd; omega))
      have ov : Off (fun c => c = 0 ∨ c = 39) wv (upI (upI (upI wv 39 4 (nI 0)) 0 10 (nI 0)) 0 12 (-1)) := ((Off.up (S := fun c => c = 0 ∨ c = 39) (Or.inr rfl)).tr (Off.up (Or.inl rfl))).tr (Off.up (Or.inl rfl))
      have q10 : (upI (upI (upI wv 39 4 (nI 0)) 0 10 (nI 0)) 0 12 (-1)).1 0 10 = nI 0 := by rw [upI1, if_neg (by decide), upI1, if_pos ⟨rfl, rfl⟩]
      have q11 : (upI (upI (upI wv 39 4 (nI 0)) 0 10 (nI 0)) 0 12 (-1)).1 0 11 = nI 0 := by
        rw [upI1, if_neg (by decide), upI1, if_neg (by decide), upI1, if_neg (fun z => absurd z.1 (by decide)), (od 0 (by unfold SP; omega)).1, (oc 0 (by omega)).1]; exact c11
      have q12 : (upI (upI (upI wv 39 4 (nI 0)) 0 10 (nI 0)) 0 12 (-1)).1 0 12 = -1 := by rw [upI1, if_pos ⟨rfl, rfl⟩]
      have q394 : (upI (upI (upI wv 39 4 (nI 0)) 0 10 (nI 0)) 0 12 (-1)).1 39 4 = nI 0 := by rw [upI1, if_neg (fun z => absurd z.1 (by decide)), upI1, if_neg (fun z => absurd z.1 (by decide)), upI1, if_pos ⟨rfl, rfl⟩]
      have q393 : (upI (upI (upI wv 39 4 (nI 0)) 0 10 (nI 0)) 0 12 (-1)).1 39 3 = nI N := by rw [upI1, if_neg (fun z => absurd z.1 (by decide)), upI1, if_neg (fun z => absurd z.1 (by decide)), upI1, if_neg (by decide), (oD 39 (by unfold SRd; omega)).1]; exact h3
      generalize upI (upI (upI wv 39 4 (nI 0)) 0 10 (nI 0)) 0 12 (-1) = wq at ov q10 q11 q12 q394 q393 ⊢
      have oQ : Off (fun c => c = 0 ∨ SRd c ∨ (13 ≤ c ∧ c ≤ 25) ∨ c = 39) w wq := (oD.mono (fun c q => by unfold SRd at q ⊢; omega)).tr (ov.mono (fun c q => by unfold SRd; omega))
      have e41 : wq.1 41 = w.1 41 := (oQ 41 (by unfold SRd; omega)).1
      have gc : TPg wq T L := hg.off oQ (by rw [e41]) (by unfold SRd; omega)
      have hMq : RM wq r := hM.off oQ (by unfold SRd; omega)
      refine G wq _ gc ?_
      rw [hpr]
      intro w2 k2 e44 e46
      have e44 : D44 w2 D := e44
      have e46 : N46 w2 D nm := e46
      obtain ⟨po, p6, p1, p2, p3, p5⟩ := pre wq
      generalize upI (upI (rfs wq (nI 0)) 41 5 (nI 0)) 41 2 (nI 0) = wp at k2 po p6 p1 p2 p3 p5
      refine tX11_text_37 ⟨fun _ => ?_, fun y => absurd y (by decide)⟩
      have o3 : Off (fun c => c = 41) w2 (upI (upI w2 41 6 (nI 1)) 41 24 (nI 0)) := (Off.up (S := fun c => c = 41) rfl).tr (Off.up rfl)
      have x6 : (upI (upI w2 41 6 (nI 1)) 41 24 (nI 0)).1 41 6 = nI 1 := by rw [upI1, if_neg (by decide), upI1, if_pos ⟨rfl, rfl⟩]
      have x24 : (upI (upI w2 41 6 (nI 1)) 41 24 (nI 0)).1 41 24 = nI 0 := by rw [upI1, if_pos ⟨rfl, rfl⟩]
      have xk : ∀ j, j ≠ 6 → j ≠ 24 → (upI (upI w2 41 6 (nI 1)) 41 24 (nI 0)).1 41 j = w2.1 41 j := fun j a b => by rw [upI1, if_neg (fun z => b z.2), upI1, if_neg (fun z => a z.2)]
      generalize upI (upI w2 41 6 (nI 1)) 41 24 (nI 0) = w3 at o3 x6 x24 xk ⊢
      refine g_lays_r (by omega) (by omega) (fun w4 o4 hj4 => tX11_text_88 (g_lays_n (by omega) (by omega) (fun w5 o5 hj5 => tX11_text_103 ?_)))
      have oz : Off (fun c => c = 41 ∨ (43 ≤ c ∧ c ≤ 46)) wq w5 := ((((po.mono (fun c q => Or.inl q)).tr (k2.1.mono (fun c q => by unfold SRg at q; omega))).tr (o3.mono (fun c q => Or.inl q))).tr (o4.mono (fun c q => by omega))).tr (o5.mono (fun c q => by omega))
      have hM5 : RM w5 r1 := fun i => by
        rw [(o5 43 (by decide)).1, hj4 i]
        by_cases q : i < 256
        · rw [if_pos (by omega), show 0 + (i - 0) = i by omega, (o3 44 (by decide)).1, lo i q]; exact e44 i q
        · rw [if_neg (by omega), (o3 43 (by decide)).1, (k2.1 43 (by unfold SRg; omega)).1, (po 43 (by decide)).1, hi i (by omega)]; exact hMq i
      rw [rdM hM5 (by omega), lo 1 (by omega)]
      have e5 : w5.1 41 = w3.1 41 := ((o5 41 (by decide)).1).trans (o4 41 (by decide)).1
      have z0 : w5.1 0 = wq.1 0 := (oz 0 (by omega)).1
      have z39 : w5.1 39 = wq.1 39 := (oz 39 (by omega)).1
      have y41 : ∀ j, j ≠ 6 → j ≠ 24 → (j < 11 ∨ 19 ≤ j) → w5.1 41 j = wp.1 41 j := fun j a b c => by rw [e5, xk j a b, k2.2 j c]
      have ovz : Off (fun c => c = 0 ∨ c = 39 ∨ c = 41 ∨ (43 ≤ c ∧ c ≤ 46)) wv w5 := (ov.mono (fun c q => by omega)).tr (oz.mono (fun c q => by omega))
      refine ⟨rfl, ⟨_, rfl⟩, T, 0, r1, nm, ⟨⟨hM5, hCd.off ovz (fun c a b q => by omega), hPd.off ovz (fun c a b q => by omega), hW1, hV1, ?_, ?_, ?_⟩, N, 0, H, ?_, ?_, ⟨?_, by omega, fun i j hi2 _ => by omega⟩, ⟨hm.1, by omega, fun i hi2 => by omega⟩, fun i hi2 => by omega⟩, ⟨?_, fun j hj => ?_⟩, ⟨?_, fun j hj => ?_⟩, ⟨hb.1, Nat.zero_le _⟩, fun k hk => ?_, ?_, ?_, ?_⟩
      · rw [e5, x6, bI_t (by rw [lo 1 (by omega)]; exact d1)]
      · intro q
        rw [lo 1 (by omega)] at q; omega
      · rw [z39, q394, e5, x24]
      · rw [z39]; exact q393
      · rw [z39]; exact q394
      · rw [e5]; exact x24
      · rw [(oz 1 (by omega)).1, (ov 1 (by omega)).1, (od 1 (by unfold SP; omega)).1, (oc 1 (by omega)).1]; exact c01
      · rw [(oz 2 (by omega)).1, (oQ 2 (by unfold SRd; omega)).1]; exact hc.2 j hj
      · rw [y41 5 (by decide) (by decide) (by omega)]; exact p5
      · rw [(oz 42 (by omega)).1, (oQ 42 (by unfold SRd; omega)).1]; exact hg.2 j hj
      · rw [lo 0 (by omega)] at hk
        refine ⟨?_, hO k hk, fun j hj => ?_⟩
        · rw [(oz 14 (by omega)).2, (ov 14 (by omega)).2, (od 14 (by unfold SP; omega)).2, (f14 k (by omega)).1]; exact (da k hk).1
        · rw [hj5, if_pos (by omega), show 0 + (7 * k + j - 0) = 7 * k + j by omega, (o4 46 (by decide)).1, (o3 46 (by decide)).1]; exact e46 k hk j hj
      · rw [z0, q10, y41 1 (by decide) (by decide) (by omega), p1]
      · rw [z0, q11, y41 2 (by decide) (by decide) (by omega), p2]
      · rw [z0, q12, y41 1 (by decide) (by decide) (by omega), p1, if_neg (by decide)]
  · have hc2 : CF w (upI (upI w 0 10 (nI 2)) 0 12 (-1)) (nI 2) := CF_r
    have e41 : (upI (upI w 0 10 (nI 2)) 0 12 (-1)).1 41 5 = nI L := by rw [tx_cf hc2]; exact hg.1
    have e : un2 (nI 1) (bI (nI 0 ≤ x1 ∧ x1 ≤ (upI (upI w 0 10 (nI 2)) 0 12 (-1)).1 41 5)) = nI 2 := by rw [e41, bI_f z, un2_10]
    refine tX11_text_0 ⟨fun q => absurd q (by rw [e]; decide), fun _ => ?_⟩
    rw [e]
    exact LK_Q hL0 (fin hc2 GF_r)
end TEXT
