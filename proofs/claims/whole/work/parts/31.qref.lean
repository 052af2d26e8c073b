section QREF
variable {w : Wd} {r : Nat → Nat} {K : Kt}
theorem n_arm (hM : RM w r) (hW : WFr r) (h6 : w.1 41 6 = bI (0 < r 1)) {x1 x2 : Int32} (hn : ¬ ((nI 0 ≤ x1 ∧ x1 ≤ nI (r 0) - nI 1) ∧ (nI 0 ≤ x2 ∧ x2 ≤ nI 7))) (h : K (some (.int (-1))) (rfs w (nI 1))) : fX11_arm [.ref 41, .int x1, .int x2] w K := by
  have h0 := hW.2.1
  have h1 := hW.2.2.1
  have Z : RR (tl K lX11_arm) 24 [.ref 41, .int x1, .int x2] [.int (nI 0), .ref 41] w := tX11_arm_24 ⟨fun q => absurd (un_0 ▸ q) (by decide), fun _ => by rw [un_0]; exact h⟩
  exact tX11_arm_0 ⟨fun _ => tX11_arm_23 Z, fun a => ⟨fun _ => tX11_arm_23 Z, fun b => absurd (show (nI 0 ≤ x1 ∧ x1 ≤ nI (r 0) - nI 1) ∧ (nI 0 ≤ x2 ∧ x2 ≤ nI 7) from ⟨by rw [rdM hM (by omega)] at a; exact a, b⟩) hn⟩⟩
theorem y_arm (hM : RM w r) (hW : WFr r) (h6 : w.1 41 6 = bI (0 < r 1)) {x1 x2 : Int32} (hA : (nI 0 ≤ x1 ∧ x1 ≤ nI (r 0) - nI 1)) (hB : (nI 0 ≤ x2 ∧ x2 ≤ nI 7)) (h : ((nI 5) ≤ x2 → fX11_sumOf [.ref 41, .int x1, .int (x2 - (nI 5))] (rfs w (nI 0)) (fun v w1 => RR (tl K lX11_arm) 65 [.ref 41, .int x1, .int x2] (psh v []) w1)) ∧ (¬ ((nI 5) ≤ x2) → vp_in (((nI 6) + ((nI 8) * x2)) + x1) 256 ∧ K (some (.int (rd (rfs w (nI 0)) 43 (((nI 6) + ((nI 8) * x2)) + x1)))) (rfs w (nI 0)))) : fX11_arm [.ref 41, .int x1, .int x2] w K := by
  have h0 := hW.2.1
  have h1 := hW.2.2.1
  exact tX11_arm_0 ⟨fun q => absurd (by rw [rdM hM (by omega)]; exact hA) q, fun _ => ⟨fun q => absurd hB q, fun _ => tX11_arm_24 ⟨fun _ => by rw [un_1]; exact h, fun q => absurd un_1 q⟩⟩⟩
theorem n_game (hM : RM w r) (hW : WFr r) (h6 : w.1 41 6 = bI (0 < r 1)) {x1 x2 : Int32} (hn : ¬ ((nI 0 ≤ x1 ∧ x1 ≤ nI (r 1) - nI 1) ∧ (nI 0 ≤ x2 ∧ x2 ≤ nI 5))) (h : K (some (.int (-1))) (rfs w (nI 1))) : fX11_game [.ref 41, .int x1, .int x2] w K := by
  have h0 := hW.2.1
  have h1 := hW.2.2.1
  have Z : RR (tl K lX11_game) 23 [.ref 41, .int x1, .int x2] [.int (nI 0), .ref 41] w := tX11_game_23 ⟨fun q => absurd (un_0 ▸ q) (by decide), fun _ => by rw [un_0]; exact h⟩
  exact tX11_game_0 ⟨fun _ => tX11_game_22 Z, fun a => ⟨fun _ => tX11_game_22 Z, fun b => absurd (show (nI 0 ≤ x1 ∧ x1 ≤ nI (r 1) - nI 1) ∧ (nI 0 ≤ x2 ∧ x2 ≤ nI 5) from ⟨by rw [rdM hM (by omega)] at a; exact a, b⟩) hn⟩⟩
theorem y_game (hM : RM w r) (hW : WFr r) (h6 : w.1 41 6 = bI (0 < r 1)) {x1 x2 : Int32} (hA : (nI 0 ≤ x1 ∧ x1 ≤ nI (r 1) - nI 1)) (hB : (nI 0 ≤ x2 ∧ x2 ≤ nI 5)) (h : (Int32.toInt x2 < 0 ∨ 4 < Int32.toInt x2 → fX11_valueOf [.ref 41, .int x1] (rfs w (nI 0)) (fun v w1 => RR (tl K lX11_game) 119 [.ref 41, .int x1, .int x2] (psh v []) w1)) ∧ (Int32.toInt x2 = 0 → vp_in ((nI 46) + x1) 256 ∧ K (some (.int (rd (rfs w (nI 0)) 43 ((nI 46) + x1)))) (rfs w (nI 0))) ∧ (Int32.toInt x2 = 1 → vp_in ((nI 66) + x1) 256 ∧ K (some (.int (rd (rfs w (nI 0)) 43 ((nI 66) + x1)))) (rfs w (nI 0))) ∧ (Int32.toInt x2 = 2 → vp_in ((nI 86) + x1) 256 ∧ K (some (.int (rd (rfs w (nI 0)) 43 ((nI 86) + x1)))) (rfs w (nI 0))) ∧ (Int32.toInt x2 = 3 → vp_in ((nI 106) + x1) 256 ∧ K (some (.int (rd (rfs w (nI 0)) 43 ((nI 106) + x1)))) (rfs w (nI 0))) ∧ (Int32.toInt x2 = 4 → fX11_leftOf [.ref 41, .int x1] (rfs w (nI 0)) (fun v w1 => RR (tl K lX11_game) 113 [.ref 41, .int x1, .int x2] (psh v []) w1))) : fX11_game [.ref 41, .int x1, .int x2] w K := by
  have h0 := hW.2.1
  have h1 := hW.2.2.1
  exact tX11_game_0 ⟨fun q => absurd (by rw [rdM hM (by omega)]; exact hA) q, fun _ => ⟨fun q => absurd hB q, fun _ => tX11_game_23 ⟨fun _ => by rw [un_1]; exact h, fun q => absurd un_1 q⟩⟩⟩
theorem n_points (hM : RM w r) (hW : WFr r) (h6 : w.1 41 6 = bI (0 < r 1)) {x1 x2 : Int32} (hn : ¬ ((nI 0 ≤ x1 ∧ x1 ≤ nI (r 0) - nI 1) ∧ (nI 0 ≤ x2 ∧ x2 ≤ nI (r 1) - nI 1))) (h : K (some (.int (-1))) (rfs w (nI 1))) : fX11_points [.ref 41, .int x1, .int x2] w K := by
  have h0 := hW.2.1
  have h1 := hW.2.2.1
  have Z : RR (tl K lX11_points) 22 [.ref 41, .int x1, .int x2] [.int (nI 0), .ref 41] w := tX11_points_22 ⟨fun q => absurd (un_0 ▸ q) (by decide), fun _ => by rw [un_0]; exact h⟩
  exact tX11_points_0 ⟨fun _ => tX11_points_21 Z, fun a => ⟨fun _ => tX11_points_21 Z, fun b => absurd (show (nI 0 ≤ x1 ∧ x1 ≤ nI (r 0) - nI 1) ∧ (nI 0 ≤ x2 ∧ x2 ≤ nI (r 1) - nI 1) from ⟨by rw [rdM hM (by omega)] at a; exact a, by rw [rdM hM (by omega)] at b; exact b⟩) hn⟩⟩
theorem y_points (hM : RM w r) (hW : WFr r) (h6 : w.1 41 6 = bI (0 < r 1)) {x1 x2 : Int32} (hA : (nI 0 ≤ x1 ∧ x1 ≤ nI (r 0) - nI 1)) (hB : (nI 0 ≤ x2 ∧ x2 ≤ nI (r 1) - nI 1)) (h : fX11_pointsOf [.ref 41, .int x1, .int x2] (rfs w (nI 0)) (fun v w1 => RR (tl K lX11_points) 41 [.ref 41, .int x1, .int x2] (psh v []) w1)) : fX11_points [.ref 41, .int x1, .int x2] w K := by
  have h0 := hW.2.1
  have h1 := hW.2.2.1
  exact tX11_points_0 ⟨fun q => absurd (by rw [rdM hM (by omega)]; exact hA) q, fun _ => ⟨fun q => absurd (by rw [rdM hM (by omega)]; exact hB) q, fun _ => tX11_points_22 ⟨fun _ => by rw [un_1]; exact h, fun q => absurd un_1 q⟩⟩⟩
theorem n_worth (hM : RM w r) (hW : WFr r) (h6 : w.1 41 6 = bI (0 < r 1)) {x1 x2 x3 : Int32} (hn : ¬ ((nI 0 ≤ x1 ∧ x1 ≤ nI (r 0) - nI 1) ∧ (nI 0 ≤ x2 ∧ x2 ≤ nI (r 1) - nI 1))) (h : K (some (.int (-1))) (rfs w (nI 1))) : fX11_worth [.ref 41, .int x1, .int x2, .int x3] w K := by
  have h0 := hW.2.1
  have h1 := hW.2.2.1
  have Z : RR (tl K lX11_worth) 22 [.ref 41, .int x1, .int x2, .int x3] [.int (nI 0), .ref 41] w := tX11_worth_22 ⟨fun q => absurd q (by rw [un2_0]; decide), fun _ => by rw [un2_0]; exact h⟩
  exact tX11_worth_0 ⟨fun _ => tX11_worth_21 Z, fun a => ⟨fun _ => tX11_worth_21 Z, fun b => absurd (show (nI 0 ≤ x1 ∧ x1 ≤ nI (r 0) - nI 1) ∧ (nI 0 ≤ x2 ∧ x2 ≤ nI (r 1) - nI 1) from ⟨by rw [rdM hM (by omega)] at a; exact a, by rw [rdM hM (by omega)] at b; exact b⟩) hn⟩⟩
theorem m_worth (hM : RM w r) (hW : WFr r) (h6 : w.1 41 6 = bI (0 < r 1)) {x1 x2 x3 : Int32} (hA : (nI 0 ≤ x1 ∧ x1 ≤ nI (r 0) - nI 1)) (hB : (nI 0 ≤ x2 ∧ x2 ≤ nI (r 1) - nI 1)) (hC : ¬ (nI 0 ≤ x3 ∧ x3 ≤ nI 200)) (h : K (some (.int (-1))) (rfs w (nI 2))) : fX11_worth [.ref 41, .int x1, .int x2, .int x3] w K := by
  have h0 := hW.2.1
  have h1 := hW.2.2.1
  exact tX11_worth_0 ⟨fun q => absurd (by rw [rdM hM (by omega)]; exact hA) q, fun _ => ⟨fun q => absurd (by rw [rdM hM (by omega)]; exact hB) q, fun _ => tX11_worth_22 ⟨fun q => absurd q (by rw [bI_f hC, un2_10]; decide), fun _ => by rw [bI_f hC, un2_10]; exact h⟩⟩⟩
theorem y_worth (hM : RM w r) (hW : WFr r) (h6 : w.1 41 6 = bI (0 < r 1)) {x1 x2 x3 : Int32} (hA : (nI 0 ≤ x1 ∧ x1 ≤ nI (r 0) - nI 1)) (hB : (nI 0 ≤ x2 ∧ x2 ≤ nI (r 1) - nI 1)) (hC : (nI 0 ≤ x3 ∧ x3 ≤ nI 200)) (h : fX11_worthOf [.ref 41, .int x1, .int x2, .int x3] (rfs w (nI 0)) (fun v w1 => RR (tl K lX11_worth) 50 [.ref 41, .int x1, .int x2, .int x3] (psh v []) w1)) : fX11_worth [.ref 41, .int x1, .int x2, .int x3] w K := by
  have h0 := hW.2.1
  have h1 := hW.2.2.1
  exact tX11_worth_0 ⟨fun q => absurd (by rw [rdM hM (by omega)]; exact hA) q, fun _ => ⟨fun q => absurd (by rw [rdM hM (by omega)]; exact hB) q, fun _ => tX11_worth_22 ⟨fun _ => by rw [bI_t hC, un2_11]; exact h, fun q => absurd (by rw [bI_t hC, un2_11]; rfl) q⟩⟩⟩
theorem n_most (hM : RM w r) (hW : WFr r) (h6 : w.1 41 6 = bI (0 < r 1)) {x1 x2 : Int32} (hn : ¬ ((nI 0 ≤ x1 ∧ x1 ≤ nI (r 0) - nI 1) ∧ (nI 0 ≤ x2 ∧ x2 ≤ nI (r 1) - nI 1))) (h : K (some (.int (-1))) (rfs w (nI 1))) : fX11_most [.ref 41, .int x1, .int x2] w K := by
  have h0 := hW.2.1
  have h1 := hW.2.2.1
  have Z : RR (tl K lX11_most) 22 [.ref 41, .int x1, .int x2] [.int (nI 0), .ref 41] w := tX11_most_22 ⟨fun q => absurd (un_0 ▸ q) (by decide), fun _ => by rw [un_0]; exact h⟩
  exact tX11_most_0 ⟨fun _ => tX11_most_21 Z, fun a => ⟨fun _ => tX11_most_21 Z, fun b => absurd (show (nI 0 ≤ x1 ∧ x1 ≤ nI (r 0) - nI 1) ∧ (nI 0 ≤ x2 ∧ x2 ≤ nI (r 1) - nI 1) from ⟨by rw [rdM hM (by omega)] at a; exact a, by rw [rdM hM (by omega)] at b; exact b⟩) hn⟩⟩
theorem y_most (hM : RM w r) (hW : WFr r) (h6 : w.1 41 6 = bI (0 < r 1)) {x1 x2 : Int32} (hA : (nI 0 ≤ x1 ∧ x1 ≤ nI (r 0) - nI 1)) (hB : (nI 0 ≤ x2 ∧ x2 ≤ nI (r 1) - nI 1)) (h : fX11_mostOf [.ref 41, .int x1, .int x2] (rfs w (nI 0)) (fun v w1 => RR (tl K lX11_most) 41 [.ref 41, .int x1, .int x2] (psh v []) w1)) : fX11_most [.ref 41, .int x1, .int x2] w K := by
  have h0 := hW.2.1
  have h1 := hW.2.2.1
  exact tX11_most_0 ⟨fun q => absurd (by rw [rdM hM (by omega)]; exact hA) q, fun _ => ⟨fun q => absurd (by rw [rdM hM (by omega)]; exact hB) q, fun _ => tX11_most_22 ⟨fun _ => by rw [un_1]; exact h, fun q => absurd un_1 q⟩⟩⟩
theorem n_when (hM : RM w r) (hW : WFr r) (h6 : w.1 41 6 = bI (0 < r 1)) {x1 x2 x3 : Int32} (hn : ¬ ((nI 0 ≤ x1 ∧ x1 ≤ nI (r 0) - nI 1) ∧ (nI 0 ≤ x2 ∧ x2 ≤ nI (r 1) - nI 1))) (h : K (some (.int (-1))) (rfs w (nI 1))) : fX11_when [.ref 41, .int x1, .int x2, .int x3] w K := by
  have h0 := hW.2.1
  have h1 := hW.2.2.1
  have Z : RR (tl K lX11_when) 22 [.ref 41, .int x1, .int x2, .int x3, .null] [.int (nI 0), .ref 41] w := tX11_when_22 ⟨fun q => absurd q (by rw [un2_0]; decide), fun _ => by rw [un2_0]; exact h⟩
  exact tX11_when_0 ⟨fun _ => tX11_when_21 Z, fun a => ⟨fun _ => tX11_when_21 Z, fun b => absurd (show (nI 0 ≤ x1 ∧ x1 ≤ nI (r 0) - nI 1) ∧ (nI 0 ≤ x2 ∧ x2 ≤ nI (r 1) - nI 1) from ⟨by rw [rdM hM (by omega)] at a; exact a, by rw [rdM hM (by omega)] at b; exact b⟩) hn⟩⟩
theorem m_when (hM : RM w r) (hW : WFr r) (h6 : w.1 41 6 = bI (0 < r 1)) {x1 x2 x3 : Int32} (hA : (nI 0 ≤ x1 ∧ x1 ≤ nI (r 0) - nI 1)) (hB : (nI 0 ≤ x2 ∧ x2 ≤ nI (r 1) - nI 1)) (hC : ¬ (nI 1 ≤ x3 ∧ x3 ≤ nI 120)) (h : K (some (.int (-1))) (rfs w (nI 2))) : fX11_when [.ref 41, .int x1, .int x2, .int x3] w K := by
  have h0 := hW.2.1
  have h1 := hW.2.2.1
  exact tX11_when_0 ⟨fun q => absurd (by rw [rdM hM (by omega)]; exact hA) q, fun _ => ⟨fun q => absurd (by rw [rdM hM (by omega)]; exact hB) q, fun _ => tX11_when_22 ⟨fun q => absurd q (by rw [bI_f hC, un2_10]; decide), fun _ => by rw [bI_f hC, un2_10]; exact h⟩⟩⟩
theorem y_when (hM : RM w r) (hW : WFr r) (h6 : w.1 41 6 = bI (0 < r 1)) {x1 x2 x3 : Int32} (hA : (nI 0 ≤ x1 ∧ x1 ≤ nI (r 0) - nI 1)) (hB : (nI 0 ≤ x2 ∧ x2 ≤ nI (r 1) - nI 1)) (hC : (nI 1 ≤ x3 ∧ x3 ≤ nI 120)) (h : RR (tl K lX11_when) 43 [.ref 41, .int x1, .int x2, .int x3, .int x2] [] (rfs w (nI 0))) : fX11_when [.ref 41, .int x1, .int x2, .int x3] w K := by
  have h0 := hW.2.1
  have h1 := hW.2.2.1
  exact tX11_when_0 ⟨fun q => absurd (by rw [rdM hM (by omega)]; exact hA) q, fun _ => ⟨fun q => absurd (by rw [rdM hM (by omega)]; exact hB) q, fun _ => tX11_when_22 ⟨fun _ => by rw [bI_t hC, un2_11]; exact h, fun q => absurd (by rw [bI_t hC, un2_11]; rfl) q⟩⟩⟩
theorem n_ranked (hM : RM w r) (hW : WFr r) (h6 : w.1 41 6 = bI (0 < r 1)) {x1 x2 : Int32} (hn : ¬ ((nI 0 ≤ x1 ∧ x1 ≤ nI (r 1) - nI 1) ∧ (nI 0 ≤ x2 ∧ x2 ≤ nI (r 0) - nI 1))) (h : K (some (.int (-1))) (rfs w (nI 1))) : fX11_ranked [.ref 41, .int x1, .int x2] w K := by
  have h0 := hW.2.1
  have h1 := hW.2.2.1
  have Z : RR (tl K lX11_ranked) 30 [.ref 41, .int x1, .int x2, .null, .null, .null, .null, .null] [.int (nI 0), .ref 41] w := tX11_ranked_30 ⟨fun q => absurd (un_0 ▸ q) (by decide), fun _ => by rw [un_0]; exact h⟩
  exact tX11_ranked_0 ⟨fun _ => tX11_ranked_29 Z, fun a => ⟨fun _ => tX11_ranked_29 Z, fun b => absurd (show (nI 0 ≤ x1 ∧ x1 ≤ nI (r 1) - nI 1) ∧ (nI 0 ≤ x2 ∧ x2 ≤ nI (r 0) - nI 1) from ⟨by rw [rdM hM (by omega)] at a; exact a, by rw [rdM hM (by omega)] at b; exact b⟩) hn⟩⟩
theorem y_ranked (hM : RM w r) (hW : WFr r) (h6 : w.1 41 6 = bI (0 < r 1)) {x1 x2 : Int32} (hA : (nI 0 ≤ x1 ∧ x1 ≤ nI (r 1) - nI 1)) (hB : (nI 0 ≤ x2 ∧ x2 ≤ nI (r 0) - nI 1)) (h : RR (tl K lX11_ranked) 43 [.ref 41, .int x1, .int x2, .int (nI 0), .null, .null, .null, .null] [] (rfs w (nI 0))) : fX11_ranked [.ref 41, .int x1, .int x2] w K := by
  have h0 := hW.2.1
  have h1 := hW.2.2.1
  exact tX11_ranked_0 ⟨fun q => absurd (by rw [rdM hM (by omega)]; exact hA) q, fun _ => ⟨fun q => absurd (by rw [rdM hM (by omega)]; exact hB) q, fun _ => tX11_ranked_30 ⟨fun _ => by rw [un_1]; exact h, fun q => absurd un_1 q⟩⟩⟩
theorem n_clash (hM : RM w r) (hW : WFr r) (h6 : w.1 41 6 = bI (0 < r 1)) {x1 x2 x3 : Int32} (hn : ¬ ((nI 0 ≤ x1 ∧ x1 ≤ nI (r 0) - nI 1) ∧ (nI 0 ≤ x2 ∧ x2 ≤ nI (r 1) - nI 1))) (h : K (some (.int (-1))) (rfs w (nI 1))) : fX11_clash [.ref 41, .int x1, .int x2, .int x3] w K := by
  have h0 := hW.2.1
  have h1 := hW.2.2.1
  have Z : RR (tl K lX11_clash) 22 [.ref 41, .int x1, .int x2, .int x3, .null, .null, .null] [.int (nI 0), .ref 41] w := tX11_clash_22 ⟨fun q => absurd q (by rw [un2_0]; decide), fun _ => by rw [un2_0]; exact h⟩
  exact tX11_clash_0 ⟨fun _ => tX11_clash_21 Z, fun a => ⟨fun _ => tX11_clash_21 Z, fun b => absurd (show (nI 0 ≤ x1 ∧ x1 ≤ nI (r 0) - nI 1) ∧ (nI 0 ≤ x2 ∧ x2 ≤ nI (r 1) - nI 1) from ⟨by rw [rdM hM (by omega)] at a; exact a, by rw [rdM hM (by omega)] at b; exact b⟩) hn⟩⟩
theorem m_clash (hM : RM w r) (hW : WFr r) (h6 : w.1 41 6 = bI (0 < r 1)) {x1 x2 x3 : Int32} (hA : (nI 0 ≤ x1 ∧ x1 ≤ nI (r 0) - nI 1)) (hB : (nI 0 ≤ x2 ∧ x2 ≤ nI (r 1) - nI 1)) (hC : ¬ (nI 1 ≤ x3 ∧ x3 ≤ nI 120)) (h : K (some (.int (-1))) (rfs w (nI 2))) : fX11_clash [.ref 41, .int x1, .int x2, .int x3] w K := by
  have h0 := hW.2.1
  have h1 := hW.2.2.1
  exact tX11_clash_0 ⟨fun q => absurd (by rw [rdM hM (by omega)]; exact hA) q, fun _ => ⟨fun q => absurd (by rw [rdM hM (by omega)]; exact hB) q, fun _ => tX11_clash_22 ⟨fun q => absurd q (by rw [bI_f hC, un2_10]; decide), fun _ => by rw [bI_f hC, un2_10]; exact h⟩⟩⟩
theorem y_clash (hM : RM w r) (hW : WFr r) (h6 : w.1 41 6 = bI (0 < r 1)) {x1 x2 x3 : Int32} (hA : (nI 0 ≤ x1 ∧ x1 ≤ nI (r 0) - nI 1)) (hB : (nI 0 ≤ x2 ∧ x2 ≤ nI (r 1) - nI 1)) (hC : (nI 1 ≤ x3 ∧ x3 ≤ nI 120)) (h : fX11_laysDays [.ref 41, .int x1, .int x2, .int (nI 1)] (rfs w (nI 0)) (fun v w1 => RR (tl K lX11_clash) 47 [.ref 41, .int x1, .int x2, .int x3, .null, .null, .null] (psh v []) w1)) : fX11_clash [.ref 41, .int x1, .int x2, .int x3] w K := by
  have h0 := hW.2.1
  have h1 := hW.2.2.1
  exact tX11_clash_0 ⟨fun q => absurd (by rw [rdM hM (by omega)]; exact hA) q, fun _ => ⟨fun q => absurd (by rw [rdM hM (by omega)]; exact hB) q, fun _ => tX11_clash_22 ⟨fun _ => by rw [bI_t hC, un2_11]; exact h, fun q => absurd (by rw [bI_t hC, un2_11]; rfl) q⟩⟩⟩
theorem n_pair (hM : RM w r) (hW : WFr r) (h6 : w.1 41 6 = bI (0 < r 1)) {x1 x2 x3 : Int32} (hn : ¬ ((nI 0 ≤ x1 ∧ x1 ≤ nI (r 1) - nI 1) ∧ (nI 0 ≤ x3 ∧ x3 ≤ nI 2))) (h : K (some (.int (-1))) (rfs w (nI 1))) : fX11_pair [.ref 41, .int x1, .int x2, .int x3] w K := by
  have h0 := hW.2.1
  have h1 := hW.2.2.1
  have Z : RR (tl K lX11_pair) 23 [.ref 41, .int x1, .int x2, .int x3, .null, .null, .null, .null, .null, .null, .null, .null] [.int (nI 0), .ref 41] w := tX11_pair_23 ⟨fun q => absurd q (by rw [un2_0]; decide), fun _ => by rw [un2_0]; exact h⟩
  exact tX11_pair_0 ⟨fun _ => tX11_pair_22 Z, fun a => ⟨fun _ => tX11_pair_22 Z, fun b => absurd (show (nI 0 ≤ x1 ∧ x1 ≤ nI (r 1) - nI 1) ∧ (nI 0 ≤ x3 ∧ x3 ≤ nI 2) from ⟨by rw [rdM hM (by omega)] at a; exact a, b⟩) hn⟩⟩
theorem m_pair (hM : RM w r) (hW : WFr r) (h6 : w.1 41 6 = bI (0 < r 1)) {x1 x2 x3 : Int32} (hA : (nI 0 ≤ x1 ∧ x1 ≤ nI (r 1) - nI 1)) (hB : (nI 0 ≤ x3 ∧ x3 ≤ nI 2)) (hC : ¬ (nI 1 ≤ x2 ∧ x2 ≤ nI 120)) (h : K (some (.int (-1))) (rfs w (nI 2))) : fX11_pair [.ref 41, .int x1, .int x2, .int x3] w K := by
  have h0 := hW.2.1
  have h1 := hW.2.2.1
  exact tX11_pair_0 ⟨fun q => absurd (by rw [rdM hM (by omega)]; exact hA) q, fun _ => ⟨fun q => absurd hB q, fun _ => tX11_pair_23 ⟨fun q => absurd q (by rw [bI_f hC, un2_10]; decide), fun _ => by rw [bI_f hC, un2_10]; exact h⟩⟩⟩
theorem y_pair (hM : RM w r) (hW : WFr r) (h6 : w.1 41 6 = bI (0 < r 1)) {x1 x2 x3 : Int32} (hA : (nI 0 ≤ x1 ∧ x1 ≤ nI (r 1) - nI 1)) (hB : (nI 0 ≤ x3 ∧ x3 ≤ nI 2)) (hC : (nI 1 ≤ x2 ∧ x2 ≤ nI 120)) (h : RR (tl K lX11_pair) 56 [.ref 41, .int x1, .int x2, .int x3, .int ((-2)), .int ((-2)), .int ((-2)), .int (nI 0), .null, .null, .null, .null] [] (rfs w (nI 0))) : fX11_pair [.ref 41, .int x1, .int x2, .int x3] w K := by
  have h0 := hW.2.1
  have h1 := hW.2.2.1
  exact tX11_pair_0 ⟨fun q => absurd (by rw [rdM hM (by omega)]; exact hA) q, fun _ => ⟨fun q => absurd hB q, fun _ => tX11_pair_23 ⟨fun _ => by rw [bI_t hC, un2_11]; exact h, fun q => absurd (by rw [bI_t hC, un2_11]; rfl) q⟩⟩⟩
theorem n_busiest (hM : RM w r) (hW : WFr r) (h6 : w.1 41 6 = bI (0 < r 1)) {x1 x2 : Int32} (hn : ¬ ((nI 0 ≤ x1 ∧ x1 ≤ nI (r 0) - nI 1) ∧ (nI 0 ≤ x2 ∧ x2 ≤ nI 1))) (h : K (some (.int (-1))) (rfs w (nI 1))) : fX11_busiest [.ref 41, .int x1, .int x2] w K := by
  have h0 := hW.2.1
  have h1 := hW.2.2.1
  have Z : RR (tl K lX11_busiest) 23 [.ref 41, .int x1, .int x2, .null, .null] [.int (nI 0), .ref 41] w := tX11_busiest_23 ⟨fun q => absurd (un_0 ▸ q) (by decide), fun _ => by rw [un_0]; exact h⟩
  exact tX11_busiest_0 ⟨fun _ => tX11_busiest_22 Z, fun a => ⟨fun _ => tX11_busiest_22 Z, fun b => absurd (show (nI 0 ≤ x1 ∧ x1 ≤ nI (r 0) - nI 1) ∧ (nI 0 ≤ x2 ∧ x2 ≤ nI 1) from ⟨by rw [rdM hM (by omega)] at a; exact a, b⟩) hn⟩⟩
theorem y_busiest (hM : RM w r) (hW : WFr r) (h6 : w.1 41 6 = bI (0 < r 1)) {x1 x2 : Int32} (hA : (nI 0 ≤ x1 ∧ x1 ≤ nI (r 0) - nI 1)) (hB : (nI 0 ≤ x2 ∧ x2 ≤ nI 1)) (h : fX11_laysDays [.ref 41, .int x1, .int (nI 0), .int (nI 0)] (rfs w (nI 0)) (fun v w1 => RR (tl K lX11_busiest) 41 [.ref 41, .int x1, .int x2, .null, .null] (psh v []) w1)) : fX11_busiest [.ref 41, .int x1, .int x2] w K := by
  have h0 := hW.2.1
  have h1 := hW.2.2.1
  exact tX11_busiest_0 ⟨fun q => absurd (by rw [rdM hM (by omega)]; exact hA) q, fun _ => ⟨fun q => absurd hB q, fun _ => tX11_busiest_23 ⟨fun _ => by rw [un_1]; exact h, fun q => absurd un_1 q⟩⟩⟩
theorem n_about (hM : RM w r) (hW : WFr r) (h6 : w.1 41 6 = bI (0 < r 1)) {x1 : Int32} (hn : ¬ ((0 < r 1) ∧ (nI 0 ≤ x1 ∧ x1 ≤ nI 7))) (h : K (some (.int (-1))) (rfs w (nI 1))) : fX11_about [.ref 41, .int x1] w K := by
  have h0 := hW.2.1
  have h1 := hW.2.2.1
  have Z : RR (tl K lX11_about) 23 [.ref 41, .int x1] [.int (nI 0), .ref 41] w := tX11_about_23 ⟨fun q => absurd (un_0 ▸ q) (by decide), fun _ => by rw [un_0]; exact h⟩
  exact tX11_about_0 ⟨fun _ => tX11_about_22 Z, fun a => ⟨fun _ => tX11_about_22 Z, fun b => absurd (show (0 < r 1) ∧ (nI 0 ≤ x1 ∧ x1 ≤ nI 7) from ⟨Classical.byContradiction (fun p => a (by rw [h6, bI_f p]; rfl)), b⟩) hn⟩⟩
theorem y_about (hM : RM w r) (hW : WFr r) (h6 : w.1 41 6 = bI (0 < r 1)) {x1 : Int32} (hA : (0 < r 1)) (hB : (nI 0 ≤ x1 ∧ x1 ≤ nI 7)) (h : (Int32.toInt x1 < 0 ∨ 6 < Int32.toInt x1 → K (some (.int ((rfs w (nI 0)).1 41 24))) (rfs w (nI 0))) ∧ (Int32.toInt x1 = 0 → K (some (.int (rd (rfs w (nI 0)) 43 (nI 0)))) (rfs w (nI 0))) ∧ (Int32.toInt x1 = 1 → K (some (.int (rd (rfs w (nI 0)) 43 (nI 1)))) (rfs w (nI 0))) ∧ (Int32.toInt x1 = 2 → fX11_outingsAll [.ref 41] (rfs w (nI 0)) (fun v w1 => RR (tl K lX11_about) 94 [.ref 41, .int x1] (psh v []) w1)) ∧ (Int32.toInt x1 = 3 → K (some (.int (rd (rfs w (nI 0)) 43 (nI 3)))) (rfs w (nI 0))) ∧ (Int32.toInt x1 = 4 → K (some (.int (rd (rfs w (nI 0)) 43 (nI 4)))) (rfs w (nI 0))) ∧ (Int32.toInt x1 = 5 → K (some (.int (rd (rfs w (nI 0)) 43 (nI 5)))) (rfs w (nI 0))) ∧ (Int32.toInt x1 = 6 → K (some (.int (rd (rfs w (nI 0)) 43 (nI 2)))) (rfs w (nI 0)))) : fX11_about [.ref 41, .int x1] w K := by
  have h0 := hW.2.1
  have h1 := hW.2.2.1
  exact tX11_about_0 ⟨fun q => by rw [h6, bI_t hA] at q; exact absurd q (by decide), fun _ => ⟨fun q => absurd hB q, fun _ => tX11_about_23 ⟨fun _ => by rw [un_1]; exact h, fun q => absurd un_1 q⟩⟩⟩
theorem n_breach (hM : RM w r) (hW : WFr r) (h6 : w.1 41 6 = bI (0 < r 1)) {x1 : Int32} (hn : ¬ ((0 < r 1) ∧ (¬ x1 < 0))) (h : K (some (.int (-1))) (rfs w (nI 1))) : fX11_breach [.ref 41, .int x1] w K := by
  have h0 := hW.2.1
  have h1 := hW.2.2.1
  have Z : RR (tl K lX11_breach) 17 [.ref 41, .int x1] [.int (nI 0), .ref 41] w := tX11_breach_17 ⟨fun q => absurd (un_0 ▸ q) (by decide), fun _ => by rw [un_0]; exact h⟩
  exact tX11_breach_0 ⟨fun _ => tX11_breach_16 Z, fun a => ⟨fun _ => tX11_breach_16 Z, fun b => absurd (show (0 < r 1) ∧ (¬ x1 < 0) from ⟨Classical.byContradiction (fun p => a (by rw [h6, bI_f p]; rfl)), b⟩) hn⟩⟩
theorem y_breach (hM : RM w r) (hW : WFr r) (h6 : w.1 41 6 = bI (0 < r 1)) {x1 : Int32} (hA : (0 < r 1)) (hB : (¬ x1 < 0)) (h : fX11_breachAt [.ref 41, .int x1] (rfs w (nI 0)) (fun v w1 => RR (tl K lX11_breach) 35 [.ref 41, .int x1] (psh v []) w1)) : fX11_breach [.ref 41, .int x1] w K := by
  have h0 := hW.2.1
  have h1 := hW.2.2.1
  exact tX11_breach_0 ⟨fun q => by rw [h6, bI_t hA] at q; exact absurd q (by decide), fun _ => ⟨fun q => absurd q hB, fun _ => tX11_breach_17 ⟨fun _ => by rw [un_1]; exact h, fun q => absurd un_1 q⟩⟩⟩
theorem n_bare (hM : RM w r) (hW : WFr r) (h6 : w.1 41 6 = bI (0 < r 1)) {x1 : Int32} (hn : ¬ ((0 < r 1) ∧ (¬ x1 < 0))) (h : K (some (.int (-1))) (rfs w (nI 1))) : fX11_bare [.ref 41, .int x1] w K := by
  have h0 := hW.2.1
  have h1 := hW.2.2.1
  have Z : RR (tl K lX11_bare) 17 [.ref 41, .int x1, .null, .null] [.int (nI 0), .ref 41] w := tX11_bare_17 ⟨fun q => absurd (un_0 ▸ q) (by decide), fun _ => by rw [un_0]; exact h⟩
  exact tX11_bare_0 ⟨fun _ => tX11_bare_16 Z, fun a => ⟨fun _ => tX11_bare_16 Z, fun b => absurd (show (0 < r 1) ∧ (¬ x1 < 0) from ⟨Classical.byContradiction (fun p => a (by rw [h6, bI_f p]; rfl)), b⟩) hn⟩⟩
theorem y_bare (hM : RM w r) (hW : WFr r) (h6 : w.1 41 6 = bI (0 < r 1)) {x1 : Int32} (hA : (0 < r 1)) (hB : (¬ x1 < 0)) (h : RR (tl K lX11_bare) 32 [.ref 41, .int x1, .int x1, .int (nI 0)] [] (rfs w (nI 0))) : fX11_bare [.ref 41, .int x1] w K := by
  have h0 := hW.2.1
  have h1 := hW.2.2.1
  exact tX11_bare_0 ⟨fun q => by rw [h6, bI_t hA] at q; exact absurd q (by decide), fun _ => ⟨fun q => absurd q hB, fun _ => tX11_bare_17 ⟨fun _ => by rw [un_1]; exact h, fun q => absurd un_1 q⟩⟩⟩
theorem n_season (hM : RM w r) (hW : WFr r) (h6 : w.1 41 6 = bI (0 < r 1)) {x1 x2 : Int32} (hn : ¬ ((0 < r 1) ∧ (nI 0 ≤ x2 ∧ x2 ≤ nI 4))) (h : K (some (.int (-1))) (rfs w (nI 1))) : fX11_season [.ref 41, .int x1, .int x2] w K := by
  have h0 := hW.2.1
  have h1 := hW.2.2.1
  have Z : RR (tl K lX11_season) 22 [.ref 41, .int x1, .int x2] [.int (nI 0), .ref 41] w := tX11_season_22 ⟨fun q => absurd q (by rw [un2_0]; decide), fun _ => by rw [un2_0]; exact h⟩
  exact tX11_season_0 ⟨fun _ => tX11_season_21 Z, fun a => ⟨fun _ => tX11_season_21 Z, fun b => absurd (show (0 < r 1) ∧ (nI 0 ≤ x2 ∧ x2 ≤ nI 4) from ⟨Classical.byContradiction (fun p => a (by rw [h6, bI_f p]; rfl)), b⟩) hn⟩⟩
theorem m_season (hM : RM w r) (hW : WFr r) (h6 : w.1 41 6 = bI (0 < r 1)) {x1 x2 : Int32} (hA : (0 < r 1)) (hB : (nI 0 ≤ x2 ∧ x2 ≤ nI 4)) (hC : ¬ (nI 1 ≤ x1 ∧ x1 ≤ nI 2147483646)) (h : K (some (.int (-1))) (rfs w (nI 2))) : fX11_season [.ref 41, .int x1, .int x2] w K := by
  have h0 := hW.2.1
  have h1 := hW.2.2.1
  exact tX11_season_0 ⟨fun q => by rw [h6, bI_t hA] at q; exact absurd q (by decide), fun _ => ⟨fun q => absurd hB q, fun _ => tX11_season_22 ⟨fun q => absurd q (by rw [bI_f hC, un2_10]; decide), fun _ => by rw [bI_f hC, un2_10]; exact h⟩⟩⟩
theorem y_season (hM : RM w r) (hW : WFr r) (h6 : w.1 41 6 = bI (0 < r 1)) {x1 x2 : Int32} (hA : (0 < r 1)) (hB : (nI 0 ≤ x2 ∧ x2 ≤ nI 4)) (hC : (nI 1 ≤ x1 ∧ x1 ≤ nI 2147483646)) (h : fX11_goes [.ref 41, .int x1] (rfs w (nI 0)) (fun v w1 => RR (tl K lX11_season) 46 [.ref 41, .int x1, .int x2] (psh v []) w1)) : fX11_season [.ref 41, .int x1, .int x2] w K := by
  have h0 := hW.2.1
  have h1 := hW.2.2.1
  exact tX11_season_0 ⟨fun q => by rw [h6, bI_t hA] at q; exact absurd q (by decide), fun _ => ⟨fun q => absurd hB q, fun _ => tX11_season_22 ⟨fun _ => by rw [bI_t hC, un2_11]; exact h, fun q => absurd (by rw [bI_t hC, un2_11]; rfl) q⟩⟩⟩
end QREF
