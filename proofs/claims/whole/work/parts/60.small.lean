/-! trouble, fault, where, size -/
def SK (w : Wd) (v u : Option Value) (w2 : Wd) : Prop := u = v ∧ (∃ x, v = some (.int x)) ∧ w2 = upI w 41 0 (nI 0)
section SMALL
variable {w : Wd}
theorem t41 {j : Nat} (h : j ≠ 0) : (upI w 41 0 (nI 0)).1 41 j = w.1 41 j := by rw [upI1, if_neg (fun z => h z.2)]
theorem p_trouble (h : w.1 0 10 = w.1 41 1) : fX10_trouble [.ref 0] w (fun v w1 => fX11_trouble [.ref 41] w1 (fun u w2 => SK w v u w2)) := by
  refine tX10_trouble_0 (tX11_trouble_0 ?_)
  rw [t41 (by decide), h]
  exact ⟨rfl, ⟨_, rfl⟩, rfl⟩
theorem p_fault (h : w.1 0 11 = w.1 41 2) : fX10_fault [.ref 0] w (fun v w1 => fX11_fault [.ref 41] w1 (fun u w2 => SK w v u w2)) := by
  refine tX10_fault_0 (tX11_fault_0 ?_)
  rw [t41 (by decide), h]
  exact ⟨rfl, ⟨_, rfl⟩, rfl⟩
theorem p_size (h : w.1 1 1 = w.1 41 5) : fX10_size [.ref 0] w (fun v w1 => fX11_size [.ref 41] w1 (fun u w2 => SK w v u w2)) := by
  refine tX10_size_0 (tX11_size_0 ?_)
  rw [t41 (by decide), h]
  exact ⟨rfl, ⟨_, rfl⟩, rfl⟩
theorem p_where (h : w.1 0 12 = if w.1 41 1 = nI 4 then w.1 41 3 else -1) : fX10_where [.ref 0] w (fun v w1 => fX11_where [.ref 41] w1 (fun u w2 => SK w v u w2)) := by
  refine tX10_where_0 (tX11_where_0 ⟨fun q => ?_, fun q => ?_⟩)
  · rw [t41 (by decide)] at q
    rw [h, if_neg q]
    exact ⟨rfl, ⟨_, rfl⟩, rfl⟩
  · rw [t41 (by decide)] at q
    rw [t41 (by decide), h, if_pos q]
    exact ⟨rfl, ⟨_, rfl⟩, rfl⟩
end SMALL
