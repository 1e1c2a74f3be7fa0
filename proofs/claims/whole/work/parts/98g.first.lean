/-! The invariant at the start. -/
theorem zM0_p {a i : Nat} (h : zPts.contains (a, i) = true) : zM0 a i = zI0 a i := by
  have q := List.all_eq_true.mp zM0_0 (a, i) (List.contains_iff_mem.mp h)
  exact of_decide_eq_true q
theorem zM0_107 : zM0 107 0 = 0 ∧ zM0 107 1 = 0 ∧ zM0 107 2 = 0 ∧ zM0 107 3 = 0 ∧ zM0 107 4 = 0 ∧ zM0 107 5 = 0 ∧ zM0 107 6 = 0 ∧ zM0 107 7 = 0 ∧ zM0 107 8 = 0 ∧ zM0 107 9 = 0 :=
  ⟨zM0_p (by decide +kernel), zM0_p (by decide +kernel), zM0_p (by decide +kernel), zM0_p (by decide +kernel), zM0_p (by decide +kernel), zM0_p (by decide +kernel), zM0_p (by decide +kernel), zM0_p (by decide +kernel), zM0_p (by decide +kernel), zM0_p (by decide +kernel)⟩
theorem zM0_3 : zM0 3 0 = 0 ∧ zM0 3 1 = 0 ∧ zM0 3 2 = 0 ∧ zM0 3 3 = 0 ∧ zM0 3 4 = 0 ∧ zM0 3 5 = 0 ∧ zM0 3 6 = 0 ∧ zM0 3 7 = 0 ∧ zM0 3 8 = 0 :=
  ⟨zM0_p (by decide +kernel), zM0_p (by decide +kernel), zM0_p (by decide +kernel), zM0_p (by decide +kernel), zM0_p (by decide +kernel), zM0_p (by decide +kernel), zM0_p (by decide +kernel), zM0_p (by decide +kernel), zM0_p (by decide +kernel)⟩
set_option maxRecDepth 1000000 in
theorem zM0_8k : (List.range 8).all (fun i => decide (zM0 6 i = 0) && decide (zM0 31 i = 0)) = true := by decide +kernel
theorem zM0_8 (i : Nat) (hi : i < 8) : zM0 6 i = 0 ∧ zM0 31 i = 0 := by
  have h := List.all_eq_true.mp zM0_8k i (List.mem_range.mpr hi)
  rw [Bool.and_eq_true] at h
  exact ⟨of_decide_eq_true h.1, of_decide_eq_true h.2⟩
set_option maxRecDepth 1000000 in
theorem zM0_36 : zM0 36 0 = 0 := of_decide_eq_true (by decide +kernel)
theorem zM0_28k : (List.range 100).all (fun i => zPts.contains (28, i) && decide (zI0 28 i = -1)) = true := by decide +kernel
theorem zM0_28 (i : Nat) (hi : i < 100) : zM0 28 i = -1 := by
  have h := List.all_eq_true.mp zM0_28k i (List.mem_range.mpr hi)
  rw [Bool.and_eq_true] at h
  exact (zM0_p h.1).trans (of_decide_eq_true h.2)
theorem zM0_4 (i : Nat) (hi : i < 4) : zM0 98 i = -1 ∧ zM0 126 i = -1 := by
  have h : i = 0 ∨ i = 1 ∨ i = 2 ∨ i = 3 := by omega
  rcases h with rfl | rfl | rfl | rfl <;> exact ⟨zM0_p (by decide +kernel), zM0_p (by decide +kernel)⟩
theorem zM0_i (i : Nat) (hi : i < 3) : zM0 109 i = 0 ∧ zM0 (46 + 17 * i) 0 = 0 := by
  have h : i = 0 ∨ i = 1 ∨ i = 2 := by omega
  rcases h with rfl | rfl | rfl <;> exact ⟨zM0_p (by decide +kernel), zM0_p (by decide +kernel)⟩
theorem zM0_m : zM0 23 0 = 0 ∧ zM0 23 1 = 0 ∧ zM0 29 8 = 0 ∧ zM0 29 9 = 0 ∧ zM0 29 10 = 0 ∧ zM0 29 11 = -1 ∧ zM0 36 0 = 0 ∧ zM0 1 1 = 0 ∧ zM0 1 2 = 0 ∧ zM0 1 3 = -1 ∧ zM0 106 5 = 0 ∧ zM0 106 12 = 0 ∧ zM0 106 13 = -1 :=
  ⟨zM0_p (by decide +kernel), zM0_p (by decide +kernel), zM0_p (by decide +kernel), zM0_p (by decide +kernel), zM0_p (by decide +kernel), zM0_p (by decide +kernel), zM0_36, zM0_p (by decide +kernel), zM0_p (by decide +kernel), zM0_p (by decide +kernel), zM0_p (by decide +kernel), zM0_p (by decide +kernel), zM0_p (by decide +kernel)⟩
