/-! The day's questions. -/
def zst (n : Nat) (f : Nat → Bool) : Int := zfo (fun p a => if f p = true then zor a (zshl 1 (p : Int)) else a) n 0
theorem zN_gt {b : Nat} (h : b < 10000) : b < zN := h
theorem lD_namesAwake_eq {d s b : Nat} {M : Nat → Nat → Int} (hd : zis 1 d = true) (hb : M 3 7 = b) (h5 : b ≤ 5) (hs : s ≤ 20) : lD_namesAwake d s M = some (zst b (fun p => decide (0 < M (d + 6) (5 * s + p)))) := by
  unfold lD_namesAwake
  rw [if_pos hd]
  refine loopU (fun n i a => lD_namesAwake_c4 d s M n a (i : Int)) b _ some 0 ?_ ?_ zN (zN_gt (by omega))
  · intro n i hi
    show lD_namesAwake_c4 d s M (n + 1) _ (i : Int) = lD_namesAwake_c4 d s M n _ ((i + 1 : Nat) : Int)
    rw [lD_namesAwake_c4]
    rw [if_pos (by omega)]
    have e1 : w32 (w32 ((s : Int) * 5) + (i : Int)) = ((5 * s + i : Nat) : Int) := by simp (disch := omega) only [w32_eq]; omega
    have e2 : w32 ((i : Int) + 1) = ((i + 1 : Nat) : Int) := by simp (disch := omega) only [w32_eq]; omega
    rw [e1, e2, rdI_D6 hd (by omega) (by omega)]
    simp only [Option.bind_some, Int.toNat_natCast, decide_eq_true_eq]
    split <;> rfl
  · intro n
    show lD_namesAwake_c4 d s M (n + 1) _ (b : Int) = _
    rw [lD_namesAwake_c4]
    rw [if_neg (by omega)]
