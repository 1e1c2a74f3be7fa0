/-! The day's questions. -/
def zst (n : Nat) (f : Nat → Bool) : Int := zfo (fun p a => if f p = true then zor a (zshl 1 (p : Int)) else a) n 0
theorem zN_gt {b : Nat} (h : b < 10000) : b < zN := h
theorem lD_namesAwake_eq {d s b : Nat} {M : Nat → Nat → Int} (hd : zis 1 d = true) (hb : M 3 7 = b) (h5 : b ≤ 5) (hs : s ≤ 20) : lD_namesAwake d s M = some (zst b (fun p => decide (0 < M (d + 6) (5 * s + p)))) := by
  unfold lD_namesAwake
  rw [if_pos hd]
  refine loopU (fun n i a => lD_namesAwake_c4 d s M n a (i : Int)) b _ some 0 ?_ ?_ zN (zN_gt (by omega))
  · intro n i hi
    show lD_namesAwake_c4 d s M (n + 1) _ (i : Int) = lD_namesAwake_c4 d s M n _ ((i + 1 : Nat) : Int)
    rw [lD_namesAwake_c4]
    rw [if_pos (by omega)]
    have e1 : w32 (w32 ((s : Int) * 5) + (i : Int)) = ((5 * s + i : Nat) : Int) := by simp (disch := omega) only [w32_eq]; omega
    have e2 : w32 ((i : Int) + 1) = ((i + 1 : Nat) : Int) := by simp (disch := omega) only [w32_eq]; omega
    rw [e1, e2, rdI_D6 hd (by omega) (by omega)]
    simp only [Option.bind_some, Int.toNat_natCast, decide_eq_true_eq]
    split <;> rfl
  · intro n
    show lD_namesAwake_c4 d s M (n + 1) _ (b : Int) = _
    rw [lD_namesAwake_c4]
    rw [if_neg (by omega)]
theorem lD_namesAt_eq {d s b : Nat} {c : Int} {M : Nat → Nat → Int} (hd : zis 1 d = true) (hb : M 3 7 = b) (h5 : b ≤ 5) (hs : s ≤ 20) : lD_namesAt d c s M = some (zst b (fun p => decide (M (d + 5) (5 * s + p) = c))) := by
  unfold lD_namesAt
  rw [if_pos hd]
  refine loopU (fun n i a => lD_namesAt_c5 d c s M n a (i : Int)) b _ some 0 ?_ ?_ zN (zN_gt (by omega))
  · intro n i hi
    show lD_namesAt_c5 d c s M (n + 1) _ (i : Int) = lD_namesAt_c5 d c s M n _ ((i + 1 : Nat) : Int)
    rw [lD_namesAt_c5]
    rw [if_pos (by omega)]
    have e1 : w32 (w32 ((s : Int) * 5) + (i : Int)) = ((5 * s + i : Nat) : Int) := by simp (disch := omega) only [w32_eq]; omega
    have e2 : w32 ((i : Int) + 1) = ((i + 1 : Nat) : Int) := by simp (disch := omega) only [w32_eq]; omega
    rw [e1, e2, rdI_D5 hd (by omega) (by omega)]
    simp only [Option.bind_some, Int.toNat_natCast, decide_eq_true_eq]
    split <;> rfl
  · intro n
    show lD_namesAt_c5 d c s M (n + 1) _ (b : Int) = _
    rw [lD_namesAt_c5]
    rw [if_neg (by omega)]
/-- a sum of small numbers -/
def zsum (n : Nat) (f : Nat → Int) : Int := zfo (fun p a => a + f p) n 0
theorem zsum_le {n : Nat} {f : Nat → Int} {B : Int} (h : ∀ p, p < n → 0 ≤ f p ∧ f p ≤ B) (hB : 0 ≤ B) : ∀ k, k ≤ n → 0 ≤ zsum k f ∧ zsum k f ≤ k * B
  | 0, _ => ⟨Int.le_refl 0, by show (0 : Int) ≤ ((0 : Nat) : Int) * B; rw [show ((0 : Nat) : Int) = 0 from rfl, Int.zero_mul]; exact Int.le_refl 0⟩
  | k + 1, hk => by
    have ih := zsum_le h hB k (by omega)
    have hp := h k (by omega)
    have e : zsum (k + 1) f = zsum k f + f k := rfl
    rw [e]
    have e2 : ((k + 1 : Nat) : Int) * B = k * B + B := by rw [Int.natCast_add, Int.add_mul]; omega
    rw [e2]
    omega
theorem lD_inkOfAll_eq {d s b : Nat} {M : Nat → Nat → Int} (hd : zis 1 d = true) (hb : M 3 7 = b) (h5 : b ≤ 5) (hs : s ≤ 20) (hi : ∀ p, p < b → 0 ≤ M (d + 6) (5 * s + p) ∧ M (d + 6) (5 * s + p) ≤ 60) : lD_inkOfAll d s M = some (zsum b (fun p => M (d + 6) (5 * s + p))) := by
  unfold lD_inkOfAll
  rw [if_pos hd]
  refine loopU (fun n i a => lD_inkOfAll_c4 d s M n a (i : Int)) b _ some 0 ?_ ?_ zN (zN_gt (by omega))
  · intro n i hib
    show lD_inkOfAll_c4 d s M (n + 1) (zsum i _) (i : Int) = lD_inkOfAll_c4 d s M n (zsum i _ + _) ((i + 1 : Nat) : Int)
    have hz := zsum_le hi (by decide) i (by omega)
    have hp := hi i hib
    rw [lD_inkOfAll_c4]
    rw [if_pos (by omega)]
    have e1 : w32 (w32 ((s : Int) * 5) + (i : Int)) = ((5 * s + i : Nat) : Int) := by simp (disch := omega) only [w32_eq]; omega
    have e2 : w32 ((i : Int) + 1) = ((i + 1 : Nat) : Int) := by simp (disch := omega) only [w32_eq]; omega
    rw [e1, e2, rdI_D6 hd (by omega) (by omega)]
    simp only [Option.bind_some, Int.toNat_natCast]
    rw [w32_eq (by omega) (by omega)]
  · intro n
    show lD_inkOfAll_c4 d s M (n + 1) _ (b : Int) = _
    rw [lD_inkOfAll_c4]
    rw [if_neg (by omega)]
