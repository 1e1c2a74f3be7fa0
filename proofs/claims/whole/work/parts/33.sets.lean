/-! Small sets as numbers. -/
def zsn (n : Nat) (f : Nat → Bool) : Nat := zfo (fun p a => if f p = true then a ||| (1 <<< p) else a) n 0
theorem zsn_lt {f : Nat → Bool} : ∀ n, zsn n f < 2 ^ n
  | 0 => Nat.one_pos
  | n + 1 => by
    have ih := zsn_lt (f := f) n
    have e : zsn (n + 1) f = if f n = true then zsn n f ||| (1 <<< n) else zsn n f := rfl
    have h2 : (2 : Nat) ^ (n + 1) = 2 ^ n + 2 ^ n := by rw [Nat.pow_succ]; omega
    rw [e]
    split
    · refine Nat.or_lt_two_pow (by omega) ?_
      rw [Nat.one_shiftLeft]
      omega
    · omega
theorem zsn_bit {f : Nat → Bool} {i : Nat} : ∀ n, (zsn n f).testBit i = (decide (i < n) && f i)
  | 0 => by
    have e : zsn 0 f = 0 := rfl
    rw [e]
    simp
  | n + 1 => by
    have ih := zsn_bit (f := f) (i := i) n
    have e : zsn (n + 1) f = if f n = true then zsn n f ||| (1 <<< n) else zsn n f := rfl
    rw [e]
    by_cases hz : f n = true
    · rw [if_pos hz, Nat.testBit_or, ih, Nat.one_shiftLeft, Nat.testBit_two_pow]
      by_cases h1 : i = n
      · subst h1
        simp [hz]
      · have h2 : ¬ (n = i) := fun e => h1 e.symm
        by_cases h3 : i < n
        · simp [h2, h3, show i < n + 1 by omega]
        · simp [h2, h3, show ¬ (i < n + 1) by omega]
    · rw [if_neg hz, ih]
      by_cases h1 : i = n
      · subst h1
        simp [hz]
      · by_cases h3 : i < n
        · simp [h3, show i < n + 1 by omega]
        · simp [h3, show ¬ (i < n + 1) by omega]
theorem zst_nat {f : Nat → Bool} : ∀ n, n ≤ 30 → zst n f = ((zsn n f : Nat) : Int)
  | 0, _ => rfl
  | n + 1, h => by
    have ih := zst_nat (f := f) n (by omega)
    have e : zst (n + 1) f = if f n = true then zor (zst n f) (zshl 1 (n : Int)) else zst n f := rfl
    have e2 : zsn (n + 1) f = if f n = true then zsn n f ||| (1 <<< n) else zsn n f := rfl
    have hp : (2 : Nat) ^ n ≤ 2 ^ 29 := Nat.pow_le_pow_right (by decide) (by omega)
    have h29 : (2 : Nat) ^ 29 = 536870912 := by decide
    have hl := zsn_lt (f := f) n
    have h1 : (1 : Nat) <<< n = 2 ^ n := Nat.one_shiftLeft n
    rw [e, e2, ih]
    split
    · have e3 : zshl ((1 : Nat) : Int) (n : Int) = ((1 <<< n : Nat) : Int) := zshl_nat (by omega) (by omega)
      have e4 : ((1 : Nat) : Int) = 1 := rfl
      rw [e4] at e3
      rw [e3]
      exact zor_nat (by omega) (by omega)
    · rfl
theorem zsn_congr {f g : Nat → Bool} {n : Nat} (h : ∀ i, i < n → f i = g i) : zsn n f = zsn n g := zfo_congr n (fun i hi => by rw [h i hi])
theorem zst_congr {f g : Nat → Bool} {n : Nat} (h : ∀ i, i < n → f i = g i) : zst n f = zst n g := zfo_congr n (fun i hi => by rw [h i hi])
theorem zor_0 {a : Nat} (h : a < 2147483648) : zor (a : Int) 0 = (a : Int) := by
  have e : zor (a : Int) ((0 : Nat) : Int) = ((a ||| 0 : Nat) : Int) := zor_nat h (by decide)
  rw [Nat.or_zero] at e
  exact e
theorem lm_hereOf_eq {c : Int} {s b : Nat} {M : Nat → Nat → Int} (hb : M 107 6 = b) (h5 : b ≤ 5) (hs : s ≤ 20) : lm_hereOf c s M = some (zst b (fun p => decide (M 117 (5 * s + p) = c))) := by
  unfold lm_hereOf
  refine loopU (fun n i a => lm_hereOf_c5 c s M n a (i : Int)) b _ some 0 ?_ ?_ zN (zN_gt (by omega))
  · intro n i hi
    show lm_hereOf_c5 c s M (n + 1) (zst i _) (i : Int) = lm_hereOf_c5 c s M n (if _ then _ else zst i _) ((i + 1 : Nat) : Int)
    have hl := zsn_lt (f := fun p => decide (M 117 (5 * s + p) = c)) i
    have h32 : 2 ^ i ≤ 2 ^ 5 := Nat.pow_le_pow_right (by decide) (by omega)
    rw [lm_hereOf_c5, lm_names_eq]
    simp only [Option.bind_some]
    rw [if_pos (by omega), lm_placeOf_eq (by omega) (by omega)]
    have e2 : w32 ((i : Int) + 1) = ((i + 1 : Nat) : Int) := by simp (disch := omega) only [w32_eq]; omega
    rw [e2]
    simp only [Option.bind_some]
    have ez : zor (zst i (fun p => decide (M 117 (5 * s + p) = c))) 0 = zst i (fun p => decide (M 117 (5 * s + p) = c)) := by
      rw [zst_nat i (by omega)]
      exact zor_0 (by omega)
    rw [ez]
    by_cases hz : M 117 (5 * s + i) = c
    · rw [if_pos hz, if_pos (decide_eq_true hz)]
      rfl
    · rw [if_neg hz, if_neg (by simp [hz])]
  · intro n
    show lm_hereOf_c5 c s M (n + 1) _ (b : Int) = _
    rw [lm_hereOf_c5, lm_names_eq]
    simp only [Option.bind_some]
    rw [if_neg (by omega)]
