/-! The corner at which all of a contract are with ink, as the reference asks it. -/
def zciS (f : Nat → Bool) (pl ik : Nat → Int) (b : Nat) : Int := zfo (fun p a => if f p = true then (if ik p = 0 then -2 else if a = -1 then pl p else if a = pl p then a else -2) else a) b (-1)
def zci (f : Nat → Bool) (pl ik : Nat → Int) (b : Nat) : Int := if zciS f pl ik b = -2 then -1 else zciS f pl ik b
theorem lm_cornerOf_eq {k s b t : Nat} {M : Nat → Nat → Int} (hk : k < 6) (hb : M 107 6 = b) (h5 : b ≤ 5) (hs : s ≤ 20) (hM : M 107 (102 + k) = t) (ht : t < 2147483648) (hp : ∀ p, p < b → 0 ≤ M 117 (5 * s + p)) : lm_cornerOf k s M = some (zci (fun p => t.testBit p) (fun p => M 117 (5 * s + p)) (fun p => M 118 (5 * s + p)) b) := by
  unfold lm_cornerOf
  have key := loopD (fun n i a => lm_cornerOf_c5 k s M n a (i : Int)) b (fun p a => if t.testBit p = true then (if M 118 (5 * s + p) = 0 then -2 else if a = -1 then M 117 (5 * s + p) else if a = M 117 (5 * s + p) then a else -2) else a) (fun a => decide (a = -2)) (some (-1)) some (-1) (by decide) ?_ ?_ ?_ zN (zN_gt (by omega))
  · refine Eq.trans key ?_
    unfold zci zciS
    simp only [decide_eq_true_eq]
    split <;> rfl
  · intro i a hi ha
    have ha := of_decide_eq_true ha
    have h := hp i hi
    refine decide_eq_true ?_
    subst ha
    split
    · split
      · rfl
      · rw [if_neg (by omega), if_neg (by omega)]
    · rfl
  · intro n i hi ha
    have ha := of_decide_eq_false ha
    have h := hp i hi
    show lm_cornerOf_c5 k s M (n + 1) _ (i : Int) = if _ then _ else lm_cornerOf_c5 k s M n _ ((i + 1 : Nat) : Int)
    rw [lm_cornerOf_c5, lm_names_eq]
    simp only [Option.bind_some]
    rw [if_pos (by omega), lm_namesOf_eq hk, hM]
    simp only [Option.bind_some]
    rw [lm_bit_eq (by omega) ht]
    have e2 : w32 ((i : Int) + 1) = ((i + 1 : Nat) : Int) := by simp (disch := omega) only [w32_eq]; omega
    rw [e2, lm_placeOf_eq (by omega) (by omega), lm_inkIn_eq (by omega) (by omega)]
    simp only [Option.bind_some, decide_eq_true_eq]
    generalize zfo _ i (-1) = a at ha ⊢
    by_cases hz : t.testBit i = true
    · simp only [hz, if_true]
      rw [if_neg (by decide)]
      by_cases h0 : M 118 (5 * s + i) = 0
      · rw [if_pos h0, if_pos h0, if_pos rfl]
      · rw [if_neg h0, if_neg h0]
        by_cases h1 : a = -1
        · rw [if_pos h1, if_pos h1, if_neg (by omega)]
        · rw [if_neg h1, if_neg h1]
          by_cases h2 : a = M 117 (5 * s + i)
          · rw [if_pos h2, if_pos h2, if_neg ha, ← h2]
          · rw [if_neg h2, if_neg h2, if_pos rfl]
    · have hz : t.testBit i = false := by simpa using hz
      simp only [hz]
      rw [if_pos (by rfl)]
      simp only [Bool.false_eq_true, if_false]
      rw [if_neg ha]
  · intro n ha
    show lm_cornerOf_c5 k s M (n + 1) _ (b : Int) = _
    rw [lm_cornerOf_c5, lm_names_eq]
    simp only [Option.bind_some]
    rw [if_neg (by omega)]
theorem lm_bits_eq {t : Nat} {M : Nat → Nat → Int} (ht : t < 2147483648) : lm_bits t M = some (zpc 20 t) := by
  unfold lm_bits
  refine loopU (fun n i a => lm_bits_c4 t M n a (i : Int)) 20 (fun p a => a + (if t.testBit p = true then 1 else 0)) some 0 ?_ ?_ zN (zN_gt (by omega))
  · intro n i hi
    show lm_bits_c4 t M (n + 1) (zpc i t) (i : Int) = lm_bits_c4 t M n (zpc i t + if t.testBit i = true then 1 else 0) ((i + 1 : Nat) : Int)
    have hs := zsum_le (n := 20) (f := fun i => if t.testBit i then 1 else 0) (B := 1) (fun p _ => by by_cases h : t.testBit p = true <;> simp [h]) (by decide) i (by omega)
    have hs : 0 ≤ zpc i t ∧ zpc i t ≤ (i : Int) * 1 := hs
    rw [lm_bits_c4]
    rw [if_pos (by omega), zbit_nat (by omega) ht]
    have e2 : w32 ((i : Int) + 1) = ((i + 1 : Nat) : Int) := by simp (disch := omega) only [w32_eq]; omega
    rw [e2]
    by_cases hz : t.testBit i = true
    · rw [if_pos hz, w32_eq (by omega) (by omega)]
    · rw [if_neg hz, w32_eq (by omega) (by omega)]
  · intro n
    show lm_bits_c4 t M (n + 1) _ ((20 : Nat) : Int) = _
    rw [lm_bits_c4]
    rw [if_neg (by omega)]
theorem zpc_up {t k : Nat} (h : t < 2 ^ k) : ∀ m, zpc (k + m) t = zpc k t
  | 0 => rfl
  | m + 1 => by
    have e : zpc (k + (m + 1)) t = zpc (k + m) t + (if t.testBit (k + m) then 1 else 0) := rfl
    have hb : t.testBit (k + m) = false := Nat.testBit_lt_two_pow (Nat.lt_of_lt_of_le h (Nat.pow_le_pow_right (by decide) (by omega)))
    rw [e, zpc_up h m, hb]
    show zpc k t + 0 = _
    omega
