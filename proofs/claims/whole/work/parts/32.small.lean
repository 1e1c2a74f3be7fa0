/-! The small questions of both sides. -/
def zbo (p : Prop) [Decidable p] : Int := if p then 1 else 0
theorem zbo_t {p : Prop} [Decidable p] (h : p) : zbo p = 1 := if_pos h
theorem zbo_f {p : Prop} [Decidable p] (h : ¬ p) : zbo p = 0 := if_neg h
theorem zbo_01 {p : Prop} [Decidable p] : zbo p = 0 ∨ zbo p = 1 := by unfold zbo; split <;> omega
theorem zbo_0 {p : Prop} [Decidable p] : zbo p = 0 ↔ ¬ p := by unfold zbo; split <;> simp_all
theorem zbo_1 {p : Prop} [Decidable p] : zbo p = 1 ↔ p := by unfold zbo; split <;> simp_all
theorem zbo_congr {p q : Prop} [Decidable p] [Decidable q] (h : p ↔ q) : zbo p = zbo q := by unfold zbo; by_cases hp : p <;> simp_all
theorem w107 {M : Nat → Nat → Int} {i : Int} (h0 : 0 ≤ i) (h1 : i < 138) : rdI 107 i M = some (M 107 i.toNat) := rdI_107 h0 h1
theorem lm_in_eq {x a b : Int} {M : Nat → Nat → Int} : lm_in x a b M = some (zbo (a ≤ x ∧ x ≤ b)) := by
  unfold lm_in zbo
  split
  · rw [if_neg (by omega)]
  · split
    · rw [if_neg (by omega)]
    · rw [if_pos (by omega)]
theorem lm_isState_eq {M : Nat → Nat → Int} : lm_isState M = some (zbo (0 < M 107 9)) := by
  unfold lm_isState zbo
  rw [w107 (by decide) (by decide)]
  show (if 0 < M 107 9 then some 1 else some 0) = _
  split <;> rfl
theorem lm_last_eq {M : Nat → Nat → Int} : lm_last M = some (M 107 1) := by
  unfold lm_last
  rw [w107 (by decide) (by decide)]
  rfl
theorem lm_names_eq {M : Nat → Nat → Int} : lm_names M = some (M 107 6) := by
  unfold lm_names
  rw [w107 (by decide) (by decide)]
  rfl
theorem lm_of_eq {M : Nat → Nat → Int} {p w : Nat} (hp : p < 5) (hw : w < 12) : lm_of p w M = some (M 107 (42 + 12 * p + w)) := by
  unfold lm_of
  have e : w32 (w32 (42 + w32 (12 * (p : Int))) + (w : Int)) = ((42 + 12 * p + w : Nat) : Int) := by simp (disch := omega) only [w32_eq]; omega
  rw [e, w107 (by omega) (by omega)]
  rfl
theorem lm_namesOf_eq {M : Nat → Nat → Int} {k : Nat} (hk : k < 6) : lm_namesOf k M = some (M 107 (102 + k)) := by
  unfold lm_namesOf
  have e : w32 (102 + (k : Int)) = ((102 + k : Nat) : Int) := by simp (disch := omega) only [w32_eq]; omega
  rw [e, w107 (by omega) (by omega)]
  rfl
theorem lm_placeOf_eq {M : Nat → Nat → Int} {p n : Nat} (hp : p < 5) (hn : n < 21) : lm_placeOf p n M = some (M 117 (5 * n + p)) := by
  unfold lm_placeOf
  have e : w32 (w32 (5 * (n : Int)) + (p : Int)) = ((5 * n + p : Nat) : Int) := by simp (disch := omega) only [w32_eq]; omega
  rw [e, rdI_117 (by omega) (by omega)]
  rfl
theorem lm_inkIn_eq {M : Nat → Nat → Int} {p n : Nat} (hp : p < 5) (hn : n < 21) : lm_inkIn p n M = some (M 118 (5 * n + p)) := by
  unfold lm_inkIn
  have e : w32 (w32 (5 * (n : Int)) + (p : Int)) = ((5 * n + p : Nat) : Int) := by simp (disch := omega) only [w32_eq]; omega
  rw [e, rdI_118 (by omega) (by omega)]
  rfl
theorem lm_bit_eq {M : Nat → Nat → Int} {a k : Nat} (hk : k < 32) (ha : a < 2147483648) : lm_bit a k M = some (if a.testBit k then 1 else 0) := by
  unfold lm_bit
  rw [zbit_nat hk ha]
theorem lm_isStep_eq {x : Int} {M : Nat → Nat → Int} : lm_isStep x M = some (zbo (0 < M 107 9 ∧ 0 ≤ x ∧ x ≤ M 107 1)) := by
  unfold lm_isStep
  rw [lm_isState_eq, lm_last_eq]
  simp only [Option.bind_some, lm_in_eq]
  unfold zbo
  by_cases h : 0 < M 107 9 <;> by_cases h2 : 0 ≤ x ∧ x ≤ M 107 1 <;> simp [h, h2]
theorem lm_isAhead_eq {x : Int} {M : Nat → Nat → Int} (h0 : 0 ≤ M 107 1) (h1 : M 107 1 ≤ 1000) : lm_isAhead x M = some (zbo (0 < M 107 9 ∧ 0 ≤ x ∧ x < M 107 1)) := by
  unfold lm_isAhead
  rw [lm_isState_eq, lm_last_eq]
  simp only [Option.bind_some, lm_in_eq]
  rw [w32_eq (by omega) (by omega)]
  unfold zbo
  have e : (0 ≤ x ∧ x ≤ M 107 1 - 1) ↔ (0 ≤ x ∧ x < M 107 1) := by omega
  by_cases h : 0 < M 107 9 <;> by_cases h2 : 0 ≤ x ∧ x < M 107 1 <;> simp [h, h2, e] <;> omega
theorem lT_isThere_eq {t : Nat} {M : Nat → Nat → Int} (ht : zis 6 t = true) : lT_isThere t M = some (zbo (0 < M t 4)) := by
  unfold lT_isThere zbo
  rw [if_pos ht]
  split <;> rfl
theorem lT_hasStep_eq {t : Nat} {x : Int} {M : Nat → Nat → Int} (ht : zis 6 t = true) : lT_hasStep t x M = some (zbo (0 < M t 4 ∧ 0 ≤ x ∧ x ≤ M t 1)) := by
  unfold lT_hasStep
  rw [if_pos ht, lT_isThere_eq ht]
  simp only [Option.bind_some]
  unfold zbo
  by_cases h : 0 < M t 4
  · simp only [h, if_true, true_and]
    rw [if_neg (by decide)]
    split
    · rw [if_neg (by omega)]
    · split
      · rw [if_neg (by omega)]
      · rw [if_pos (by omega)]
  · simp only [h, if_false, false_and]
    rw [if_pos trivial]
theorem lT_hasCorner_eq {t : Nat} {x : Int} {M : Nat → Nat → Int} (ht : zis 6 t = true) : lT_hasCorner t x M = some (zbo (0 ≤ x ∧ x < M t 0)) := by
  unfold lT_hasCorner zbo
  rw [if_pos ht]
  split
  · rw [if_neg (by omega)]
  · split
    · rw [if_pos (by omega)]
    · rw [if_neg (by omega)]
theorem lT_hasStreet_eq {t : Nat} {x : Int} {M : Nat → Nat → Int} (ht : zis 6 t = true) : lT_hasStreet t x M = some (zbo (0 ≤ x ∧ x < M t 5)) := by
  unfold lT_hasStreet zbo
  rw [if_pos ht]
  split
  · rw [if_neg (by omega)]
  · split
    · rw [if_pos (by omega)]
    · rw [if_neg (by omega)]
theorem lT_hasName_eq {t : Nat} {x : Int} {M : Nat → Nat → Int} (ht : zis 6 t = true) : lT_hasName t x M = some (zbo (0 ≤ x ∧ x < M t 7)) := by
  unfold lT_hasName zbo
  rw [if_pos ht]
  split
  · rw [if_neg (by omega)]
  · split
    · rw [if_pos (by omega)]
    · rw [if_neg (by omega)]
theorem lT_hasContract_eq {t : Nat} {x : Int} {M : Nat → Nat → Int} (ht : zis 6 t = true) : lT_hasContract t x M = some (zbo (0 ≤ x ∧ x < M t 8)) := by
  unfold lT_hasContract zbo
  rw [if_pos ht]
  split
  · rw [if_neg (by omega)]
  · split
    · rw [if_pos (by omega)]
    · rw [if_neg (by omega)]
theorem lm_isCorner_eq {x : Int} {M : Nat → Nat → Int} (h0 : 0 ≤ M 107 0) (h1 : M 107 0 ≤ 1000) : lm_isCorner x M = some (zbo (0 ≤ x ∧ x < M 107 0)) := by
  unfold lm_isCorner
  rw [w107 (by decide) (by decide)]
  show (lm_in x 0 (w32 (M 107 0 - 1)) M).bind _ = _
  rw [w32_eq (by omega) (by omega), lm_in_eq]
  simp only [Option.bind_some]
  rw [if_pos zbo_01]
  exact congrArg some (zbo_congr (by omega))
theorem lm_isStreet_eq {x : Int} {M : Nat → Nat → Int} (h0 : 0 ≤ M 107 4) (h1 : M 107 4 ≤ 1000) : lm_isStreet x M = some (zbo (0 ≤ x ∧ x < M 107 4)) := by
  unfold lm_isStreet
  rw [w107 (by decide) (by decide)]
  show (lm_in x 0 (w32 (M 107 4 - 1)) M).bind _ = _
  rw [w32_eq (by omega) (by omega), lm_in_eq]
  simp only [Option.bind_some]
  rw [if_pos zbo_01]
  exact congrArg some (zbo_congr (by omega))
theorem lm_isName_eq {x : Int} {M : Nat → Nat → Int} (h0 : 0 ≤ M 107 6) (h1 : M 107 6 ≤ 1000) : lm_isName x M = some (zbo (0 ≤ x ∧ x < M 107 6)) := by
  unfold lm_isName
  rw [w107 (by decide) (by decide)]
  show (lm_in x 0 (w32 (M 107 6 - 1)) M).bind _ = _
  rw [w32_eq (by omega) (by omega), lm_in_eq]
  simp only [Option.bind_some]
  rw [if_pos zbo_01]
  exact congrArg some (zbo_congr (by omega))
theorem lm_isContract_eq {x : Int} {M : Nat → Nat → Int} (h0 : 0 ≤ M 107 7) (h1 : M 107 7 ≤ 1000) : lm_isContract x M = some (zbo (0 ≤ x ∧ x < M 107 7)) := by
  unfold lm_isContract
  rw [w107 (by decide) (by decide)]
  show (lm_in x 0 (w32 (M 107 7 - 1)) M).bind _ = _
  rw [w32_eq (by omega) (by omega), lm_in_eq]
  simp only [Option.bind_some]
  rw [if_pos zbo_01]
  exact congrArg some (zbo_congr (by omega))
