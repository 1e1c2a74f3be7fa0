/-! The day's questions. -/
def zst (n : Nat) (f : Nat → Bool) : Int := zfo (fun p a => if f p = true then zor a (zshl 1 (p : Int)) else a) n 0
theorem zN_gt {b : Nat} (h : b < 10000) : b < zN := h
theorem lD_namesAwake_eq {d s b : Nat} {M : Nat → Nat → Int} (hd : zis 1 d = true) (hb : M 3 7 = b) (h5 : b ≤ 5) (hs : s ≤ 20) : lD_namesAwake d s M = some (zst b (fun p => decide (0 < M (d + 6) (5 * s + p)))) := by
  unfold lD_namesAwake
  rw [if_pos hd]
  refine loopU (fun n i a => lD_namesAwake_c4 d s M n a (i : Int)) b _ some 0 ?_ ?_ zN (zN_gt (by omega))
  · intro n i hi
    show lD_namesAwake_c4 d s M (n + 1) _ (i : Int) = lD_namesAwake_c4 d s M n _ ((i + 1 : Nat) : Int)
    rw [lD_namesAwake_c4]
    rw [if_pos (by omega)]
    have e1 : w32 (w32 ((s : Int) * 5) + (i : Int)) = ((5 * s + i : Nat) : Int) := by simp (disch := omega) only [w32_eq]; omega
    have e2 : w32 ((i : Int) + 1) = ((i + 1 : Nat) : Int) := by simp (disch := omega) only [w32_eq]; omega
    rw [e1, e2, rdI_D6 hd (by omega) (by omega)]
    simp only [Option.bind_some, Int.toNat_natCast, decide_eq_true_eq]
    split <;> rfl
  · intro n
    show lD_namesAwake_c4 d s M (n + 1) _ (b : Int) = _
    rw [lD_namesAwake_c4]
    rw [if_neg (by omega)]
theorem lD_namesAt_eq {d s b : Nat} {c : Int} {M : Nat → Nat → Int} (hd : zis 1 d = true) (hb : M 3 7 = b) (h5 : b ≤ 5) (hs : s ≤ 20) : lD_namesAt d c s M = some (zst b (fun p => decide (M (d + 5) (5 * s + p) = c))) := by
  unfold lD_namesAt
  rw [if_pos hd]
  refine loopU (fun n i a => lD_namesAt_c5 d c s M n a (i : Int)) b _ some 0 ?_ ?_ zN (zN_gt (by omega))
  · intro n i hi
    show lD_namesAt_c5 d c s M (n + 1) _ (i : Int) = lD_namesAt_c5 d c s M n _ ((i + 1 : Nat) : Int)
    rw [lD_namesAt_c5]
    rw [if_pos (by omega)]
    have e1 : w32 (w32 ((s : Int) * 5) + (i : Int)) = ((5 * s + i : Nat) : Int) := by simp (disch := omega) only [w32_eq]; omega
    have e2 : w32 ((i : Int) + 1) = ((i + 1 : Nat) : Int) := by simp (disch := omega) only [w32_eq]; omega
    rw [e1, e2, rdI_D5 hd (by omega) (by omega)]
    simp only [Option.bind_some, Int.toNat_natCast, decide_eq_true_eq]
    split <;> rfl
  · intro n
    show lD_namesAt_c5 d c s M (n + 1) _ (b : Int) = _
    rw [lD_namesAt_c5]
    rw [if_neg (by omega)]
/-- a sum of small numbers -/
def zsum (n : Nat) (f : Nat → Int) : Int := zfo (fun p a => a + f p) n 0
theorem zsum_le {n : Nat} {f : Nat → Int} {B : Int} (h : ∀ p, p < n → 0 ≤ f p ∧ f p ≤ B) (hB : 0 ≤ B) : ∀ k, k ≤ n → 0 ≤ zsum k f ∧ zsum k f ≤ k * B
  | 0, _ => ⟨Int.le_refl 0, by show (0 : Int) ≤ ((0 : Nat) : Int) * B; rw [show ((0 : Nat) : Int) = 0 from rfl, Int.zero_mul]; exact Int.le_refl 0⟩
  | k + 1, hk => by
    have ih := zsum_le h hB k (by omega)
    have hp := h k (by omega)
    have e : zsum (k + 1) f = zsum k f + f k := rfl
    rw [e]
    have e2 : ((k + 1 : Nat) : Int) * B = k * B + B := by rw [Int.natCast_add, Int.add_mul]; omega
    rw [e2]
    omega
theorem lD_inkOfAll_eq {d s b : Nat} {M : Nat → Nat → Int} (hd : zis 1 d = true) (hb : M 3 7 = b) (h5 : b ≤ 5) (hs : s ≤ 20) (hi : ∀ p, p < b → 0 ≤ M (d + 6) (5 * s + p) ∧ M (d + 6) (5 * s + p) ≤ 60) : lD_inkOfAll d s M = some (zsum b (fun p => M (d + 6) (5 * s + p))) := by
  unfold lD_inkOfAll
  rw [if_pos hd]
  refine loopU (fun n i a => lD_inkOfAll_c4 d s M n a (i : Int)) b _ some 0 ?_ ?_ zN (zN_gt (by omega))
  · intro n i hib
    show lD_inkOfAll_c4 d s M (n + 1) (zsum i _) (i : Int) = lD_inkOfAll_c4 d s M n (zsum i _ + _) ((i + 1 : Nat) : Int)
    have hz := zsum_le hi (by decide) i (by omega)
    have hp := hi i hib
    rw [lD_inkOfAll_c4]
    rw [if_pos (by omega)]
    have e1 : w32 (w32 ((s : Int) * 5) + (i : Int)) = ((5 * s + i : Nat) : Int) := by simp (disch := omega) only [w32_eq]; omega
    have e2 : w32 ((i : Int) + 1) = ((i + 1 : Nat) : Int) := by simp (disch := omega) only [w32_eq]; omega
    rw [e1, e2, rdI_D6 hd (by omega) (by omega)]
    simp only [Option.bind_some, Int.toNat_natCast]
    rw [w32_eq (by omega) (by omega)]
  · intro n
    show lD_inkOfAll_c4 d s M (n + 1) _ (b : Int) = _
    rw [lD_inkOfAll_c4]
    rw [if_neg (by omega)]
/-- a counting loop that ends early, in a state that stays -/
theorem loopD {A R : Type} (F : Nat → Nat → A → Option R) (b : Nat) (g : Nat → A → A) (dead : A → Bool) (ex : Option R) (e : A → Option R) (a0 : A) (h0 : dead a0 = false) (hd : ∀ i a, i < b → dead a = true → dead (g i a) = true) (hs : ∀ n i, i < b → dead (zfo g i a0) = false → F (n + 1) i (zfo g i a0) = if dead (g i (zfo g i a0)) = true then ex else F n (i + 1) (g i (zfo g i a0))) (he : ∀ n, dead (zfo g b a0) = false → F (n + 1) b (zfo g b a0) = e (zfo g b a0)) : ∀ fuel, b < fuel → F fuel 0 a0 = if dead (zfo g b a0) = true then ex else e (zfo g b a0) := by
  have key : ∀ m i n, i + m = b → dead (zfo g i a0) = false → F (m + 1 + n) i (zfo g i a0) = if dead (zfo g b a0) = true then ex else e (zfo g b a0) := by
    intro m
    induction m with
    | zero =>
      intro i n h hz
      have hi : i = b := by omega
      subst hi
      rw [show 0 + 1 + n = n + 1 by omega, he n hz, hz]
      rfl
    | succ m ih =>
      intro i n h hz
      rw [show m + 1 + 1 + n = (m + 1 + n) + 1 by omega, hs _ i (by omega) hz]
      cases hr : dead (g i (zfo g i a0)) with
      | false => exact ih (i + 1) n (by omega) hr
      | true =>
        have up : ∀ k, i + 1 + k ≤ b → dead (zfo g (i + 1 + k) a0) = true := by
          intro k
          induction k with
          | zero => intro _; exact hr
          | succ k ihk => intro hk; exact hd (i + 1 + k) _ (by omega) (ihk (by omega))
        have e1 := up m (by omega)
        rw [show i + 1 + m = b by omega] at e1
        rw [e1]
        rfl
  intro fuel hf
  have h := key b 0 (fuel - b - 1) (by omega) h0
  rw [show b + 1 + (fuel - b - 1) = fuel by omega] at h
  exact h
/-- the corner of all of a set: -1 none yet, -2 not at one -/
def zcoS (f : Nat → Bool) (pl : Nat → Int) (b : Nat) : Int := zfo (fun p a => if f p = true then (if a = -1 then pl p else if a = pl p then a else -2) else a) b (-1)
def zco (f : Nat → Bool) (pl : Nat → Int) (b : Nat) : Int := if zcoS f pl b = -2 then -1 else zcoS f pl b
theorem lD_cornerOfAll_eq {d s b t : Nat} {M : Nat → Nat → Int} (hd : zis 1 d = true) (hb : M 3 7 = b) (h5 : b ≤ 5) (hs : s ≤ 20) (ht : t < 2147483648) (hp : ∀ p, p < b → 0 ≤ M (d + 5) (5 * s + p)) : lD_cornerOfAll d t s M = some (zco (fun p => t.testBit p) (fun p => M (d + 5) (5 * s + p)) b) := by
  unfold lD_cornerOfAll
  rw [if_pos hd]
  have key := loopD (fun n i a => lD_cornerOfAll_c5 d t s M n a (i : Int)) b (fun p a => if t.testBit p = true then (if a = -1 then M (d + 5) (5 * s + p) else if a = M (d + 5) (5 * s + p) then a else -2) else a) (fun a => decide (a = -2)) (some (-1)) some (-1) (by decide) ?_ ?_ ?_ zN (zN_gt (by omega))
  · refine Eq.trans key ?_
    unfold zco zcoS
    simp only [decide_eq_true_eq]
    split <;> rfl
  · intro i a hi ha
    have ha := of_decide_eq_true ha
    have h := hp i hi
    refine decide_eq_true ?_
    subst ha
    split
    · rw [if_neg (by omega), if_neg (by omega)]
    · rfl
  · intro n i hi ha
    have ha := of_decide_eq_false ha
    have h := hp i hi
    show lD_cornerOfAll_c5 d t s M (n + 1) _ (i : Int) = if _ then _ else lD_cornerOfAll_c5 d t s M n _ ((i + 1 : Nat) : Int)
    rw [lD_cornerOfAll_c5]
    rw [if_pos (by omega), zbit_nat (by omega) ht]
    have e1 : w32 (w32 ((s : Int) * 5) + (i : Int)) = ((5 * s + i : Nat) : Int) := by simp (disch := omega) only [w32_eq]; omega
    have e2 : w32 ((i : Int) + 1) = ((i + 1 : Nat) : Int) := by simp (disch := omega) only [w32_eq]; omega
    rw [e1, e2, rdI_D5 hd (by omega) (by omega)]
    simp only [Option.bind_some, Int.toNat_natCast, decide_eq_true_eq]
    generalize zfo _ i (-1) = a at ha ⊢
    by_cases hz : t.testBit i = true
    · simp only [hz, if_true]
      rw [if_neg (by decide)]
      by_cases h1 : a = -1
      · rw [if_pos h1, if_pos h1, if_neg (by omega)]
      · rw [if_neg h1, if_neg h1]
        by_cases h2 : a = M (d + 5) (5 * s + i)
        · rw [if_pos h2, if_pos h2, if_neg ha, ← h2]
        · rw [if_neg h2, if_neg h2, if_pos rfl]
    · have hz : t.testBit i = false := by simpa using hz
      simp only [hz]
      rw [if_pos (by rfl)]
      simp only [Bool.false_eq_true, if_false]
      rw [if_neg ha]
  · intro n ha
    show lD_cornerOfAll_c5 d t s M (n + 1) _ (b : Int) = _
    rw [lD_cornerOfAll_c5]
    rw [if_neg (by omega)]
