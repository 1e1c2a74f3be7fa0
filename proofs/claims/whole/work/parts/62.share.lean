/-! Shares. -/
def zFac : Nat → Int
  | 0 => 1
  | k + 1 => zFac k * ((k + 1 : Nat) : Int)
theorem zFac_b {k : Nat} (hk : k ≤ 5) : 1 ≤ zFac k ∧ zFac k ≤ 120 := by
  have h : k = 0 ∨ k = 1 ∨ k = 2 ∨ k = 3 ∨ k = 4 ∨ k = 5 := by omega
  rcases h with rfl | rfl | rfl | rfl | rfl | rfl <;> decide
/-- a contract in a set -/
def zIn (P t : Nat) : Int := if P &&& (t ^^^ 4294967295) = 0 then 1 else 0
def zShC (n p P : Nat) : Int := zsum (2 ^ n) (fun t => if t.testBit p = true then 0 else zFac (zpc 12 t).toNat * zFac (n - 1 - (zpc 12 t).toNat) * (zIn P (t ||| (1 <<< p)) - zIn P t))
def zSix (p P : Nat) : Int := if P.testBit p = true then (if zpc 12 P = 2 then 3 else 2) else 0
set_option maxRecDepth 1000000 in
theorem zShC_all : (List.range 6).all (fun n => (List.range n).all (fun p => (List.range (2 ^ n)).all (fun P => decide ((zpc 12 P = 2 ∨ zpc 12 P = 3) → 6 * zShC n p P = zFac n * zSix p P)))) = true := by decide +kernel
theorem zShC_eq {n p P : Nat} (hn : n ≤ 5) (hp : p < n) (hP : P < 2 ^ n) (h : zpc 12 P = 2 ∨ zpc 12 P = 3) : 6 * zShC n p P = zFac n * zSix p P := by
  have h1 := List.all_eq_true.mp zShC_all n (List.mem_range.mpr (by omega))
  have h2 := List.all_eq_true.mp h1 p (List.mem_range.mpr hp)
  have h3 := List.all_eq_true.mp h2 P (List.mem_range.mpr hP)
  exact of_decide_eq_true h3 h
set_option maxRecDepth 1000000 in
theorem zpcp_all : (List.range 6).all (fun n => (List.range n).all (fun p => (List.range (2 ^ n)).all (fun t => decide (t.testBit p = false → zpc 12 t ≤ (n : Int) - 1)))) = true := by decide +kernel
theorem zpcp {n p t : Nat} (hn : n ≤ 5) (hp : p < n) (ht : t < 2 ^ n) (h : t.testBit p = false) : zpc 12 t ≤ (n : Int) - 1 := by
  have h1 := List.all_eq_true.mp zpcp_all n (List.mem_range.mpr (by omega))
  have h2 := List.all_eq_true.mp h1 p (List.mem_range.mpr hp)
  have h3 := List.all_eq_true.mp h2 t (List.mem_range.mpr ht)
  exact of_decide_eq_true h3 h
set_option maxRecDepth 1000000 in
theorem zLT_all : (List.range 6).all (fun n => (List.range 19).all (fun x => (List.range 400).all (fun s => decide (6 * (s : Int) = zFac n * (x : Int) → zLT s (zFac n).toNat 0 = zLT x 6 0 ∧ zLT s (zFac n).toNat 1 = zLT x 6 1)))) = true := by decide +kernel
theorem zLT_eq {n x s : Nat} {w : Int} (hn : n ≤ 5) (hx : x ≤ 18) (hs : s < 400) (h : 6 * (s : Int) = zFac n * (x : Int)) (hw : w = 0 ∨ w = 1) : zLT s (zFac n).toNat w = zLT x 6 w := by
  have h1 := List.all_eq_true.mp zLT_all n (List.mem_range.mpr (by omega))
  have h2 := List.all_eq_true.mp h1 x (List.mem_range.mpr (by omega))
  have h3 := List.all_eq_true.mp h2 s (List.mem_range.mpr hs)
  have h4 := of_decide_eq_true h3 h
  rcases hw with rfl | rfl
  · exact h4.1
  · exact h4.2
theorem zsum_mul {a : Int} {f : Nat → Int} : ∀ n, a * zsum n f = zsum n (fun i => a * f i)
  | 0 => Int.mul_zero a
  | n + 1 => by
    have ih := zsum_mul (a := a) (f := f) n
    have e1 : zsum (n + 1) f = zsum n f + f n := rfl
    have e2 : zsum (n + 1) (fun i => a * f i) = zsum n (fun i => a * f i) + a * f n := rfl
    rw [e1, e2, Int.mul_add, ih]
theorem zsum_sub {f g : Nat → Int} : ∀ n, zsum n f - zsum n g = zsum n (fun i => f i - g i)
  | 0 => rfl
  | n + 1 => by
    have ih := zsum_sub (f := f) (g := g) n
    have e1 : zsum (n + 1) f = zsum n f + f n := rfl
    have e2 : zsum (n + 1) g = zsum n g + g n := rfl
    have e3 : zsum (n + 1) (fun i => f i - g i) = zsum n (fun i => f i - g i) + (f n - g n) := rfl
    rw [e1, e2, e3]
    omega
theorem zsum_0 : ∀ n, zsum n (fun _ => (0 : Int)) = 0
  | 0 => rfl
  | n + 1 => by
    have ih := zsum_0 n
    have e1 : zsum (n + 1) (fun _ => (0 : Int)) = zsum n (fun _ => (0 : Int)) + 0 := rfl
    rw [e1, ih]
    rfl
theorem zsum_swap {f : Nat → Nat → Int} : ∀ (n m : Nat), zsum n (fun i => zsum m (fun j => f i j)) = zsum m (fun j => zsum n (fun i => f i j))
  | 0, m => (zsum_0 m).symm
  | n + 1, m => by
    have ih := zsum_swap (f := f) n m
    have e1 : zsum (n + 1) (fun i => zsum m (fun j => f i j)) = zsum n (fun i => zsum m (fun j => f i j)) + zsum m (fun j => f n j) := rfl
    have e2 : zsum m (fun j => zsum (n + 1) (fun i => f i j)) = zsum m (fun j => zsum n (fun i => f i j) + f n j) := rfl
    rw [e1, e2, zsum_add, ih]
section ZSH
variable {W : Nat → Int} {M : Nat → Nat → Int} {x y : Int}
theorem mFac {n : Nat} (hn : n ≤ 5) : lm_factorial (n : Int) M = some (zFac n) := by
  refine zS_eq ?_
  unfold lm_factorial
  by_cases h2 : n < 2
  · have e : zFac n = 1 := by
      have h : n = 0 ∨ n = 1 := by omega
      rcases h with rfl | rfl <;> decide
    rw [show zN = 9999 + 1 from rfl, lm_factorial_c4]
    refine zS_it (by omega) ?_
    exact zS_r e.symm
  · refine loopI (fun m i (a : Int) => lm_factorial_c4 (n : Int) M m a (i : Int)) (fun i a => a = zFac (i - 1)) (a0 := 1) 2 (n + 1) (by omega) (by decide) ?_ ?_ zN (zN_gt (by omega))
    · intro m i a hi2 hi ha k
      have hb := zFac_b (k := i - 1) (by omega)
      have hb2 := zFac_b (k := i) (by omega)
      have e : zFac i = zFac (i - 1) * (i : Int) := by
        have q : i = (i - 1) + 1 := by omega
        conv => lhs; rw [q]
        show zFac (i - 1) * ((i - 1 + 1 : Nat) : Int) = _
        congr 2
        omega
      show zS (lm_factorial_c4 (n : Int) M (m + 1) a (i : Int)) _
      rw [lm_factorial_c4]
      refine zS_ie (by omega) ?_
      rw [w1 (by omega), ha, ← e, w32_eq (by omega) (by omega)]
      exact k _ (by rw [Nat.add_sub_cancel])
    · intro m a ha
      show zS (lm_factorial_c4 (n : Int) M (m + 1) a ((n + 1 : Nat) : Int)) _
      rw [lm_factorial_c4]
      refine zS_it (by omega) ?_
      exact zS_r ha
def zTerm (E : zE) (n p t : Nat) : Int := if t.testBit p = true then 0 else zFac (zpc 12 t).toNat * zFac (n - 1 - (zpc 12 t).toNat) * (zWth E (t ||| (1 <<< p)) - zWth E t)
theorem zTerm_sum {E : zE} {n p : Nat} : zsum (2 ^ n) (zTerm E n p) = zsum (zeC E) (fun k => zShC n p (zeP E k)) := by
  have e : ∀ t, zTerm E n p t = zsum (zeC E) (fun k => if t.testBit p = true then 0 else zFac (zpc 12 t).toNat * zFac (n - 1 - (zpc 12 t).toNat) * (zIn (zeP E k) (t ||| (1 <<< p)) - zIn (zeP E k) t)) := fun t => by
    unfold zTerm
    by_cases h : t.testBit p = true
    · rw [if_pos h]
      simp only [if_pos h]
      exact (zsum_0 _).symm
    · rw [if_neg h]
      simp only [if_neg h]
      unfold zWth
      rw [zsum_sub, zsum_mul]
      rfl
  rw [zsum_congr (fun t _ => e t), zsum_swap]
  rfl
theorem zWth_b2 {E : zE} (he : zeOk E) {t : Nat} : 0 ≤ zWth E t ∧ zWth E t ≤ 6 := by
  have h6 := he.2.1
  have q := zWth_b (E := E) (t := t) (zeC E)
  unfold zWth
  omega
theorem zTerm_b {E : zE} (he : zeOk E) {n p t : Nat} (hn : n ≤ 5) (hp : p < n) (ht : t < 2 ^ n) : -86400 ≤ zTerm E n p t ∧ zTerm E n p t ≤ 86400 := by
  unfold zTerm
  by_cases h : t.testBit p = true
  · rw [if_pos h]; omega
  · rw [if_neg h]
    have hz := zpcp hn hp ht (by simpa using h)
    have hz0 := (zpc_b (t := t) 12).1
    have f1 := zFac_b (k := (zpc 12 t).toNat) (by omega)
    have f2 := zFac_b (k := n - 1 - (zpc 12 t).toNat) (by omega)
    have a1 := zWth_b2 he (t := t ||| (1 <<< p))
    have a2 := zWth_b2 he (t := t)
    generalize zFac (zpc 12 t).toNat = u at *
    generalize zFac (n - 1 - (zpc 12 t).toNat) = v at *
    generalize hd : zWth E (t ||| (1 <<< p)) - zWth E t = d
    have hd1 : -6 ≤ d ∧ d ≤ 6 := by omega
    have m1 := Int.mul_le_mul f1.2 f2.2 (by omega) (by decide)
    have m0 : 0 ≤ u * v := Int.mul_nonneg (by omega) (by omega)
    generalize u * v = w at *
    have k1 : w * d ≤ w * 6 := Int.mul_le_mul_of_nonneg_left hd1.2 m0
    have k2 : w * (-6) ≤ w * d := Int.mul_le_mul_of_nonneg_left hd1.1 m0
    omega
theorem zsum_abs {f : Nat → Int} {B : Int} : ∀ k, (∀ i, i < k → -B ≤ f i ∧ f i ≤ B) → -(k * B) ≤ zsum k f ∧ zsum k f ≤ k * B
  | 0, _ => by
    have e : zsum 0 f = 0 := rfl
    rw [e]
    simp
  | k + 1, h => by
    have ih := zsum_abs (f := f) (B := B) k (fun i hi => h i (by omega))
    have hk := h k (by omega)
    have e : zsum (k + 1) f = zsum k f + f k := rfl
    have e2 : ((k + 1 : Nat) : Int) * B = k * B + B := by rw [Int.natCast_add, Int.add_mul]; omega
    rw [e, e2]
    omega
theorem xSix (h : zInv W M) {p : Nat} (hp : p < (W 6).toNat) : lX_sixthsOfShare (p : Int) M = some (zsum (W 7).toNat (fun k => zSix p (zeP (zE0 W) k))) := by
  obtain ⟨b1, b2, b3, b4, b5, b6, b7, b8⟩ := xB h
  refine zS_eq ?_
  unfold lX_sixthsOfShare
  refine loopI (fun m i (a : Int) => lX_sixthsOfShare_c4 (p : Int) M m a (i : Int)) (fun i a => a = zsum i (fun k => zSix p (zeP (zE0 W) k))) (a0 := 0) 0 (W 7).toNat (by omega) rfl ?_ ?_ zN (zN_gt (by omega))
  · intro m i a _ hi ha k
    obtain ⟨q1, q2, q3, q4⟩ := xParty h hi
    have hb := zsum_le (n := (W 7).toNat) (f := fun k => zSix p (zeP (zE0 W) k)) (B := 3) (fun k _ => by
      show 0 ≤ zSix p (zeP (zE0 W) k) ∧ zSix p (zeP (zE0 W) k) ≤ 3
      unfold zSix
      split
      · split <;> omega
      · omega) (by decide) i (by omega)
    have e : zsum (i + 1) (fun k => zSix p (zeP (zE0 W) k)) = zsum i (fun k => zSix p (zeP (zE0 W) k)) + zSix p (zeP (zE0 W) i) := rfl
    show zS (lX_sixthsOfShare_c4 (p : Int) M (m + 1) a (i : Int)) _
    rw [lX_sixthsOfShare_c4]
    refine zS_it (by omega) ?_
    refine zS_b (rdI_n sh_12 (by omega)) ?_
    rw [q1, zbit_nat (by omega) (by omega), w1 (by omega), ha]
    unfold zSix at e
    by_cases hb2 : (zeP (zE0 W) i).testBit p = true
    · rw [if_pos hb2, if_neg (by decide)]
      rw [if_pos hb2] at e
      refine zS_b (lJ_bitCount_eq (by omega)) ?_
      by_cases h2 : zpc 12 (zeP (zE0 W) i) = 2
      · rw [if_pos h2, w32_eq (by omega) (by omega)]
        rw [if_pos h2] at e
        exact k _ e.symm
      · rw [if_neg h2, w32_eq (by omega) (by omega)]
        rw [if_neg h2] at e
        exact k _ e.symm
    · rw [if_neg hb2, if_pos rfl]
      rw [if_neg hb2, Int.add_zero] at e
      exact k _ e.symm
  · intro m a ha
    show zS (lX_sixthsOfShare_c4 (p : Int) M (m + 1) a ((W 7).toNat : Int)) _
    rw [lX_sixthsOfShare_c4]
    refine zS_ie (by omega) ?_
    exact zS_r ha
theorem q_share (h : zInv W M) : zQ0 (lX_share x y M) (lm_share x y M) := by
  obtain ⟨b1, b2, b3, b4, b5, b6, b7, b8⟩ := xB h
  obtain ⟨u0, u1, _, _, u4, _, u6, u7, _, _, _, _, _, _, _, ucon, _⟩ := h.2.1
  have hok := zE0_ok h.2.1
  have hX : ∀ p, 0 ≤ zsum (W 7).toNat (fun k => zSix p (zeP (zE0 W) k)) ∧ zsum (W 7).toNat (fun k => zSix p (zeP (zE0 W) k)) ≤ 18 := fun p => by
    have hb := zsum_le (n := (W 7).toNat) (f := fun k => zSix p (zeP (zE0 W) k)) (B := 3) (fun k _ => by
      show 0 ≤ zSix p (zeP (zE0 W) k) ∧ zSix p (zeP (zE0 W) k) ≤ 3
      unfold zSix
      split
      · split <;> omega
      · omega) (by decide) (W 7).toNat (Nat.le_refl _)
    omega
  refine ⟨if (0 ≤ x ∧ x < W 6) ∧ (0 ≤ y ∧ y ≤ 1) then w32 (zLT (zsum (W 7).toNat (fun k => zSix x.toNat (zeP (zE0 W) k))).toNat 6 y) else -2, ?_, ?_⟩
  · refine zX_g (xName h) (fun c1 => ?_) (fun c1 => (if_neg (fun q => c1 q.1)).symm)
    by_cases h1 : y < 0
    · rw [if_pos h1, if_neg (by omega)]; exact zS_r rfl
    · rw [if_neg h1]
      by_cases h2 : 1 < y
      · rw [if_pos h2, if_neg (by omega)]; exact zS_r rfl
      · rw [if_neg h2, if_pos ⟨c1, by omega⟩]
        obtain ⟨p, rfl⟩ : ∃ p : Nat, x = (p : Int) := ⟨x.toNat, by omega⟩
        rw [Int.toNat_natCast]
        refine zS_b (xSix h (by omega)) ?_
        have hXp := hX p
        obtain ⟨X, eX⟩ : ∃ X : Nat, zsum (W 7).toNat (fun k => zSix p (zeP (zE0 W) k)) = (X : Int) := ⟨(zsum (W 7).toNat (fun k => zSix p (zeP (zE0 W) k))).toNat, by omega⟩
        rw [eX, Int.toNat_natCast]
        have h40 : (2 : Nat) ^ 40 = 1099511627776 := by decide
        refine zS_b (xLow (b := 6) (by omega) (by omega) (by omega)) ?_
        exact zS_r rfl
  · refine zX_g (mName h.2.1 h.1) (fun c1 => zX_g lm_in_eq (fun c2 => ?_) (fun c2 => (if_neg (fun q => c2 q.2)).symm)) (fun c1 => (if_neg (fun q => c1 q.1)).symm)
    rw [if_pos ⟨c1, c2⟩]
    obtain ⟨p, rfl⟩ : ∃ p : Nat, x = (p : Int) := ⟨x.toNat, by omega⟩
    rw [Int.toNat_natCast]
    refine zS_b lm_names_eq ?_
    rw [h.1]
    obtain ⟨n, hn⟩ : ∃ n : Nat, W 6 = (n : Int) := ⟨(W 6).toNat, by omega⟩
    have hn2 : (W 6).toNat = n := by omega
    obtain ⟨p1, p2⟩ := xPow h
    rw [hn2] at p1 p2
    rw [hn] at p1
    rw [hn]
    have hp : p < n := by omega
    have hn5 : n ≤ 5 := by omega
    refine loopI (fun m i (a : Int) => lm_share_c32 (p : Int) y M m (n : Int) a (i : Int)) (fun i a => a = zsum i (zTerm (zE0 W) n p)) (a0 := 0) 0 (2 ^ n) (Nat.zero_le _) rfl ?_ ?_ zN (zN_gt (by omega))
    · intro m i a _ hi ha k
      have hS := zsum_abs (f := zTerm (zE0 W) n p) (B := 86400) i (fun j hj => zTerm_b hok hn5 hp (by omega))
      have hT := zTerm_b hok (n := n) (p := p) (t := i) hn5 hp hi
      have e : zsum (i + 1) (zTerm (zE0 W) n p) = zsum i (zTerm (zE0 W) n p) + zTerm (zE0 W) n p i := rfl
      show zS (lm_share_c32 (p : Int) y M (m + 1) (n : Int) a (i : Int)) _
      rw [lm_share_c32]
      refine zS_it (by rw [p1]; omega) ?_
      refine zS_b (lm_bit_eq (by omega) (by omega)) ?_
      rw [w1 (by omega)]
      by_cases hb : i.testBit p = true
      · rw [if_pos hb, if_neg (by decide)]
        refine k _ ?_
        rw [e, ha]
        unfold zTerm
        rw [if_pos hb, Int.add_zero]
      · rw [if_neg hb, if_pos rfl]
        have hz := zpcp hn5 hp hi (by simpa using hb)
        have hz0 := (zpc_b (t := i) 12).1
        have h12 : (2 : Nat) ^ 5 ≤ 2 ^ 12 := by decide
        have hbits : lm_bits (i : Int) M = some (((zpc 12 i).toNat : Nat) : Int) := by
          rw [lm_bits_eq (by omega), zpc_up (k := 12) (by omega) 8]
          congr 1
          omega
        refine zS_b hbits ?_
        refine zS_b (mFac (by omega)) ?_
        refine zS_b hbits ?_
        have ew : w32 (w32 ((n : Int) - 1) - (((zpc 12 i).toNat : Nat) : Int)) = ((n - 1 - (zpc 12 i).toNat : Nat) : Int) := by
          simp (disch := omega) only [w32_eq]
          omega
        rw [ew]
        refine zS_b (mFac (by omega)) ?_
        rw [zor_bit1 (by omega) (by omega)]
        have hor : i ||| (1 <<< p) < 2 ^ 5 := Nat.lt_of_lt_of_le (zor_bit1_lt (m := n) hi hp) (Nat.pow_le_pow_right (by decide) hn5)
        refine zS_b (mWorth h (by omega)) ?_
        refine zS_b (mWorth h (by omega)) ?_
        have f1 := zFac_b (k := (zpc 12 i).toNat) (by omega)
        have f2 := zFac_b (k := n - 1 - (zpc 12 i).toNat) (by omega)
        have a1 := zWth_b2 hok (t := i ||| (1 <<< p))
        have a2 := zWth_b2 hok (t := i)
        have m1 := Int.mul_le_mul f1.2 f2.2 (by omega) (by decide)
        have m0 : 0 ≤ zFac (zpc 12 i).toNat * zFac (n - 1 - (zpc 12 i).toNat) := Int.mul_nonneg (by omega) (by omega)
        have eT : zFac (zpc 12 i).toNat * zFac (n - 1 - (zpc 12 i).toNat) * (zWth (zE0 W) (i ||| (1 <<< p)) - zWth (zE0 W) i) = zTerm (zE0 W) n p i := by
          unfold zTerm
          rw [if_neg hb]
        rw [w32_eq (x := zFac (zpc 12 i).toNat * zFac (n - 1 - (zpc 12 i).toNat)) (by omega) (by omega), w32_eq (x := zWth (zE0 W) (i ||| (1 <<< p)) - zWth (zE0 W) i) (by omega) (by omega), eT, w32_eq (x := zTerm (zE0 W) n p i) (by omega) (by omega), ha, w32_eq (by omega) (by omega)]
        exact k _ e.symm
    · intro m a ha
      have hfn := zFac_b hn5
      show zS (lm_share_c32 (p : Int) y M (m + 1) (n : Int) a ((2 ^ n : Nat) : Int)) _
      rw [lm_share_c32]
      refine zS_ie (by rw [p1]; omega) ?_
      refine zS_b (mFac hn5) ?_
      have hXp := hX p
      obtain ⟨X, eX⟩ : ∃ X : Nat, zsum (W 7).toNat (fun k => zSix p (zeP (zE0 W) k)) = (X : Int) := ⟨(zsum (W 7).toNat (fun k => zSix p (zeP (zE0 W) k))).toNat, by omega⟩
      have key : 6 * a = zFac n * (X : Int) := by
        rw [ha, zTerm_sum, ← eX, zsum_mul, zsum_mul]
        refine zsum_congr (fun k hk => ?_)
        obtain ⟨t, et, ht, hz⟩ := ucon k hk
        have eP : zeP (zE0 W) k = t := by
          show (W (102 + k)).toNat = t
          rw [et]
          rfl
        rw [eP]
        exact zShC_eq hn5 hp (by rw [hn2] at ht; exact ht) hz
      have hnn : zFac n = 1 ∨ zFac n = 2 ∨ zFac n = 6 ∨ zFac n = 24 ∨ zFac n = 120 := by
        have hc : n = 1 ∨ n = 2 ∨ n = 3 ∨ n = 4 ∨ n = 5 := by omega
        rcases hc with rfl | rfl | rfl | rfl | rfl <;> decide
      have ha0 : 0 ≤ a ∧ a < 400 := by
        rcases hnn with q | q | q | q | q <;> rw [q] at key <;> omega
      obtain ⟨S, eS⟩ : ∃ S : Nat, a = (S : Int) := ⟨a.toNat, by omega⟩
      obtain ⟨F, eF⟩ : ∃ F : Nat, zFac n = (F : Int) := ⟨(zFac n).toNat, by omega⟩
      have h40 : (2 : Nat) ^ 40 = 1099511627776 := by decide
      rw [eS, eF]
      refine zS_b (mLow (by omega) (by omega) (by omega)) ?_
      refine zS_r ?_
      have q := zLT_eq (n := n) (x := X) (s := S) (w := y) hn5 (by omega) (by omega) (by rw [← eS]; exact key) (by omega)
      rw [eF, Int.toNat_natCast] at q
      rw [q, eX, Int.toNat_natCast]
end ZSH
