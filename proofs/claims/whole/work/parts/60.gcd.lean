/-! Lowest terms. -/
theorem zb64v (a : Nat) (h : a < 9223372036854775808) : (Int64.ofInt (a : Int)).toInt = (a : Int) := w64_eq (by omega) (by omega)
theorem zdiv64_nat {a b : Nat} (ha : a < 9223372036854775808) (hb : b < 9223372036854775808) : Int64.ofInt (a : Int) / Int64.ofInt (b : Int) = Int64.ofInt ((a / b : Nat) : Int) := by
  have hle : a / b ≤ a := Nat.div_le_self a b
  rw [← Int64.toInt_inj, zb64v _ (show a / b < 9223372036854775808 by omega), Int64.toInt_div, zb64v a ha, zb64v b hb]
  have e := zb64v _ (show a / b < 9223372036854775808 by omega)
  rw [Int64.toInt_ofInt] at e
  exact e
theorem zremL_nat {a b : Nat} (ha : a < 9223372036854775808) (hb : b < 9223372036854775808) : zremL (a : Int) (b : Int) = ((a % b : Nat) : Int) := by
  have hm : a % b ≤ a := Nat.mod_le a b
  unfold zremL zbl
  show (Int64.ofInt (a : Int) - Int64.ofInt (a : Int) / Int64.ofInt (b : Int) * Int64.ofInt (b : Int)).toInt = _
  rw [zdiv64_nat ha hb, ← Int64.ofInt_mul, ← Int64.ofInt_sub]
  have e : (a : Int) - ((a / b : Nat) : Int) * (b : Int) = ((a % b : Nat) : Int) := by
    have h := Nat.div_add_mod a b
    have h2 : (((b * (a / b) + a % b : Nat)) : Int) = (a : Int) := by rw [h]
    rw [Int.natCast_add, Int.natCast_mul, Int.mul_comm] at h2
    omega
  rw [e, zb64v _ (by omega)]
theorem zdivL_nat {a b : Nat} (ha : a < 9223372036854775808) (hb : b < 9223372036854775808) : zdivL (a : Int) (b : Int) = ((a / b : Nat) : Int) := by
  have hle : a / b ≤ a := Nat.div_le_self a b
  unfold zdivL zbl
  show (Int64.ofInt (a : Int) / Int64.ofInt (b : Int)).toInt = _
  rw [zdiv64_nat ha hb, zb64v _ (by omega)]
section ZGC
variable {M : Nat → Nat → Int} {x0 x2 : Int}
theorem mod_half {b r : Nat} (h0 : 0 < r) (hr : r < b) : 2 * (b % r) < b := by
  have h1 : b % r < r := Nat.mod_lt _ h0
  have h2 : b % r ≤ b - r := by
    rw [Nat.mod_eq_sub_mod (by omega)]
    exact Nat.mod_le _ _
  omega
theorem xGcd : ∀ (j a b i fuel : Nat), a < 9223372036854775808 → b < 2 ^ j → j ≤ 62 → i + 2 * j + 1 ≤ 200 → 2 * j + 2 ≤ fuel → lX_commonMeasure_c9 x0 x2 M fuel (a : Int) (b : Int) (i : Int) = some ((Nat.gcd b a : Nat) : Int)
  | 0, a, b, i, fuel, ha, hb, hj, hi, hf => by
    obtain ⟨f, rfl⟩ : ∃ f, fuel = f + 1 := ⟨fuel - 1, by omega⟩
    have hb : b = 0 := by omega
    subst hb
    rw [lX_commonMeasure_c9, if_pos (by omega), if_neg (by omega), Nat.gcd_zero_left]
  | j + 1, a, b, i, fuel, ha, hb, hj, hi, hf => by
    obtain ⟨f, rfl⟩ : ∃ f, fuel = f + 2 := ⟨fuel - 2, by omega⟩
    have hp : (2 : Nat) ^ (j + 1) ≤ 2 ^ 62 := Nat.pow_le_pow_right (by decide) hj
    have h62 : (2 : Nat) ^ 62 = 4611686018427387904 := by decide
    have hps : (2 : Nat) ^ (j + 1) = 2 ^ j * 2 := Nat.pow_succ 2 j
    by_cases h0 : b = 0
    · subst h0
      rw [lX_commonMeasure_c9, if_pos (by omega), if_neg (by omega), Nat.gcd_zero_left]
    · have hm : a % b < b := Nat.mod_lt _ (by omega)
      rw [lX_commonMeasure_c9, if_pos (by omega), if_pos (by omega), if_neg (by omega), zremL_nat ha (by omega), w1 (by omega)]
      by_cases h1 : a % b = 0
      · rw [lX_commonMeasure_c9, if_pos (by omega), if_neg (by omega)]
        rw [Nat.gcd_rec b a, h1, Nat.gcd_zero_left]
      · rw [lX_commonMeasure_c9, if_pos (by omega), if_pos (by omega), if_neg (by omega), zremL_nat (by omega) (by omega), w1 (by omega)]
        have hh := mod_half (b := b) (r := a % b) (by omega) hm
        have ih := xGcd j (a % b) (b % (a % b)) (i + 1 + 1) f (by omega) (by omega) (by omega) (by omega) (by omega)
        rw [ih, Nat.gcd_rec b a, Nat.gcd_rec (a % b) b]
theorem mGcd : ∀ (j a b fuel : Nat), a < 9223372036854775808 → b < 2 ^ j → j ≤ 62 → 2 * j + 2 ≤ fuel → lm_divisor_c9 x0 x2 M fuel (a : Int) (b : Int) = some ((Nat.gcd b a : Nat) : Int)
  | 0, a, b, fuel, ha, hb, hj, hf => by
    obtain ⟨f, rfl⟩ : ∃ f, fuel = f + 1 := ⟨fuel - 1, by omega⟩
    have hb : b = 0 := by omega
    subst hb
    rw [lm_divisor_c9, if_pos (show ((0 : Nat) : Int) = 0 from rfl), Nat.gcd_zero_left]
  | j + 1, a, b, fuel, ha, hb, hj, hf => by
    obtain ⟨f, rfl⟩ : ∃ f, fuel = f + 2 := ⟨fuel - 2, by omega⟩
    have hp : (2 : Nat) ^ (j + 1) ≤ 2 ^ 62 := Nat.pow_le_pow_right (by decide) hj
    have h62 : (2 : Nat) ^ 62 = 4611686018427387904 := by decide
    have hps : (2 : Nat) ^ (j + 1) = 2 ^ j * 2 := Nat.pow_succ 2 j
    by_cases h0 : b = 0
    · subst h0
      rw [lm_divisor_c9, if_pos (show ((0 : Nat) : Int) = 0 from rfl), Nat.gcd_zero_left]
    · have hm : a % b < b := Nat.mod_lt _ (by omega)
      rw [lm_divisor_c9, if_neg (by omega), if_neg (by omega), zremL_nat ha (by omega)]
      by_cases h1 : a % b = 0
      · rw [lm_divisor_c9, if_pos (by omega), Nat.gcd_rec b a, h1, Nat.gcd_zero_left]
      · rw [lm_divisor_c9, if_neg (by omega), if_neg (by omega), zremL_nat (by omega) (by omega)]
        have hh := mod_half (b := b) (r := a % b) (by omega) hm
        have ih := mGcd j (a % b) (b % (a % b)) f (by omega) (by omega) (by omega) (by omega)
        rw [ih, Nat.gcd_rec b a, Nat.gcd_rec (a % b) b]
/-- above or below in lowest terms -/
def zLT (a b : Nat) (w : Int) : Int := (((if w = 0 then a else b) / Nat.gcd a b : Nat) : Int)
theorem xLow {a b : Nat} {w : Int} (ha : a < 2 ^ 40) (hb : b < 2 ^ 40) (h0 : 0 < b) : lX_inLowestTerms (a : Int) (b : Int) w M = some (zLT a b w) := by
  have h40 : (2 : Nat) ^ 40 = 1099511627776 := by decide
  have hg : Nat.gcd a b ≤ b := Nat.gcd_le_right a h0
  have hg0 : 0 < Nat.gcd a b := Nat.gcd_pos_of_pos_right a h0
  refine zS_eq ?_
  unfold lX_inLowestTerms
  refine zS_b (xGcd 40 b a 0 zN (by omega) ha (by omega) (by omega) (by decide)) ?_
  rw [if_pos (by omega)]
  unfold zLT
  by_cases hw : w = 0
  · rw [if_pos hw, if_pos hw, if_neg (by omega), zdivL_nat (by omega) (by omega)]
    exact zS_r rfl
  · rw [if_neg hw, if_neg hw, if_neg (by omega), zdivL_nat (by omega) (by omega)]
    exact zS_r rfl
theorem mLow {a b : Nat} {w : Int} (ha : a < 2 ^ 40) (hb : b < 2 ^ 40) (h0 : 0 < b) : lm_part (a : Int) (b : Int) w M = some (zLT a b w) := by
  have h40 : (2 : Nat) ^ 40 = 1099511627776 := by decide
  have hg : Nat.gcd a b ≤ b := Nat.gcd_le_right a h0
  have hg0 : 0 < Nat.gcd a b := Nat.gcd_pos_of_pos_right a h0
  have hd : lm_divisor (a : Int) (b : Int) M = some ((Nat.gcd a b : Nat) : Int) := by
    unfold lm_divisor
    have e : zabs (a : Int) = (a : Int) := by
      unfold zabs
      by_cases hz : 0 < (a : Int)
      · rw [if_pos hz]
      · have ha0 : a = 0 := by omega
        subst ha0
        rw [if_neg hz]
        decide
    rw [e, Nat.gcd_comm]
    exact mGcd 40 a b zN (by omega) hb (by omega) (by decide)
  refine zS_eq ?_
  unfold lm_part zLT
  by_cases hw : w = 0
  · rw [if_pos hw, if_pos hw]
    refine zS_b hd ?_
    rw [if_neg (by omega), zdivL_nat (by omega) (by omega)]
    exact zS_r rfl
  · rw [if_neg hw, if_neg hw]
    refine zS_b hd ?_
    rw [if_neg (by omega), zdivL_nat (by omega) (by omega)]
    exact zS_r rfl
end ZGC
/-! Sums over all rains. -/
theorem zsum_two {h : Nat → Int} : ∀ N, zsum (2 * N) h = zsum N (fun i => h (2 * i) + h (2 * i + 1))
  | 0 => rfl
  | N + 1 => by
    have ih := zsum_two (h := h) N
    have e1 : zsum (2 * (N + 1)) h = zsum (2 * N) h + h (2 * N) + h (2 * N + 1) := rfl
    have e2 : zsum (N + 1) (fun i => h (2 * i) + h (2 * i + 1)) = zsum N (fun i => h (2 * i) + h (2 * i + 1)) + (h (2 * N) + h (2 * N + 1)) := rfl
    rw [e1, e2, ih]
    omega
theorem zsum_add {f g : Nat → Int} : ∀ N, zsum N (fun i => f i + g i) = zsum N f + zsum N g
  | 0 => rfl
  | N + 1 => by
    have ih := zsum_add (f := f) (g := g) N
    have e1 : zsum (N + 1) (fun i => f i + g i) = zsum N (fun i => f i + g i) + (f N + g N) := rfl
    have e2 : zsum (N + 1) f = zsum N f + f N := rfl
    have e3 : zsum (N + 1) g = zsum N g + g N := rfl
    rw [e1, e2, e3, ih]
    omega
/-- the weight of rain, of none -/
def zpr (od : Int) (b : Bool) : Int := if b = true then od else 10 - od
def zRT (E : zE) (od : Int) (f : zD → Int) : Nat → Nat → zD → Int → (Nat → Bool) → Int
  | 0, _, s, w, _ => w * f s
  | k + 1, n, s, w, r => zRT E od f k (n + 1) (zdNx E n (r n) s) (w * zpr od (r n)) r
def zRS (E : zE) (od : Int) (f : zD → Int) : Nat → Nat → zD → Int → Int
  | 0, _, s, w => w * f s
  | k + 1, n, s, w => zRS E od f k (n + 1) (zdNx E n false s) (w * (10 - od)) + zRS E od f k (n + 1) (zdNx E n true s) (w * od)
theorem zRT_cg {E : zE} {od : Int} {f : zD → Int} {r r' : Nat → Bool} : ∀ k n s w, (∀ m, n ≤ m → m < n + k → r m = r' m) → zRT E od f k n s w r = zRT E od f k n s w r'
  | 0, _, _, _, _ => rfl
  | k + 1, n, s, w, h => by
    have e : r n = r' n := h n (by omega) (by omega)
    show zRT E od f k (n + 1) (zdNx E n (r n) s) (w * zpr od (r n)) r = zRT E od f k (n + 1) (zdNx E n (r' n) s) (w * zpr od (r' n)) r'
    rw [e]
    exact zRT_cg k (n + 1) _ _ (fun m h1 h2 => h m (by omega) (by omega))
theorem tb_even {i m : Nat} : (2 * i).testBit (m + 1) = i.testBit m := by
  rw [Nat.testBit_succ]
  congr 1
  omega
theorem tb_odd {i m : Nat} : (2 * i + 1).testBit (m + 1) = i.testBit m := by
  rw [Nat.testBit_succ]
  congr 1
  omega
theorem zRS_sum {E : zE} {od : Int} {f : zD → Int} : ∀ k n s w, zsum (2 ^ k) (fun i => zRT E od f k n s w (fun m => i.testBit (m - n))) = zRS E od f k n s w
  | 0, n, s, w => by
    show (0 : Int) + w * f s = w * f s
    omega
  | k + 1, n, s, w => by
    have e2 : 2 ^ (k + 1) = 2 * 2 ^ k := by rw [Nat.pow_succ, Nat.mul_comm]
    rw [e2, zsum_two, zsum_add]
    have h0 : ∀ i, zRT E od f (k + 1) n s w (fun m => (2 * i).testBit (m - n)) = zRT E od f k (n + 1) (zdNx E n false s) (w * (10 - od)) (fun m => i.testBit (m - (n + 1))) := fun i => by
      have eb : (2 * i).testBit (n - n) = false := by
        rw [Nat.sub_self, Nat.testBit_zero]
        exact decide_eq_false (by omega)
      show zRT E od f k (n + 1) (zdNx E n ((2 * i).testBit (n - n)) s) (w * zpr od ((2 * i).testBit (n - n))) _ = _
      rw [eb]
      refine zRT_cg k (n + 1) _ _ (fun m h1 h2 => ?_)
      have em : m - n = (m - (n + 1)) + 1 := by omega
      rw [em]
      exact tb_even
    have h1 : ∀ i, zRT E od f (k + 1) n s w (fun m => (2 * i + 1).testBit (m - n)) = zRT E od f k (n + 1) (zdNx E n true s) (w * od) (fun m => i.testBit (m - (n + 1))) := fun i => by
      have eb : (2 * i + 1).testBit (n - n) = true := by
        rw [Nat.sub_self, Nat.testBit_zero]
        exact decide_eq_true (by omega)
      show zRT E od f k (n + 1) (zdNx E n ((2 * i + 1).testBit (n - n)) s) (w * zpr od ((2 * i + 1).testBit (n - n))) _ = _
      rw [eb]
      refine zRT_cg k (n + 1) _ _ (fun m h1 h2 => ?_)
      have em : m - n = (m - (n + 1)) + 1 := by omega
      rw [em]
      exact tb_odd
    rw [zsum_congr (fun i _ => h0 i), zsum_congr (fun i _ => h1 i), zRS_sum k, zRS_sum k]
    rfl
/-- a run through steps n, .., with rain told by r -/
def zRun (E : zE) : Nat → Nat → zD → (Nat → Bool) → zD
  | 0, _, s, _ => s
  | k + 1, n, s, r => zRun E k (n + 1) (zdNx E n (r n) s) r
def zWt (od : Int) : Nat → Nat → Int → (Nat → Bool) → Int
  | 0, _, w, _ => w
  | k + 1, n, w, r => zWt od k (n + 1) (w * zpr od (r n)) r
theorem zRT_eq {E : zE} {od : Int} {f : zD → Int} {r : Nat → Bool} : ∀ k n s w, zRT E od f k n s w r = zWt od k n w r * f (zRun E k n s r)
  | 0, _, _, _ => rfl
  | k + 1, n, s, w => zRT_eq k (n + 1) _ _
theorem zWt_e {od : Int} {r : Nat → Bool} : ∀ k n w, zWt od (k + 1) n w r = zWt od k n w r * zpr od (r (n + k))
  | 0, _, _ => rfl
  | k + 1, n, w => by
    have ih := zWt_e (od := od) (r := r) k (n + 1) (w * zpr od (r n))
    have e : n + 1 + k = n + (k + 1) := by omega
    rw [e] at ih
    exact ih
theorem zRun_e {E : zE} {r : Nat → Bool} : ∀ k n s, zRun E (k + 1) n s r = zdNx E (n + k) (r (n + k)) (zRun E k n s r)
  | 0, _, _ => rfl
  | k + 1, n, s => by
    have ih := zRun_e (E := E) (r := r) k (n + 1) (zdNx E n (r n) s)
    have e : n + 1 + k = n + (k + 1) := by omega
    rw [e] at ih
    exact ih
theorem zRS_one {E : zE} {od : Int} : ∀ k n s w, zRS E od (fun _ => 1) k n s w = w * 10 ^ k
  | 0, _, _, w => by
    show w * 1 = w * 10 ^ 0
    rw [Int.pow_zero]
  | k + 1, n, s, w => by
    show zRS E od (fun _ => 1) k (n + 1) _ (w * (10 - od)) + zRS E od (fun _ => 1) k (n + 1) _ (w * od) = _
    rw [zRS_one k, zRS_one k, ← Int.add_mul, ← Int.mul_add, Int.pow_succ, Int.mul_assoc]
    congr 1
    rw [show 10 - od + od = (10 : Int) by omega, Int.mul_comm]
theorem zRS_0 {E : zE} {od : Int} {f : zD → Int} : ∀ k n s, zRS E od f k n s 0 = 0
  | 0, _, s => Int.zero_mul (f s)
  | k + 1, n, s => by
    show zRS E od f k (n + 1) _ (0 * (10 - od)) + zRS E od f k (n + 1) _ (0 * od) = 0
    rw [Int.zero_mul, Int.zero_mul, zRS_0 k, zRS_0 k]
    rfl
theorem zRS_b {E : zE} {od : Int} {f : zD → Int} (h0 : 0 ≤ od) (h1 : od ≤ 10) (hf : ∀ s, 0 ≤ f s ∧ f s ≤ 6) : ∀ k n s w, 0 ≤ w → 0 ≤ zRS E od f k n s w ∧ zRS E od f k n s w ≤ w * 10 ^ k * 6
  | 0, _, s, w, hw => by
    have q := hf s
    show 0 ≤ w * f s ∧ w * f s ≤ w * 10 ^ 0 * 6
    rw [Int.pow_zero, Int.mul_one]
    exact ⟨Int.mul_nonneg hw q.1, Int.mul_le_mul_of_nonneg_left q.2 hw⟩
  | k + 1, n, s, w, hw => by
    have i1 := zRS_b (E := E) h0 h1 hf k (n + 1) (zdNx E n false s) (w * (10 - od)) (Int.mul_nonneg hw (by omega))
    have i2 := zRS_b (E := E) h0 h1 hf k (n + 1) (zdNx E n true s) (w * od) (Int.mul_nonneg hw h0)
    show 0 ≤ zRS E od f k (n + 1) _ (w * (10 - od)) + zRS E od f k (n + 1) _ (w * od) ∧ zRS E od f k (n + 1) _ (w * (10 - od)) + zRS E od f k (n + 1) _ (w * od) ≤ w * 10 ^ (k + 1) * 6
    have e : w * 10 ^ (k + 1) * 6 = w * (10 - od) * 10 ^ k * 6 + w * od * 10 ^ k * 6 := by
      rw [← Int.add_mul, ← Int.add_mul, ← Int.mul_add, show 10 - od + od = (10 : Int) by omega, Int.pow_succ, Int.mul_comm (10 ^ k) 10, ← Int.mul_assoc w 10]
    rw [e]
    omega
