/-! Bits of small sets. -/
theorem zN_toInt {a : Nat} (h : a < 2147483648) : (Int32.ofInt (a : Int)).toInt = (a : Int) := w32_eq (by omega) (by omega)
theorem zbv (a : Nat) : (Int32.ofInt (a : Int)).toBitVec = BitVec.ofNat 32 a := by
  show BitVec.ofInt 32 (a : Int) = BitVec.ofNat 32 a
  exact BitVec.ofInt_natCast 32 a
theorem zi_of_bv {x : Int32} {n : Nat} (h : n < 2147483648) (e : x.toBitVec = BitVec.ofNat 32 n) : x.toInt = (n : Int) := by
  have e1 : x = Int32.ofInt (n : Int) := by
    rw [← Int32.toBitVec_inj, zbv]
    exact e
  rw [e1]
  exact zN_toInt h
theorem zand_nat {a b : Nat} (ha : a < 2147483648) : zand (a : Int) (b : Int) = ((a &&& b : Nat) : Int) := by
  unfold zand zbi
  refine zi_of_bv (Nat.lt_of_le_of_lt Nat.and_le_left ha) ?_
  show (Int32.ofInt (a : Int) &&& Int32.ofInt (b : Int)).toBitVec = _
  rw [Int32.toBitVec_and, zbv, zbv]
  exact (BitVec.ofNat_and).symm
theorem zor_nat {a b : Nat} (ha : a < 2147483648) (hb : b < 2147483648) : zor (a : Int) (b : Int) = ((a ||| b : Nat) : Int) := by
  unfold zor zbi
  refine zi_of_bv (Nat.or_lt_two_pow (n := 31) ha hb) ?_
  show (Int32.ofInt (a : Int) ||| Int32.ofInt (b : Int)).toBitVec = _
  rw [Int32.toBitVec_or, zbv, zbv]
  exact (BitVec.ofNat_or).symm
theorem zsh_amt {k : Nat} (hk : k < 32) : (Int32.ofInt (k : Int) &&& 31) = Int32.ofInt (k : Int) := by
  rw [← Int32.toBitVec_inj, Int32.toBitVec_and, zbv]
  have e : (31 : Int32).toBitVec = BitVec.ofNat 32 31 := by decide
  rw [e, ← BitVec.ofNat_and]
  have e2 : k &&& 31 = k := by
    have h := Nat.and_two_pow_sub_one_of_lt_two_pow (x := k) (n := 5) hk
    exact h
  rw [e2]
theorem zsm : ∀ k : Fin 32, (BitVec.ofNat 32 k.val).smod 32 = BitVec.ofNat 32 k.val := by decide
theorem zshl_nat {a k : Nat} (hk : k < 32) (h : a <<< k < 2147483648) : zshl (a : Int) (k : Int) = ((a <<< k : Nat) : Int) := by
  unfold zshl zbi
  refine zi_of_bv h ?_
  show (Int32.ofInt (a : Int) <<< (Int32.ofInt (k : Int) &&& 31)).toBitVec = _
  rw [zsh_amt hk, Int32.toBitVec_shiftLeft, zbv, zbv, zsm ⟨k, hk⟩]
  apply BitVec.eq_of_toNat_eq
  have e : k % 4294967296 = k := Nat.mod_eq_of_lt (by omega)
  have e2 : a <<< k % 4294967296 = a <<< k := Nat.mod_eq_of_lt (by omega)
  simp only [BitVec.shiftLeft_eq', BitVec.toNat_shiftLeft, BitVec.toNat_ofNat]
  show (a % 4294967296) <<< (k % 4294967296) % 4294967296 = a <<< k % 4294967296
  have ha : a ≤ a <<< k := Nat.le_shiftLeft
  rw [e, Nat.mod_eq_of_lt (show a < 4294967296 by omega)]
theorem zshr_nat {a k : Nat} (hk : k < 32) (h : a < 2147483648) : zshr (a : Int) (k : Int) = ((a >>> k : Nat) : Int) := by
  unfold zshr zbi
  refine zi_of_bv (Nat.lt_of_le_of_lt (Nat.shiftRight_le a k) h) ?_
  show (Int32.ofInt (a : Int) >>> (Int32.ofInt (k : Int) &&& 31)).toBitVec = _
  rw [zsh_amt hk, Int32.toBitVec_shiftRight, zbv, zbv, zsm ⟨k, hk⟩]
  have hm : (BitVec.ofNat 32 a).msb = false := by
    rw [BitVec.msb_eq_false_iff_two_mul_lt, BitVec.toNat_ofNat]
    have e : a % 2 ^ 32 = a := Nat.mod_eq_of_lt (by omega)
    omega
  show (BitVec.ofNat 32 a).sshiftRight (BitVec.ofNat 32 k).toNat = _
  rw [BitVec.sshiftRight_eq_of_msb_false hm]
  apply BitVec.eq_of_toNat_eq
  have e : k % 4294967296 = k := Nat.mod_eq_of_lt (by omega)
  simp only [BitVec.toNat_ushiftRight, BitVec.toNat_ofNat]
  show (a % 4294967296) >>> (k % 4294967296) = a >>> k % 4294967296
  have ha : a >>> k ≤ a := Nat.shiftRight_le a k
  rw [e, Nat.mod_eq_of_lt (show a < 4294967296 by omega), Nat.mod_eq_of_lt (show a >>> k < 4294967296 by omega)]
theorem zandn_nat {a b : Nat} (ha : a < 2147483648) : zand (a : Int) (zxor (b : Int) (-1)) = ((a &&& (b ^^^ 4294967295) : Nat) : Int) := by
  unfold zand zxor zbi
  refine zi_of_bv (Nat.lt_of_le_of_lt Nat.and_le_left ha) ?_
  show (Int32.ofInt (a : Int) &&& Int32.ofInt (Int32.ofInt (b : Int) ^^^ Int32.ofInt (-1)).toInt).toBitVec = _
  rw [Int32.ofInt_toInt, Int32.toBitVec_and, Int32.toBitVec_xor, zbv, zbv]
  have e : (Int32.ofInt (-1)).toBitVec = BitVec.ofNat 32 4294967295 := by decide
  rw [e, BitVec.ofNat_and, BitVec.ofNat_xor]
/-- the bit of a small set -/
theorem zbit_nat {a k : Nat} (hk : k < 32) (h : a < 2147483648) : zand (zshr (a : Int) (k : Int)) 1 = if a.testBit k then 1 else 0 := by
  have h1 : a >>> k ≤ a := Nat.shiftRight_le a k
  rw [zshr_nat hk h]
  have e : zand ((a >>> k : Nat) : Int) ((1 : Nat) : Int) = ((a >>> k &&& 1 : Nat) : Int) := zand_nat (by omega)
  have e1 : ((1 : Nat) : Int) = 1 := rfl
  rw [e1] at e
  rw [e, Nat.and_one_is_mod]
  have e2 : a.testBit k = decide (a >>> k % 2 = 1) := by
    rw [Nat.testBit_eq_decide_div_mod_eq, Nat.shiftRight_eq_div_pow]
  rw [e2]
  by_cases hz : a >>> k % 2 = 1
  · rw [hz]; rfl
  · have h0 : a >>> k % 2 = 0 := by omega
    rw [h0]; rfl
