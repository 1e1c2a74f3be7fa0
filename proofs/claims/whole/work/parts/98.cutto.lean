/-! A number cut to its width. -/
theorem zshL_b {x y : Int} {k : Nat} (h : ((Int32.ofInt y).toInt64 &&& 63).toBitVec.smod 64 = BitVec.ofNat 64 k) (hk : k < 64) : zshrL (zshlL x y) y = ((BitVec.ofInt 64 x) <<< k).toInt >>> k := by
  have hb : (BitVec.ofNat 64 k).toNat = k := by
    rw [BitVec.toNat_ofNat]
    exact Nat.mod_eq_of_lt (by omega)
  have e1 : (Int64.ofInt x <<< ((Int32.ofInt y).toInt64 &&& 63)).toBitVec = (BitVec.ofInt 64 x) <<< k := by
    rw [Int64.toBitVec_shiftLeft, h, BitVec.shiftLeft_eq', hb]
    rfl
  unfold zshrL zshlL
  rw [Int64.ofInt_toInt, ← Int64.toInt_toBitVec, Int64.toBitVec_shiftRight, e1, h]
  show (BitVec.sshiftRight (BitVec.ofInt 64 x <<< k) (BitVec.ofNat 64 k).toNat).toInt = _
  rw [hb, BitVec.toInt_sshiftRight]
theorem p64 : ((2 ^ 64 : Nat) : Int) = 18446744073709551616 := by decide
theorem zshL_56 {x : Int} : ((BitVec.ofInt 64 x) <<< 56).toInt = Int.bmod (x * 72057594037927936) 18446744073709551616 := by
  have e : BitVec.ofInt 64 x <<< 56 = BitVec.ofInt 64 (x * 72057594037927936) := by
    apply BitVec.eq_of_toNat_eq
    rw [BitVec.toNat_shiftLeft, BitVec.toNat_ofInt, BitVec.toNat_ofInt, Nat.shiftLeft_eq, p64, show (2 : Nat) ^ 56 = 72057594037927936 by decide, show (2 : Nat) ^ 64 = 18446744073709551616 by decide]
    omega
  rw [e, BitVec.toInt_ofInt]
theorem zshL_48 {x : Int} : ((BitVec.ofInt 64 x) <<< 48).toInt = Int.bmod (x * 281474976710656) 18446744073709551616 := by
  have e : BitVec.ofInt 64 x <<< 48 = BitVec.ofInt 64 (x * 281474976710656) := by
    apply BitVec.eq_of_toNat_eq
    rw [BitVec.toNat_shiftLeft, BitVec.toNat_ofInt, BitVec.toNat_ofInt, Nat.shiftLeft_eq, p64, show (2 : Nat) ^ 48 = 281474976710656 by decide, show (2 : Nat) ^ 64 = 18446744073709551616 by decide]
    omega
  rw [e, BitVec.toInt_ofInt]
theorem zshL_32 {x : Int} : ((BitVec.ofInt 64 x) <<< 32).toInt = Int.bmod (x * 4294967296) 18446744073709551616 := by
  have e : BitVec.ofInt 64 x <<< 32 = BitVec.ofInt 64 (x * 4294967296) := by
    apply BitVec.eq_of_toNat_eq
    rw [BitVec.toNat_shiftLeft, BitVec.toNat_ofInt, BitVec.toNat_ofInt, Nat.shiftLeft_eq, p64, show (2 : Nat) ^ 32 = 4294967296 by decide, show (2 : Nat) ^ 64 = 18446744073709551616 by decide]
    omega
  rw [e, BitVec.toInt_ofInt]
theorem w32_b {x : Int} : w32 x = Int.bmod x 4294967296 := by
  unfold w32
  rw [Int32.toInt_ofInt]
theorem zi2b_b {x : Int} : zi2b x = Int.bmod (Int.bmod x 4294967296) 256 := by
  unfold zi2b
  rw [Int8.toInt_toInt32, Int32.toInt_toInt8, Int32.toInt_ofInt]
theorem zi2s_b {x : Int} : zi2s x = Int.bmod (Int.bmod x 4294967296) 65536 := by
  unfold zi2s
  rw [Int16.toInt_toInt32, Int32.toInt_toInt16, Int32.toInt_ofInt]
theorem zcut_0 {x : Int} : zshrL (zshlL x 56) 56 = zi2b (w32 x) := by
  rw [zshL_b (k := 56) (by decide) (by omega), zshL_56, zi2b_b, w32_b, Int.shiftRight_eq_div_pow, show ((2 ^ 56 : Nat) : Int) = 72057594037927936 by decide]
  simp only [Int.bmod_def]
  omega
theorem zcut_1 {x : Int} : zshrL (zshlL x 48) 48 = zi2s (w32 x) := by
  rw [zshL_b (k := 48) (by decide) (by omega), zshL_48, zi2s_b, w32_b, Int.shiftRight_eq_div_pow, show ((2 ^ 48 : Nat) : Int) = 281474976710656 by decide]
  simp only [Int.bmod_def]
  omega
theorem zcut_2 {x : Int} : zshrL (zshlL x 32) 32 = w32 x := by
  rw [zshL_b (k := 32) (by decide) (by omega), zshL_32, w32_b, Int.shiftRight_eq_div_pow, show ((2 ^ 32 : Nat) : Int) = 4294967296 by decide]
  simp only [Int.bmod_def]
  omega
theorem zcut_3 {x : Int} (h0 : -9223372036854775808 ≤ x) (h1 : x ≤ 9223372036854775807) : zshrL (zshlL x 0) 0 = x := by
  rw [zshL_b (k := 0) (by decide) (by omega), Int.shiftRight_zero, BitVec.shiftLeft_zero, BitVec.toInt_ofInt, Int.bmod_def]
  omega
