/-! Reads and writes, cell by cell (written by wip/whole/gen28.py). -/
theorem w32_eq {x : Int} (h0 : -2147483648 ≤ x) (h1 : x ≤ 2147483647) : w32 x = x := w32_id ⟨h0, h1⟩
theorem w64_eq {x : Int} (h0 : -9223372036854775808 ≤ x) (h1 : x ≤ 9223372036854775807) : w64 x = x := w64_id ⟨h0, h1⟩
theorem zin_at {k c n : Nat} {x : Int} (h : zSH[c]? = some (k, n)) (h0 : 0 ≤ x) (h1 : x < (n : Int)) : zin k c x = true := by
  unfold zin
  rw [h]
  exact decide_eq_true ⟨rfl, h0, h1⟩
theorem rdI_at {c n : Nat} {x : Int} {M : Nat → Nat → Int} (h : zSH[c]? = some (0, n)) (h0 : 0 ≤ x) (h1 : x < (n : Int)) : rdI c x M = some (M c x.toNat) := if_pos (zin_at h h0 h1)
theorem rdL_at {c n : Nat} {x : Int} {M : Nat → Nat → Int} (h : zSH[c]? = some (2, n)) (h0 : 0 ≤ x) (h1 : x < (n : Int)) : rdL c x M = some (M c x.toNat) := if_pos (zin_at h h0 h1)
theorem rdB_at1 {c n : Nat} {x : Int} {M : Nat → Nat → Int} (h : zSH[c]? = some (1, n)) (h0 : 0 ≤ x) (h1 : x < (n : Int)) : rdB c x M = some (M c x.toNat) := if_pos (Or.inl (zin_at h h0 h1))
theorem rdB_at3 {c n : Nat} {x : Int} {M : Nat → Nat → Int} (h : zSH[c]? = some (3, n)) (h0 : 0 ≤ x) (h1 : x < (n : Int)) : rdB c x M = some (M c x.toNat) := if_pos (Or.inr (zin_at h h0 h1))
theorem wrI_at {c n : Nat} {x y : Int} {M : Nat → Nat → Int} (h : zSH[c]? = some (0, n)) (h0 : 0 ≤ x) (h1 : x < (n : Int)) : wrI c x y M = some (zup M c x.toNat y) := if_pos (zin_at h h0 h1)
theorem wrL_at {c n : Nat} {x y : Int} {M : Nat → Nat → Int} (h : zSH[c]? = some (2, n)) (h0 : 0 ≤ x) (h1 : x < (n : Int)) : wrL c x y M = some (zup M c x.toNat y) := if_pos (zin_at h h0 h1)
theorem wrB_at1 {c n : Nat} {x y : Int} {M : Nat → Nat → Int} (h : zSH[c]? = some (1, n)) (h0 : 0 ≤ x) (h1 : x < (n : Int)) : wrB c x y M = some (zup M c x.toNat (zi2b y)) := if_pos (zin_at h h0 h1)
theorem wrB_at3 {c n : Nat} {x y : Int} {M : Nat → Nat → Int} (h : zSH[c]? = some (3, n)) (h0 : 0 ≤ x) (h1 : x < (n : Int)) (hy : y = 0 ∨ y = 1) : wrB c x y M = some (zup M c x.toNat y) := by
  have hz : ¬ (zin 1 c x = true) := by
    intro e
    obtain ⟨m, e1, _⟩ := zin_of e
    rw [h] at e1
    cases e1
  unfold wrB
  rw [if_neg hz, if_pos ⟨zin_at h h0 h1, hy⟩]
theorem sh_2 : zSH[2]? = some (0, 900) := by decide +kernel
theorem rdI_2 {x : Int} {M : Nat → Nat → Int} (h0 : 0 ≤ x) (h1 : x < 900) : rdI 2 x M = some (M 2 x.toNat) := rdI_at sh_2 h0 h1
theorem wrI_2 {x y : Int} {M : Nat → Nat → Int} (h0 : 0 ≤ x) (h1 : x < 900) : wrI 2 x y M = some (zup M 2 x.toNat y) := wrI_at sh_2 h0 h1
theorem sh_4 : zSH[4]? = some (0, 12) := by decide +kernel
theorem rdI_4 {x : Int} {M : Nat → Nat → Int} (h0 : 0 ≤ x) (h1 : x < 12) : rdI 4 x M = some (M 4 x.toNat) := rdI_at sh_4 h0 h1
theorem wrI_4 {x y : Int} {M : Nat → Nat → Int} (h0 : 0 ≤ x) (h1 : x < 12) : wrI 4 x y M = some (zup M 4 x.toNat y) := wrI_at sh_4 h0 h1
theorem sh_5 : zSH[5]? = some (0, 12) := by decide +kernel
theorem rdI_5 {x : Int} {M : Nat → Nat → Int} (h0 : 0 ≤ x) (h1 : x < 12) : rdI 5 x M = some (M 5 x.toNat) := rdI_at sh_5 h0 h1
theorem wrI_5 {x y : Int} {M : Nat → Nat → Int} (h0 : 0 ≤ x) (h1 : x < 12) : wrI 5 x y M = some (zup M 5 x.toNat y) := wrI_at sh_5 h0 h1
theorem sh_6 : zSH[6]? = some (0, 8) := by decide +kernel
theorem rdI_6 {x : Int} {M : Nat → Nat → Int} (h0 : 0 ≤ x) (h1 : x < 8) : rdI 6 x M = some (M 6 x.toNat) := rdI_at sh_6 h0 h1
theorem wrI_6 {x y : Int} {M : Nat → Nat → Int} (h0 : 0 ≤ x) (h1 : x < 8) : wrI 6 x y M = some (zup M 6 x.toNat y) := wrI_at sh_6 h0 h1
theorem sh_7 : zSH[7]? = some (0, 5) := by decide +kernel
theorem rdI_7 {x : Int} {M : Nat → Nat → Int} (h0 : 0 ≤ x) (h1 : x < 5) : rdI 7 x M = some (M 7 x.toNat) := rdI_at sh_7 h0 h1
theorem wrI_7 {x y : Int} {M : Nat → Nat → Int} (h0 : 0 ≤ x) (h1 : x < 5) : wrI 7 x y M = some (zup M 7 x.toNat y) := wrI_at sh_7 h0 h1
theorem sh_8 : zSH[8]? = some (0, 5) := by decide +kernel
theorem rdI_8 {x : Int} {M : Nat → Nat → Int} (h0 : 0 ≤ x) (h1 : x < 5) : rdI 8 x M = some (M 8 x.toNat) := rdI_at sh_8 h0 h1
theorem wrI_8 {x y : Int} {M : Nat → Nat → Int} (h0 : 0 ≤ x) (h1 : x < 5) : wrI 8 x y M = some (zup M 8 x.toNat y) := wrI_at sh_8 h0 h1
theorem sh_9 : zSH[9]? = some (0, 5) := by decide +kernel
theorem rdI_9 {x : Int} {M : Nat → Nat → Int} (h0 : 0 ≤ x) (h1 : x < 5) : rdI 9 x M = some (M 9 x.toNat) := rdI_at sh_9 h0 h1
theorem wrI_9 {x y : Int} {M : Nat → Nat → Int} (h0 : 0 ≤ x) (h1 : x < 5) : wrI 9 x y M = some (zup M 9 x.toNat y) := wrI_at sh_9 h0 h1
theorem sh_10 : zSH[10]? = some (0, 5) := by decide +kernel
theorem rdI_10 {x : Int} {M : Nat → Nat → Int} (h0 : 0 ≤ x) (h1 : x < 5) : rdI 10 x M = some (M 10 x.toNat) := rdI_at sh_10 h0 h1
theorem wrI_10 {x y : Int} {M : Nat → Nat → Int} (h0 : 0 ≤ x) (h1 : x < 5) : wrI 10 x y M = some (zup M 10 x.toNat y) := wrI_at sh_10 h0 h1
theorem sh_11 : zSH[11]? = some (0, 40) := by decide +kernel
theorem rdI_11 {x : Int} {M : Nat → Nat → Int} (h0 : 0 ≤ x) (h1 : x < 40) : rdI 11 x M = some (M 11 x.toNat) := rdI_at sh_11 h0 h1
theorem wrI_11 {x y : Int} {M : Nat → Nat → Int} (h0 : 0 ≤ x) (h1 : x < 40) : wrI 11 x y M = some (zup M 11 x.toNat y) := wrI_at sh_11 h0 h1
theorem sh_12 : zSH[12]? = some (0, 6) := by decide +kernel
theorem rdI_12 {x : Int} {M : Nat → Nat → Int} (h0 : 0 ≤ x) (h1 : x < 6) : rdI 12 x M = some (M 12 x.toNat) := rdI_at sh_12 h0 h1
theorem wrI_12 {x y : Int} {M : Nat → Nat → Int} (h0 : 0 ≤ x) (h1 : x < 6) : wrI 12 x y M = some (zup M 12 x.toNat y) := wrI_at sh_12 h0 h1
theorem sh_14 : zSH[14]? = some (0, 12) := by decide +kernel
theorem rdI_14 {x : Int} {M : Nat → Nat → Int} (h0 : 0 ≤ x) (h1 : x < 12) : rdI 14 x M = some (M 14 x.toNat) := rdI_at sh_14 h0 h1
theorem wrI_14 {x y : Int} {M : Nat → Nat → Int} (h0 : 0 ≤ x) (h1 : x < 12) : wrI 14 x y M = some (zup M 14 x.toNat y) := wrI_at sh_14 h0 h1
theorem sh_15 : zSH[15]? = some (0, 12) := by decide +kernel
theorem rdI_15 {x : Int} {M : Nat → Nat → Int} (h0 : 0 ≤ x) (h1 : x < 12) : rdI 15 x M = some (M 15 x.toNat) := rdI_at sh_15 h0 h1
theorem wrI_15 {x y : Int} {M : Nat → Nat → Int} (h0 : 0 ≤ x) (h1 : x < 12) : wrI 15 x y M = some (zup M 15 x.toNat y) := wrI_at sh_15 h0 h1
theorem sh_16 : zSH[16]? = some (0, 8) := by decide +kernel
theorem rdI_16 {x : Int} {M : Nat → Nat → Int} (h0 : 0 ≤ x) (h1 : x < 8) : rdI 16 x M = some (M 16 x.toNat) := rdI_at sh_16 h0 h1
theorem wrI_16 {x y : Int} {M : Nat → Nat → Int} (h0 : 0 ≤ x) (h1 : x < 8) : wrI 16 x y M = some (zup M 16 x.toNat y) := wrI_at sh_16 h0 h1
theorem sh_17 : zSH[17]? = some (0, 5) := by decide +kernel
theorem rdI_17 {x : Int} {M : Nat → Nat → Int} (h0 : 0 ≤ x) (h1 : x < 5) : rdI 17 x M = some (M 17 x.toNat) := rdI_at sh_17 h0 h1
theorem wrI_17 {x y : Int} {M : Nat → Nat → Int} (h0 : 0 ≤ x) (h1 : x < 5) : wrI 17 x y M = some (zup M 17 x.toNat y) := wrI_at sh_17 h0 h1
theorem sh_18 : zSH[18]? = some (0, 5) := by decide +kernel
theorem rdI_18 {x : Int} {M : Nat → Nat → Int} (h0 : 0 ≤ x) (h1 : x < 5) : rdI 18 x M = some (M 18 x.toNat) := rdI_at sh_18 h0 h1
theorem wrI_18 {x y : Int} {M : Nat → Nat → Int} (h0 : 0 ≤ x) (h1 : x < 5) : wrI 18 x y M = some (zup M 18 x.toNat y) := wrI_at sh_18 h0 h1
theorem sh_19 : zSH[19]? = some (0, 5) := by decide +kernel
theorem rdI_19 {x : Int} {M : Nat → Nat → Int} (h0 : 0 ≤ x) (h1 : x < 5) : rdI 19 x M = some (M 19 x.toNat) := rdI_at sh_19 h0 h1
theorem wrI_19 {x y : Int} {M : Nat → Nat → Int} (h0 : 0 ≤ x) (h1 : x < 5) : wrI 19 x y M = some (zup M 19 x.toNat y) := wrI_at sh_19 h0 h1
theorem sh_20 : zSH[20]? = some (0, 5) := by decide +kernel
theorem rdI_20 {x : Int} {M : Nat → Nat → Int} (h0 : 0 ≤ x) (h1 : x < 5) : rdI 20 x M = some (M 20 x.toNat) := rdI_at sh_20 h0 h1
theorem wrI_20 {x y : Int} {M : Nat → Nat → Int} (h0 : 0 ≤ x) (h1 : x < 5) : wrI 20 x y M = some (zup M 20 x.toNat y) := wrI_at sh_20 h0 h1
theorem sh_21 : zSH[21]? = some (0, 40) := by decide +kernel
theorem rdI_21 {x : Int} {M : Nat → Nat → Int} (h0 : 0 ≤ x) (h1 : x < 40) : rdI 21 x M = some (M 21 x.toNat) := rdI_at sh_21 h0 h1
theorem wrI_21 {x y : Int} {M : Nat → Nat → Int} (h0 : 0 ≤ x) (h1 : x < 40) : wrI 21 x y M = some (zup M 21 x.toNat y) := wrI_at sh_21 h0 h1
theorem sh_22 : zSH[22]? = some (0, 6) := by decide +kernel
theorem rdI_22 {x : Int} {M : Nat → Nat → Int} (h0 : 0 ≤ x) (h1 : x < 6) : rdI 22 x M = some (M 22 x.toNat) := rdI_at sh_22 h0 h1
theorem wrI_22 {x y : Int} {M : Nat → Nat → Int} (h0 : 0 ≤ x) (h1 : x < 6) : wrI 22 x y M = some (zup M 22 x.toNat y) := wrI_at sh_22 h0 h1
theorem sh_24 : zSH[24]? = some (0, 30) := by decide +kernel
theorem rdI_24 {x : Int} {M : Nat → Nat → Int} (h0 : 0 ≤ x) (h1 : x < 30) : rdI 24 x M = some (M 24 x.toNat) := rdI_at sh_24 h0 h1
theorem wrI_24 {x y : Int} {M : Nat → Nat → Int} (h0 : 0 ≤ x) (h1 : x < 30) : wrI 24 x y M = some (zup M 24 x.toNat y) := wrI_at sh_24 h0 h1
theorem sh_25 : zSH[25]? = some (0, 30) := by decide +kernel
theorem rdI_25 {x : Int} {M : Nat → Nat → Int} (h0 : 0 ≤ x) (h1 : x < 30) : rdI 25 x M = some (M 25 x.toNat) := rdI_at sh_25 h0 h1
theorem wrI_25 {x y : Int} {M : Nat → Nat → Int} (h0 : 0 ≤ x) (h1 : x < 30) : wrI 25 x y M = some (zup M 25 x.toNat y) := wrI_at sh_25 h0 h1
theorem sh_26 : zSH[26]? = some (0, 30) := by decide +kernel
theorem rdI_26 {x : Int} {M : Nat → Nat → Int} (h0 : 0 ≤ x) (h1 : x < 30) : rdI 26 x M = some (M 26 x.toNat) := rdI_at sh_26 h0 h1
theorem wrI_26 {x y : Int} {M : Nat → Nat → Int} (h0 : 0 ≤ x) (h1 : x < 30) : wrI 26 x y M = some (zup M 26 x.toNat y) := wrI_at sh_26 h0 h1
theorem sh_27 : zSH[27]? = some (0, 30) := by decide +kernel
theorem rdI_27 {x : Int} {M : Nat → Nat → Int} (h0 : 0 ≤ x) (h1 : x < 30) : rdI 27 x M = some (M 27 x.toNat) := rdI_at sh_27 h0 h1
theorem wrI_27 {x y : Int} {M : Nat → Nat → Int} (h0 : 0 ≤ x) (h1 : x < 30) : wrI 27 x y M = some (zup M 27 x.toNat y) := wrI_at sh_27 h0 h1
theorem sh_28 : zSH[28]? = some (0, 100) := by decide +kernel
theorem rdI_28 {x : Int} {M : Nat → Nat → Int} (h0 : 0 ≤ x) (h1 : x < 100) : rdI 28 x M = some (M 28 x.toNat) := rdI_at sh_28 h0 h1
theorem wrI_28 {x y : Int} {M : Nat → Nat → Int} (h0 : 0 ≤ x) (h1 : x < 100) : wrI 28 x y M = some (zup M 28 x.toNat y) := wrI_at sh_28 h0 h1
theorem sh_31 : zSH[31]? = some (0, 8) := by decide +kernel
theorem rdI_31 {x : Int} {M : Nat → Nat → Int} (h0 : 0 ≤ x) (h1 : x < 8) : rdI 31 x M = some (M 31 x.toNat) := rdI_at sh_31 h0 h1
theorem wrI_31 {x y : Int} {M : Nat → Nat → Int} (h0 : 0 ≤ x) (h1 : x < 8) : wrI 31 x y M = some (zup M 31 x.toNat y) := wrI_at sh_31 h0 h1
theorem sh_32 : zSH[32]? = some (0, 5) := by decide +kernel
theorem rdI_32 {x : Int} {M : Nat → Nat → Int} (h0 : 0 ≤ x) (h1 : x < 5) : rdI 32 x M = some (M 32 x.toNat) := rdI_at sh_32 h0 h1
theorem wrI_32 {x y : Int} {M : Nat → Nat → Int} (h0 : 0 ≤ x) (h1 : x < 5) : wrI 32 x y M = some (zup M 32 x.toNat y) := wrI_at sh_32 h0 h1
theorem sh_33 : zSH[33]? = some (0, 5) := by decide +kernel
theorem rdI_33 {x : Int} {M : Nat → Nat → Int} (h0 : 0 ≤ x) (h1 : x < 5) : rdI 33 x M = some (M 33 x.toNat) := rdI_at sh_33 h0 h1
theorem wrI_33 {x y : Int} {M : Nat → Nat → Int} (h0 : 0 ≤ x) (h1 : x < 5) : wrI 33 x y M = some (zup M 33 x.toNat y) := wrI_at sh_33 h0 h1
theorem sh_34 : zSH[34]? = some (0, 105) := by decide +kernel
theorem rdI_34 {x : Int} {M : Nat → Nat → Int} (h0 : 0 ≤ x) (h1 : x < 105) : rdI 34 x M = some (M 34 x.toNat) := rdI_at sh_34 h0 h1
theorem wrI_34 {x y : Int} {M : Nat → Nat → Int} (h0 : 0 ≤ x) (h1 : x < 105) : wrI 34 x y M = some (zup M 34 x.toNat y) := wrI_at sh_34 h0 h1
theorem sh_35 : zSH[35]? = some (0, 105) := by decide +kernel
theorem rdI_35 {x : Int} {M : Nat → Nat → Int} (h0 : 0 ≤ x) (h1 : x < 105) : rdI 35 x M = some (M 35 x.toNat) := rdI_at sh_35 h0 h1
theorem wrI_35 {x y : Int} {M : Nat → Nat → Int} (h0 : 0 ≤ x) (h1 : x < 105) : wrI 35 x y M = some (zup M 35 x.toNat y) := wrI_at sh_35 h0 h1
theorem sh_36 : zSH[36]? = some (0, 21) := by decide +kernel
theorem rdI_36 {x : Int} {M : Nat → Nat → Int} (h0 : 0 ≤ x) (h1 : x < 21) : rdI 36 x M = some (M 36 x.toNat) := rdI_at sh_36 h0 h1
theorem wrI_36 {x y : Int} {M : Nat → Nat → Int} (h0 : 0 ≤ x) (h1 : x < 21) : wrI 36 x y M = some (zup M 36 x.toNat y) := wrI_at sh_36 h0 h1
theorem sh_39 : zSH[39]? = some (0, 8) := by decide +kernel
theorem rdI_39 {x : Int} {M : Nat → Nat → Int} (h0 : 0 ≤ x) (h1 : x < 8) : rdI 39 x M = some (M 39 x.toNat) := rdI_at sh_39 h0 h1
theorem wrI_39 {x y : Int} {M : Nat → Nat → Int} (h0 : 0 ≤ x) (h1 : x < 8) : wrI 39 x y M = some (zup M 39 x.toNat y) := wrI_at sh_39 h0 h1
theorem sh_40 : zSH[40]? = some (0, 5) := by decide +kernel
theorem rdI_40 {x : Int} {M : Nat → Nat → Int} (h0 : 0 ≤ x) (h1 : x < 5) : rdI 40 x M = some (M 40 x.toNat) := rdI_at sh_40 h0 h1
theorem wrI_40 {x y : Int} {M : Nat → Nat → Int} (h0 : 0 ≤ x) (h1 : x < 5) : wrI 40 x y M = some (zup M 40 x.toNat y) := wrI_at sh_40 h0 h1
theorem sh_41 : zSH[41]? = some (0, 5) := by decide +kernel
theorem rdI_41 {x : Int} {M : Nat → Nat → Int} (h0 : 0 ≤ x) (h1 : x < 5) : rdI 41 x M = some (M 41 x.toNat) := rdI_at sh_41 h0 h1
theorem wrI_41 {x y : Int} {M : Nat → Nat → Int} (h0 : 0 ≤ x) (h1 : x < 5) : wrI 41 x y M = some (zup M 41 x.toNat y) := wrI_at sh_41 h0 h1
theorem sh_42 : zSH[42]? = some (0, 105) := by decide +kernel
theorem rdI_42 {x : Int} {M : Nat → Nat → Int} (h0 : 0 ≤ x) (h1 : x < 105) : rdI 42 x M = some (M 42 x.toNat) := rdI_at sh_42 h0 h1
theorem wrI_42 {x y : Int} {M : Nat → Nat → Int} (h0 : 0 ≤ x) (h1 : x < 105) : wrI 42 x y M = some (zup M 42 x.toNat y) := wrI_at sh_42 h0 h1
theorem sh_43 : zSH[43]? = some (0, 105) := by decide +kernel
theorem rdI_43 {x : Int} {M : Nat → Nat → Int} (h0 : 0 ≤ x) (h1 : x < 105) : rdI 43 x M = some (M 43 x.toNat) := rdI_at sh_43 h0 h1
theorem wrI_43 {x y : Int} {M : Nat → Nat → Int} (h0 : 0 ≤ x) (h1 : x < 105) : wrI 43 x y M = some (zup M 43 x.toNat y) := wrI_at sh_43 h0 h1
theorem sh_44 : zSH[44]? = some (0, 21) := by decide +kernel
theorem rdI_44 {x : Int} {M : Nat → Nat → Int} (h0 : 0 ≤ x) (h1 : x < 21) : rdI 44 x M = some (M 44 x.toNat) := rdI_at sh_44 h0 h1
theorem wrI_44 {x y : Int} {M : Nat → Nat → Int} (h0 : 0 ≤ x) (h1 : x < 21) : wrI 44 x y M = some (zup M 44 x.toNat y) := wrI_at sh_44 h0 h1
theorem sh_48 : zSH[48]? = some (0, 12) := by decide +kernel
theorem rdI_48 {x : Int} {M : Nat → Nat → Int} (h0 : 0 ≤ x) (h1 : x < 12) : rdI 48 x M = some (M 48 x.toNat) := rdI_at sh_48 h0 h1
theorem wrI_48 {x y : Int} {M : Nat → Nat → Int} (h0 : 0 ≤ x) (h1 : x < 12) : wrI 48 x y M = some (zup M 48 x.toNat y) := wrI_at sh_48 h0 h1
theorem sh_49 : zSH[49]? = some (0, 12) := by decide +kernel
theorem rdI_49 {x : Int} {M : Nat → Nat → Int} (h0 : 0 ≤ x) (h1 : x < 12) : rdI 49 x M = some (M 49 x.toNat) := rdI_at sh_49 h0 h1
theorem wrI_49 {x y : Int} {M : Nat → Nat → Int} (h0 : 0 ≤ x) (h1 : x < 12) : wrI 49 x y M = some (zup M 49 x.toNat y) := wrI_at sh_49 h0 h1
theorem sh_50 : zSH[50]? = some (0, 8) := by decide +kernel
theorem rdI_50 {x : Int} {M : Nat → Nat → Int} (h0 : 0 ≤ x) (h1 : x < 8) : rdI 50 x M = some (M 50 x.toNat) := rdI_at sh_50 h0 h1
theorem wrI_50 {x y : Int} {M : Nat → Nat → Int} (h0 : 0 ≤ x) (h1 : x < 8) : wrI 50 x y M = some (zup M 50 x.toNat y) := wrI_at sh_50 h0 h1
theorem sh_51 : zSH[51]? = some (0, 5) := by decide +kernel
theorem rdI_51 {x : Int} {M : Nat → Nat → Int} (h0 : 0 ≤ x) (h1 : x < 5) : rdI 51 x M = some (M 51 x.toNat) := rdI_at sh_51 h0 h1
theorem wrI_51 {x y : Int} {M : Nat → Nat → Int} (h0 : 0 ≤ x) (h1 : x < 5) : wrI 51 x y M = some (zup M 51 x.toNat y) := wrI_at sh_51 h0 h1
theorem sh_52 : zSH[52]? = some (0, 5) := by decide +kernel
theorem rdI_52 {x : Int} {M : Nat → Nat → Int} (h0 : 0 ≤ x) (h1 : x < 5) : rdI 52 x M = some (M 52 x.toNat) := rdI_at sh_52 h0 h1
theorem wrI_52 {x y : Int} {M : Nat → Nat → Int} (h0 : 0 ≤ x) (h1 : x < 5) : wrI 52 x y M = some (zup M 52 x.toNat y) := wrI_at sh_52 h0 h1
theorem sh_53 : zSH[53]? = some (0, 5) := by decide +kernel
theorem rdI_53 {x : Int} {M : Nat → Nat → Int} (h0 : 0 ≤ x) (h1 : x < 5) : rdI 53 x M = some (M 53 x.toNat) := rdI_at sh_53 h0 h1
theorem wrI_53 {x y : Int} {M : Nat → Nat → Int} (h0 : 0 ≤ x) (h1 : x < 5) : wrI 53 x y M = some (zup M 53 x.toNat y) := wrI_at sh_53 h0 h1
theorem sh_54 : zSH[54]? = some (0, 5) := by decide +kernel
theorem rdI_54 {x : Int} {M : Nat → Nat → Int} (h0 : 0 ≤ x) (h1 : x < 5) : rdI 54 x M = some (M 54 x.toNat) := rdI_at sh_54 h0 h1
theorem wrI_54 {x y : Int} {M : Nat → Nat → Int} (h0 : 0 ≤ x) (h1 : x < 5) : wrI 54 x y M = some (zup M 54 x.toNat y) := wrI_at sh_54 h0 h1
theorem sh_55 : zSH[55]? = some (0, 40) := by decide +kernel
theorem rdI_55 {x : Int} {M : Nat → Nat → Int} (h0 : 0 ≤ x) (h1 : x < 40) : rdI 55 x M = some (M 55 x.toNat) := rdI_at sh_55 h0 h1
theorem wrI_55 {x y : Int} {M : Nat → Nat → Int} (h0 : 0 ≤ x) (h1 : x < 40) : wrI 55 x y M = some (zup M 55 x.toNat y) := wrI_at sh_55 h0 h1
theorem sh_56 : zSH[56]? = some (0, 6) := by decide +kernel
theorem rdI_56 {x : Int} {M : Nat → Nat → Int} (h0 : 0 ≤ x) (h1 : x < 6) : rdI 56 x M = some (M 56 x.toNat) := rdI_at sh_56 h0 h1
theorem wrI_56 {x y : Int} {M : Nat → Nat → Int} (h0 : 0 ≤ x) (h1 : x < 6) : wrI 56 x y M = some (zup M 56 x.toNat y) := wrI_at sh_56 h0 h1
theorem sh_58 : zSH[58]? = some (0, 30) := by decide +kernel
theorem rdI_58 {x : Int} {M : Nat → Nat → Int} (h0 : 0 ≤ x) (h1 : x < 30) : rdI 58 x M = some (M 58 x.toNat) := rdI_at sh_58 h0 h1
theorem wrI_58 {x y : Int} {M : Nat → Nat → Int} (h0 : 0 ≤ x) (h1 : x < 30) : wrI 58 x y M = some (zup M 58 x.toNat y) := wrI_at sh_58 h0 h1
theorem sh_59 : zSH[59]? = some (0, 30) := by decide +kernel
theorem rdI_59 {x : Int} {M : Nat → Nat → Int} (h0 : 0 ≤ x) (h1 : x < 30) : rdI 59 x M = some (M 59 x.toNat) := rdI_at sh_59 h0 h1
theorem wrI_59 {x y : Int} {M : Nat → Nat → Int} (h0 : 0 ≤ x) (h1 : x < 30) : wrI 59 x y M = some (zup M 59 x.toNat y) := wrI_at sh_59 h0 h1
theorem sh_60 : zSH[60]? = some (0, 30) := by decide +kernel
theorem rdI_60 {x : Int} {M : Nat → Nat → Int} (h0 : 0 ≤ x) (h1 : x < 30) : rdI 60 x M = some (M 60 x.toNat) := rdI_at sh_60 h0 h1
theorem wrI_60 {x y : Int} {M : Nat → Nat → Int} (h0 : 0 ≤ x) (h1 : x < 30) : wrI 60 x y M = some (zup M 60 x.toNat y) := wrI_at sh_60 h0 h1
theorem sh_61 : zSH[61]? = some (0, 30) := by decide +kernel
theorem rdI_61 {x : Int} {M : Nat → Nat → Int} (h0 : 0 ≤ x) (h1 : x < 30) : rdI 61 x M = some (M 61 x.toNat) := rdI_at sh_61 h0 h1
theorem wrI_61 {x y : Int} {M : Nat → Nat → Int} (h0 : 0 ≤ x) (h1 : x < 30) : wrI 61 x y M = some (zup M 61 x.toNat y) := wrI_at sh_61 h0 h1
theorem sh_62 : zSH[62]? = some (0, 100) := by decide +kernel
theorem rdI_62 {x : Int} {M : Nat → Nat → Int} (h0 : 0 ≤ x) (h1 : x < 100) : rdI 62 x M = some (M 62 x.toNat) := rdI_at sh_62 h0 h1
theorem wrI_62 {x y : Int} {M : Nat → Nat → Int} (h0 : 0 ≤ x) (h1 : x < 100) : wrI 62 x y M = some (zup M 62 x.toNat y) := wrI_at sh_62 h0 h1
theorem sh_65 : zSH[65]? = some (0, 12) := by decide +kernel
theorem rdI_65 {x : Int} {M : Nat → Nat → Int} (h0 : 0 ≤ x) (h1 : x < 12) : rdI 65 x M = some (M 65 x.toNat) := rdI_at sh_65 h0 h1
theorem wrI_65 {x y : Int} {M : Nat → Nat → Int} (h0 : 0 ≤ x) (h1 : x < 12) : wrI 65 x y M = some (zup M 65 x.toNat y) := wrI_at sh_65 h0 h1
theorem sh_66 : zSH[66]? = some (0, 12) := by decide +kernel
theorem rdI_66 {x : Int} {M : Nat → Nat → Int} (h0 : 0 ≤ x) (h1 : x < 12) : rdI 66 x M = some (M 66 x.toNat) := rdI_at sh_66 h0 h1
theorem wrI_66 {x y : Int} {M : Nat → Nat → Int} (h0 : 0 ≤ x) (h1 : x < 12) : wrI 66 x y M = some (zup M 66 x.toNat y) := wrI_at sh_66 h0 h1
theorem sh_67 : zSH[67]? = some (0, 8) := by decide +kernel
theorem rdI_67 {x : Int} {M : Nat → Nat → Int} (h0 : 0 ≤ x) (h1 : x < 8) : rdI 67 x M = some (M 67 x.toNat) := rdI_at sh_67 h0 h1
theorem wrI_67 {x y : Int} {M : Nat → Nat → Int} (h0 : 0 ≤ x) (h1 : x < 8) : wrI 67 x y M = some (zup M 67 x.toNat y) := wrI_at sh_67 h0 h1
theorem sh_68 : zSH[68]? = some (0, 5) := by decide +kernel
theorem rdI_68 {x : Int} {M : Nat → Nat → Int} (h0 : 0 ≤ x) (h1 : x < 5) : rdI 68 x M = some (M 68 x.toNat) := rdI_at sh_68 h0 h1
theorem wrI_68 {x y : Int} {M : Nat → Nat → Int} (h0 : 0 ≤ x) (h1 : x < 5) : wrI 68 x y M = some (zup M 68 x.toNat y) := wrI_at sh_68 h0 h1
theorem sh_69 : zSH[69]? = some (0, 5) := by decide +kernel
theorem rdI_69 {x : Int} {M : Nat → Nat → Int} (h0 : 0 ≤ x) (h1 : x < 5) : rdI 69 x M = some (M 69 x.toNat) := rdI_at sh_69 h0 h1
theorem wrI_69 {x y : Int} {M : Nat → Nat → Int} (h0 : 0 ≤ x) (h1 : x < 5) : wrI 69 x y M = some (zup M 69 x.toNat y) := wrI_at sh_69 h0 h1
theorem sh_70 : zSH[70]? = some (0, 5) := by decide +kernel
theorem rdI_70 {x : Int} {M : Nat → Nat → Int} (h0 : 0 ≤ x) (h1 : x < 5) : rdI 70 x M = some (M 70 x.toNat) := rdI_at sh_70 h0 h1
theorem wrI_70 {x y : Int} {M : Nat → Nat → Int} (h0 : 0 ≤ x) (h1 : x < 5) : wrI 70 x y M = some (zup M 70 x.toNat y) := wrI_at sh_70 h0 h1
theorem sh_71 : zSH[71]? = some (0, 5) := by decide +kernel
theorem rdI_71 {x : Int} {M : Nat → Nat → Int} (h0 : 0 ≤ x) (h1 : x < 5) : rdI 71 x M = some (M 71 x.toNat) := rdI_at sh_71 h0 h1
theorem wrI_71 {x y : Int} {M : Nat → Nat → Int} (h0 : 0 ≤ x) (h1 : x < 5) : wrI 71 x y M = some (zup M 71 x.toNat y) := wrI_at sh_71 h0 h1
theorem sh_72 : zSH[72]? = some (0, 40) := by decide +kernel
theorem rdI_72 {x : Int} {M : Nat → Nat → Int} (h0 : 0 ≤ x) (h1 : x < 40) : rdI 72 x M = some (M 72 x.toNat) := rdI_at sh_72 h0 h1
theorem wrI_72 {x y : Int} {M : Nat → Nat → Int} (h0 : 0 ≤ x) (h1 : x < 40) : wrI 72 x y M = some (zup M 72 x.toNat y) := wrI_at sh_72 h0 h1
theorem sh_73 : zSH[73]? = some (0, 6) := by decide +kernel
theorem rdI_73 {x : Int} {M : Nat → Nat → Int} (h0 : 0 ≤ x) (h1 : x < 6) : rdI 73 x M = some (M 73 x.toNat) := rdI_at sh_73 h0 h1
theorem wrI_73 {x y : Int} {M : Nat → Nat → Int} (h0 : 0 ≤ x) (h1 : x < 6) : wrI 73 x y M = some (zup M 73 x.toNat y) := wrI_at sh_73 h0 h1
theorem sh_75 : zSH[75]? = some (0, 30) := by decide +kernel
theorem rdI_75 {x : Int} {M : Nat → Nat → Int} (h0 : 0 ≤ x) (h1 : x < 30) : rdI 75 x M = some (M 75 x.toNat) := rdI_at sh_75 h0 h1
theorem wrI_75 {x y : Int} {M : Nat → Nat → Int} (h0 : 0 ≤ x) (h1 : x < 30) : wrI 75 x y M = some (zup M 75 x.toNat y) := wrI_at sh_75 h0 h1
theorem sh_76 : zSH[76]? = some (0, 30) := by decide +kernel
theorem rdI_76 {x : Int} {M : Nat → Nat → Int} (h0 : 0 ≤ x) (h1 : x < 30) : rdI 76 x M = some (M 76 x.toNat) := rdI_at sh_76 h0 h1
theorem wrI_76 {x y : Int} {M : Nat → Nat → Int} (h0 : 0 ≤ x) (h1 : x < 30) : wrI 76 x y M = some (zup M 76 x.toNat y) := wrI_at sh_76 h0 h1
theorem sh_77 : zSH[77]? = some (0, 30) := by decide +kernel
theorem rdI_77 {x : Int} {M : Nat → Nat → Int} (h0 : 0 ≤ x) (h1 : x < 30) : rdI 77 x M = some (M 77 x.toNat) := rdI_at sh_77 h0 h1
theorem wrI_77 {x y : Int} {M : Nat → Nat → Int} (h0 : 0 ≤ x) (h1 : x < 30) : wrI 77 x y M = some (zup M 77 x.toNat y) := wrI_at sh_77 h0 h1
theorem sh_78 : zSH[78]? = some (0, 30) := by decide +kernel
theorem rdI_78 {x : Int} {M : Nat → Nat → Int} (h0 : 0 ≤ x) (h1 : x < 30) : rdI 78 x M = some (M 78 x.toNat) := rdI_at sh_78 h0 h1
theorem wrI_78 {x y : Int} {M : Nat → Nat → Int} (h0 : 0 ≤ x) (h1 : x < 30) : wrI 78 x y M = some (zup M 78 x.toNat y) := wrI_at sh_78 h0 h1
theorem sh_79 : zSH[79]? = some (0, 100) := by decide +kernel
theorem rdI_79 {x : Int} {M : Nat → Nat → Int} (h0 : 0 ≤ x) (h1 : x < 100) : rdI 79 x M = some (M 79 x.toNat) := rdI_at sh_79 h0 h1
theorem wrI_79 {x y : Int} {M : Nat → Nat → Int} (h0 : 0 ≤ x) (h1 : x < 100) : wrI 79 x y M = some (zup M 79 x.toNat y) := wrI_at sh_79 h0 h1
theorem sh_82 : zSH[82]? = some (0, 12) := by decide +kernel
theorem rdI_82 {x : Int} {M : Nat → Nat → Int} (h0 : 0 ≤ x) (h1 : x < 12) : rdI 82 x M = some (M 82 x.toNat) := rdI_at sh_82 h0 h1
theorem wrI_82 {x y : Int} {M : Nat → Nat → Int} (h0 : 0 ≤ x) (h1 : x < 12) : wrI 82 x y M = some (zup M 82 x.toNat y) := wrI_at sh_82 h0 h1
theorem sh_83 : zSH[83]? = some (0, 12) := by decide +kernel
theorem rdI_83 {x : Int} {M : Nat → Nat → Int} (h0 : 0 ≤ x) (h1 : x < 12) : rdI 83 x M = some (M 83 x.toNat) := rdI_at sh_83 h0 h1
theorem wrI_83 {x y : Int} {M : Nat → Nat → Int} (h0 : 0 ≤ x) (h1 : x < 12) : wrI 83 x y M = some (zup M 83 x.toNat y) := wrI_at sh_83 h0 h1
theorem sh_84 : zSH[84]? = some (0, 8) := by decide +kernel
theorem rdI_84 {x : Int} {M : Nat → Nat → Int} (h0 : 0 ≤ x) (h1 : x < 8) : rdI 84 x M = some (M 84 x.toNat) := rdI_at sh_84 h0 h1
theorem wrI_84 {x y : Int} {M : Nat → Nat → Int} (h0 : 0 ≤ x) (h1 : x < 8) : wrI 84 x y M = some (zup M 84 x.toNat y) := wrI_at sh_84 h0 h1
theorem sh_85 : zSH[85]? = some (0, 5) := by decide +kernel
theorem rdI_85 {x : Int} {M : Nat → Nat → Int} (h0 : 0 ≤ x) (h1 : x < 5) : rdI 85 x M = some (M 85 x.toNat) := rdI_at sh_85 h0 h1
theorem wrI_85 {x y : Int} {M : Nat → Nat → Int} (h0 : 0 ≤ x) (h1 : x < 5) : wrI 85 x y M = some (zup M 85 x.toNat y) := wrI_at sh_85 h0 h1
theorem sh_86 : zSH[86]? = some (0, 5) := by decide +kernel
theorem rdI_86 {x : Int} {M : Nat → Nat → Int} (h0 : 0 ≤ x) (h1 : x < 5) : rdI 86 x M = some (M 86 x.toNat) := rdI_at sh_86 h0 h1
theorem wrI_86 {x y : Int} {M : Nat → Nat → Int} (h0 : 0 ≤ x) (h1 : x < 5) : wrI 86 x y M = some (zup M 86 x.toNat y) := wrI_at sh_86 h0 h1
theorem sh_87 : zSH[87]? = some (0, 5) := by decide +kernel
theorem rdI_87 {x : Int} {M : Nat → Nat → Int} (h0 : 0 ≤ x) (h1 : x < 5) : rdI 87 x M = some (M 87 x.toNat) := rdI_at sh_87 h0 h1
theorem wrI_87 {x y : Int} {M : Nat → Nat → Int} (h0 : 0 ≤ x) (h1 : x < 5) : wrI 87 x y M = some (zup M 87 x.toNat y) := wrI_at sh_87 h0 h1
theorem sh_88 : zSH[88]? = some (0, 5) := by decide +kernel
theorem rdI_88 {x : Int} {M : Nat → Nat → Int} (h0 : 0 ≤ x) (h1 : x < 5) : rdI 88 x M = some (M 88 x.toNat) := rdI_at sh_88 h0 h1
theorem wrI_88 {x y : Int} {M : Nat → Nat → Int} (h0 : 0 ≤ x) (h1 : x < 5) : wrI 88 x y M = some (zup M 88 x.toNat y) := wrI_at sh_88 h0 h1
theorem sh_89 : zSH[89]? = some (0, 40) := by decide +kernel
theorem rdI_89 {x : Int} {M : Nat → Nat → Int} (h0 : 0 ≤ x) (h1 : x < 40) : rdI 89 x M = some (M 89 x.toNat) := rdI_at sh_89 h0 h1
theorem wrI_89 {x y : Int} {M : Nat → Nat → Int} (h0 : 0 ≤ x) (h1 : x < 40) : wrI 89 x y M = some (zup M 89 x.toNat y) := wrI_at sh_89 h0 h1
theorem sh_90 : zSH[90]? = some (0, 6) := by decide +kernel
theorem rdI_90 {x : Int} {M : Nat → Nat → Int} (h0 : 0 ≤ x) (h1 : x < 6) : rdI 90 x M = some (M 90 x.toNat) := rdI_at sh_90 h0 h1
theorem wrI_90 {x y : Int} {M : Nat → Nat → Int} (h0 : 0 ≤ x) (h1 : x < 6) : wrI 90 x y M = some (zup M 90 x.toNat y) := wrI_at sh_90 h0 h1
theorem sh_92 : zSH[92]? = some (0, 30) := by decide +kernel
theorem rdI_92 {x : Int} {M : Nat → Nat → Int} (h0 : 0 ≤ x) (h1 : x < 30) : rdI 92 x M = some (M 92 x.toNat) := rdI_at sh_92 h0 h1
theorem wrI_92 {x y : Int} {M : Nat → Nat → Int} (h0 : 0 ≤ x) (h1 : x < 30) : wrI 92 x y M = some (zup M 92 x.toNat y) := wrI_at sh_92 h0 h1
theorem sh_93 : zSH[93]? = some (0, 30) := by decide +kernel
theorem rdI_93 {x : Int} {M : Nat → Nat → Int} (h0 : 0 ≤ x) (h1 : x < 30) : rdI 93 x M = some (M 93 x.toNat) := rdI_at sh_93 h0 h1
theorem wrI_93 {x y : Int} {M : Nat → Nat → Int} (h0 : 0 ≤ x) (h1 : x < 30) : wrI 93 x y M = some (zup M 93 x.toNat y) := wrI_at sh_93 h0 h1
theorem sh_94 : zSH[94]? = some (0, 30) := by decide +kernel
theorem rdI_94 {x : Int} {M : Nat → Nat → Int} (h0 : 0 ≤ x) (h1 : x < 30) : rdI 94 x M = some (M 94 x.toNat) := rdI_at sh_94 h0 h1
theorem wrI_94 {x y : Int} {M : Nat → Nat → Int} (h0 : 0 ≤ x) (h1 : x < 30) : wrI 94 x y M = some (zup M 94 x.toNat y) := wrI_at sh_94 h0 h1
theorem sh_95 : zSH[95]? = some (0, 30) := by decide +kernel
theorem rdI_95 {x : Int} {M : Nat → Nat → Int} (h0 : 0 ≤ x) (h1 : x < 30) : rdI 95 x M = some (M 95 x.toNat) := rdI_at sh_95 h0 h1
theorem wrI_95 {x y : Int} {M : Nat → Nat → Int} (h0 : 0 ≤ x) (h1 : x < 30) : wrI 95 x y M = some (zup M 95 x.toNat y) := wrI_at sh_95 h0 h1
theorem sh_96 : zSH[96]? = some (0, 100) := by decide +kernel
theorem rdI_96 {x : Int} {M : Nat → Nat → Int} (h0 : 0 ≤ x) (h1 : x < 100) : rdI 96 x M = some (M 96 x.toNat) := rdI_at sh_96 h0 h1
theorem wrI_96 {x y : Int} {M : Nat → Nat → Int} (h0 : 0 ≤ x) (h1 : x < 100) : wrI 96 x y M = some (zup M 96 x.toNat y) := wrI_at sh_96 h0 h1
theorem sh_98 : zSH[98]? = some (0, 4) := by decide +kernel
theorem rdI_98 {x : Int} {M : Nat → Nat → Int} (h0 : 0 ≤ x) (h1 : x < 4) : rdI 98 x M = some (M 98 x.toNat) := rdI_at sh_98 h0 h1
theorem wrI_98 {x y : Int} {M : Nat → Nat → Int} (h0 : 0 ≤ x) (h1 : x < 4) : wrI 98 x y M = some (zup M 98 x.toNat y) := wrI_at sh_98 h0 h1
theorem sh_99 : zSH[99]? = some (0, 4) := by decide +kernel
theorem rdI_99 {x : Int} {M : Nat → Nat → Int} (h0 : 0 ≤ x) (h1 : x < 4) : rdI 99 x M = some (M 99 x.toNat) := rdI_at sh_99 h0 h1
theorem wrI_99 {x y : Int} {M : Nat → Nat → Int} (h0 : 0 ≤ x) (h1 : x < 4) : wrI 99 x y M = some (zup M 99 x.toNat y) := wrI_at sh_99 h0 h1
theorem sh_101 : zSH[101]? = some (2, 60) := by decide +kernel
theorem rdL_101 {x : Int} {M : Nat → Nat → Int} (h0 : 0 ≤ x) (h1 : x < 60) : rdL 101 x M = some (M 101 x.toNat) := rdL_at sh_101 h0 h1
theorem wrL_101 {x y : Int} {M : Nat → Nat → Int} (h0 : 0 ≤ x) (h1 : x < 60) : wrL 101 x y M = some (zup M 101 x.toNat y) := wrL_at sh_101 h0 h1
theorem sh_102 : zSH[102]? = some (2, 60) := by decide +kernel
theorem rdL_102 {x : Int} {M : Nat → Nat → Int} (h0 : 0 ≤ x) (h1 : x < 60) : rdL 102 x M = some (M 102 x.toNat) := rdL_at sh_102 h0 h1
theorem wrL_102 {x y : Int} {M : Nat → Nat → Int} (h0 : 0 ≤ x) (h1 : x < 60) : wrL 102 x y M = some (zup M 102 x.toNat y) := wrL_at sh_102 h0 h1
theorem sh_103 : zSH[103]? = some (2, 60) := by decide +kernel
theorem rdL_103 {x : Int} {M : Nat → Nat → Int} (h0 : 0 ≤ x) (h1 : x < 60) : rdL 103 x M = some (M 103 x.toNat) := rdL_at sh_103 h0 h1
theorem wrL_103 {x y : Int} {M : Nat → Nat → Int} (h0 : 0 ≤ x) (h1 : x < 60) : wrL 103 x y M = some (zup M 103 x.toNat y) := wrL_at sh_103 h0 h1
theorem sh_104 : zSH[104]? = some (2, 60) := by decide +kernel
theorem rdL_104 {x : Int} {M : Nat → Nat → Int} (h0 : 0 ≤ x) (h1 : x < 60) : rdL 104 x M = some (M 104 x.toNat) := rdL_at sh_104 h0 h1
theorem wrL_104 {x y : Int} {M : Nat → Nat → Int} (h0 : 0 ≤ x) (h1 : x < 60) : wrL 104 x y M = some (zup M 104 x.toNat y) := wrL_at sh_104 h0 h1
theorem sh_105 : zSH[105]? = some (0, 168) := by decide +kernel
theorem rdI_105 {x : Int} {M : Nat → Nat → Int} (h0 : 0 ≤ x) (h1 : x < 168) : rdI 105 x M = some (M 105 x.toNat) := rdI_at sh_105 h0 h1
theorem wrI_105 {x y : Int} {M : Nat → Nat → Int} (h0 : 0 ≤ x) (h1 : x < 168) : wrI 105 x y M = some (zup M 105 x.toNat y) := wrI_at sh_105 h0 h1
theorem sh_107 : zSH[107]? = some (0, 138) := by decide +kernel
theorem rdI_107 {x : Int} {M : Nat → Nat → Int} (h0 : 0 ≤ x) (h1 : x < 138) : rdI 107 x M = some (M 107 x.toNat) := rdI_at sh_107 h0 h1
theorem wrI_107 {x y : Int} {M : Nat → Nat → Int} (h0 : 0 ≤ x) (h1 : x < 138) : wrI 107 x y M = some (zup M 107 x.toNat y) := wrI_at sh_107 h0 h1
theorem sh_108 : zSH[108]? = some (0, 414) := by decide +kernel
theorem rdI_108 {x : Int} {M : Nat → Nat → Int} (h0 : 0 ≤ x) (h1 : x < 414) : rdI 108 x M = some (M 108 x.toNat) := rdI_at sh_108 h0 h1
theorem wrI_108 {x y : Int} {M : Nat → Nat → Int} (h0 : 0 ≤ x) (h1 : x < 414) : wrI 108 x y M = some (zup M 108 x.toNat y) := wrI_at sh_108 h0 h1
theorem sh_109 : zSH[109]? = some (3, 3) := by decide +kernel
theorem rdB_109 {x : Int} {M : Nat → Nat → Int} (h0 : 0 ≤ x) (h1 : x < 3) : rdB 109 x M = some (M 109 x.toNat) := rdB_at3 sh_109 h0 h1
theorem wrB_109 {x y : Int} {M : Nat → Nat → Int} (h0 : 0 ≤ x) (h1 : x < 3) (hy : y = 0 ∨ y = 1) : wrB 109 x y M = some (zup M 109 x.toNat y) := wrB_at3 sh_109 h0 h1 hy
theorem sh_110 : zSH[110]? = some (1, 900) := by decide +kernel
theorem rdB_110 {x : Int} {M : Nat → Nat → Int} (h0 : 0 ≤ x) (h1 : x < 900) : rdB 110 x M = some (M 110 x.toNat) := rdB_at1 sh_110 h0 h1
theorem wrB_110 {x y : Int} {M : Nat → Nat → Int} (h0 : 0 ≤ x) (h1 : x < 900) : wrB 110 x y M = some (zup M 110 x.toNat (zi2b y)) := wrB_at1 sh_110 h0 h1
theorem sh_111 : zSH[111]? = some (0, 5) := by decide +kernel
theorem rdI_111 {x : Int} {M : Nat → Nat → Int} (h0 : 0 ≤ x) (h1 : x < 5) : rdI 111 x M = some (M 111 x.toNat) := rdI_at sh_111 h0 h1
theorem wrI_111 {x y : Int} {M : Nat → Nat → Int} (h0 : 0 ≤ x) (h1 : x < 5) : wrI 111 x y M = some (zup M 111 x.toNat y) := wrI_at sh_111 h0 h1
theorem sh_112 : zSH[112]? = some (0, 138) := by decide +kernel
theorem rdI_112 {x : Int} {M : Nat → Nat → Int} (h0 : 0 ≤ x) (h1 : x < 138) : rdI 112 x M = some (M 112 x.toNat) := rdI_at sh_112 h0 h1
theorem wrI_112 {x y : Int} {M : Nat → Nat → Int} (h0 : 0 ≤ x) (h1 : x < 138) : wrI 112 x y M = some (zup M 112 x.toNat y) := wrI_at sh_112 h0 h1
theorem sh_113 : zSH[113]? = some (0, 5) := by decide +kernel
theorem rdI_113 {x : Int} {M : Nat → Nat → Int} (h0 : 0 ≤ x) (h1 : x < 5) : rdI 113 x M = some (M 113 x.toNat) := rdI_at sh_113 h0 h1
theorem wrI_113 {x y : Int} {M : Nat → Nat → Int} (h0 : 0 ≤ x) (h1 : x < 5) : wrI 113 x y M = some (zup M 113 x.toNat y) := wrI_at sh_113 h0 h1
theorem sh_114 : zSH[114]? = some (0, 5) := by decide +kernel
theorem rdI_114 {x : Int} {M : Nat → Nat → Int} (h0 : 0 ≤ x) (h1 : x < 5) : rdI 114 x M = some (M 114 x.toNat) := rdI_at sh_114 h0 h1
theorem wrI_114 {x y : Int} {M : Nat → Nat → Int} (h0 : 0 ≤ x) (h1 : x < 5) : wrI 114 x y M = some (zup M 114 x.toNat y) := wrI_at sh_114 h0 h1
theorem sh_115 : zSH[115]? = some (0, 8) := by decide +kernel
theorem rdI_115 {x : Int} {M : Nat → Nat → Int} (h0 : 0 ≤ x) (h1 : x < 8) : rdI 115 x M = some (M 115 x.toNat) := rdI_at sh_115 h0 h1
theorem wrI_115 {x y : Int} {M : Nat → Nat → Int} (h0 : 0 ≤ x) (h1 : x < 8) : wrI 115 x y M = some (zup M 115 x.toNat y) := wrI_at sh_115 h0 h1
theorem sh_116 : zSH[116]? = some (0, 100) := by decide +kernel
theorem rdI_116 {x : Int} {M : Nat → Nat → Int} (h0 : 0 ≤ x) (h1 : x < 100) : rdI 116 x M = some (M 116 x.toNat) := rdI_at sh_116 h0 h1
theorem wrI_116 {x y : Int} {M : Nat → Nat → Int} (h0 : 0 ≤ x) (h1 : x < 100) : wrI 116 x y M = some (zup M 116 x.toNat y) := wrI_at sh_116 h0 h1
theorem sh_117 : zSH[117]? = some (0, 105) := by decide +kernel
theorem rdI_117 {x : Int} {M : Nat → Nat → Int} (h0 : 0 ≤ x) (h1 : x < 105) : rdI 117 x M = some (M 117 x.toNat) := rdI_at sh_117 h0 h1
theorem wrI_117 {x y : Int} {M : Nat → Nat → Int} (h0 : 0 ≤ x) (h1 : x < 105) : wrI 117 x y M = some (zup M 117 x.toNat y) := wrI_at sh_117 h0 h1
theorem sh_118 : zSH[118]? = some (0, 105) := by decide +kernel
theorem rdI_118 {x : Int} {M : Nat → Nat → Int} (h0 : 0 ≤ x) (h1 : x < 105) : rdI 118 x M = some (M 118 x.toNat) := rdI_at sh_118 h0 h1
theorem wrI_118 {x y : Int} {M : Nat → Nat → Int} (h0 : 0 ≤ x) (h1 : x < 105) : wrI 118 x y M = some (zup M 118 x.toNat y) := wrI_at sh_118 h0 h1
theorem sh_119 : zSH[119]? = some (0, 6) := by decide +kernel
theorem rdI_119 {x : Int} {M : Nat → Nat → Int} (h0 : 0 ≤ x) (h1 : x < 6) : rdI 119 x M = some (M 119 x.toNat) := rdI_at sh_119 h0 h1
theorem wrI_119 {x y : Int} {M : Nat → Nat → Int} (h0 : 0 ≤ x) (h1 : x < 6) : wrI 119 x y M = some (zup M 119 x.toNat y) := wrI_at sh_119 h0 h1
theorem sh_120 : zSH[120]? = some (0, 6) := by decide +kernel
theorem rdI_120 {x : Int} {M : Nat → Nat → Int} (h0 : 0 ≤ x) (h1 : x < 6) : rdI 120 x M = some (M 120 x.toNat) := rdI_at sh_120 h0 h1
theorem wrI_120 {x y : Int} {M : Nat → Nat → Int} (h0 : 0 ≤ x) (h1 : x < 6) : wrI 120 x y M = some (zup M 120 x.toNat y) := wrI_at sh_120 h0 h1
theorem sh_121 : zSH[121]? = some (0, 5) := by decide +kernel
theorem rdI_121 {x : Int} {M : Nat → Nat → Int} (h0 : 0 ≤ x) (h1 : x < 5) : rdI 121 x M = some (M 121 x.toNat) := rdI_at sh_121 h0 h1
theorem wrI_121 {x y : Int} {M : Nat → Nat → Int} (h0 : 0 ≤ x) (h1 : x < 5) : wrI 121 x y M = some (zup M 121 x.toNat y) := wrI_at sh_121 h0 h1
theorem sh_122 : zSH[122]? = some (0, 5) := by decide +kernel
theorem rdI_122 {x : Int} {M : Nat → Nat → Int} (h0 : 0 ≤ x) (h1 : x < 5) : rdI 122 x M = some (M 122 x.toNat) := rdI_at sh_122 h0 h1
theorem wrI_122 {x y : Int} {M : Nat → Nat → Int} (h0 : 0 ≤ x) (h1 : x < 5) : wrI 122 x y M = some (zup M 122 x.toNat y) := wrI_at sh_122 h0 h1
theorem sh_123 : zSH[123]? = some (0, 5) := by decide +kernel
theorem rdI_123 {x : Int} {M : Nat → Nat → Int} (h0 : 0 ≤ x) (h1 : x < 5) : rdI 123 x M = some (M 123 x.toNat) := rdI_at sh_123 h0 h1
theorem wrI_123 {x y : Int} {M : Nat → Nat → Int} (h0 : 0 ≤ x) (h1 : x < 5) : wrI 123 x y M = some (zup M 123 x.toNat y) := wrI_at sh_123 h0 h1
theorem sh_124 : zSH[124]? = some (0, 64) := by decide +kernel
theorem rdI_124 {x : Int} {M : Nat → Nat → Int} (h0 : 0 ≤ x) (h1 : x < 64) : rdI 124 x M = some (M 124 x.toNat) := rdI_at sh_124 h0 h1
theorem wrI_124 {x y : Int} {M : Nat → Nat → Int} (h0 : 0 ≤ x) (h1 : x < 64) : wrI 124 x y M = some (zup M 124 x.toNat y) := wrI_at sh_124 h0 h1
theorem sh_125 : zSH[125]? = some (0, 168) := by decide +kernel
theorem rdI_125 {x : Int} {M : Nat → Nat → Int} (h0 : 0 ≤ x) (h1 : x < 168) : rdI 125 x M = some (M 125 x.toNat) := rdI_at sh_125 h0 h1
theorem wrI_125 {x y : Int} {M : Nat → Nat → Int} (h0 : 0 ≤ x) (h1 : x < 168) : wrI 125 x y M = some (zup M 125 x.toNat y) := wrI_at sh_125 h0 h1
theorem sh_126 : zSH[126]? = some (0, 4) := by decide +kernel
theorem rdI_126 {x : Int} {M : Nat → Nat → Int} (h0 : 0 ≤ x) (h1 : x < 4) : rdI 126 x M = some (M 126 x.toNat) := rdI_at sh_126 h0 h1
theorem wrI_126 {x y : Int} {M : Nat → Nat → Int} (h0 : 0 ≤ x) (h1 : x < 4) : wrI 126 x y M = some (zup M 126 x.toNat y) := wrI_at sh_126 h0 h1
theorem sh_127 : zSH[127]? = some (0, 4) := by decide +kernel
theorem rdI_127 {x : Int} {M : Nat → Nat → Int} (h0 : 0 ≤ x) (h1 : x < 4) : rdI 127 x M = some (M 127 x.toNat) := rdI_at sh_127 h0 h1
theorem wrI_127 {x y : Int} {M : Nat → Nat → Int} (h0 : 0 ≤ x) (h1 : x < 4) : wrI 127 x y M = some (zup M 127 x.toNat y) := wrI_at sh_127 h0 h1
theorem sh_128 : zSH[128]? = some (2, 240) := by decide +kernel
theorem rdL_128 {x : Int} {M : Nat → Nat → Int} (h0 : 0 ≤ x) (h1 : x < 240) : rdL 128 x M = some (M 128 x.toNat) := rdL_at sh_128 h0 h1
theorem wrL_128 {x y : Int} {M : Nat → Nat → Int} (h0 : 0 ≤ x) (h1 : x < 240) : wrL 128 x y M = some (zup M 128 x.toNat y) := wrL_at sh_128 h0 h1
theorem sh_129 : zSH[129]? = some (2, 60) := by decide +kernel
theorem rdL_129 {x : Int} {M : Nat → Nat → Int} (h0 : 0 ≤ x) (h1 : x < 60) : rdL 129 x M = some (M 129 x.toNat) := rdL_at sh_129 h0 h1
theorem wrL_129 {x y : Int} {M : Nat → Nat → Int} (h0 : 0 ≤ x) (h1 : x < 60) : wrL 129 x y M = some (zup M 129 x.toNat y) := wrL_at sh_129 h0 h1
theorem sh_A1 {d : Nat} (h : zis 0 d = true) : zSH[d + 1]? = some (0, 30) := by rcases zis_0 h with rfl | rfl | rfl | rfl <;> decide +kernel
theorem rdI_A1 {d : Nat} (h : zis 0 d = true) {x : Int} {M : Nat → Nat → Int} (h0 : 0 ≤ x) (h1 : x < 30) : rdI (d + 1) x M = some (M (d + 1) x.toNat) := rdI_at (sh_A1 h) h0 h1
theorem wrI_A1 {d : Nat} (h : zis 0 d = true) {x y : Int} {M : Nat → Nat → Int} (h0 : 0 ≤ x) (h1 : x < 30) : wrI (d + 1) x y M = some (zup M (d + 1) x.toNat y) := wrI_at (sh_A1 h) h0 h1
theorem sh_A2 {d : Nat} (h : zis 0 d = true) : zSH[d + 2]? = some (0, 30) := by rcases zis_0 h with rfl | rfl | rfl | rfl <;> decide +kernel
theorem rdI_A2 {d : Nat} (h : zis 0 d = true) {x : Int} {M : Nat → Nat → Int} (h0 : 0 ≤ x) (h1 : x < 30) : rdI (d + 2) x M = some (M (d + 2) x.toNat) := rdI_at (sh_A2 h) h0 h1
theorem wrI_A2 {d : Nat} (h : zis 0 d = true) {x y : Int} {M : Nat → Nat → Int} (h0 : 0 ≤ x) (h1 : x < 30) : wrI (d + 2) x y M = some (zup M (d + 2) x.toNat y) := wrI_at (sh_A2 h) h0 h1
theorem sh_A3 {d : Nat} (h : zis 0 d = true) : zSH[d + 3]? = some (0, 30) := by rcases zis_0 h with rfl | rfl | rfl | rfl <;> decide +kernel
theorem rdI_A3 {d : Nat} (h : zis 0 d = true) {x : Int} {M : Nat → Nat → Int} (h0 : 0 ≤ x) (h1 : x < 30) : rdI (d + 3) x M = some (M (d + 3) x.toNat) := rdI_at (sh_A3 h) h0 h1
theorem wrI_A3 {d : Nat} (h : zis 0 d = true) {x y : Int} {M : Nat → Nat → Int} (h0 : 0 ≤ x) (h1 : x < 30) : wrI (d + 3) x y M = some (zup M (d + 3) x.toNat y) := wrI_at (sh_A3 h) h0 h1
theorem sh_A4 {d : Nat} (h : zis 0 d = true) : zSH[d + 4]? = some (0, 30) := by rcases zis_0 h with rfl | rfl | rfl | rfl <;> decide +kernel
theorem rdI_A4 {d : Nat} (h : zis 0 d = true) {x : Int} {M : Nat → Nat → Int} (h0 : 0 ≤ x) (h1 : x < 30) : rdI (d + 4) x M = some (M (d + 4) x.toNat) := rdI_at (sh_A4 h) h0 h1
theorem wrI_A4 {d : Nat} (h : zis 0 d = true) {x y : Int} {M : Nat → Nat → Int} (h0 : 0 ≤ x) (h1 : x < 30) : wrI (d + 4) x y M = some (zup M (d + 4) x.toNat y) := wrI_at (sh_A4 h) h0 h1
theorem sh_A5 {d : Nat} (h : zis 0 d = true) : zSH[d + 5]? = some (0, 100) := by rcases zis_0 h with rfl | rfl | rfl | rfl <;> decide +kernel
theorem rdI_A5 {d : Nat} (h : zis 0 d = true) {x : Int} {M : Nat → Nat → Int} (h0 : 0 ≤ x) (h1 : x < 100) : rdI (d + 5) x M = some (M (d + 5) x.toNat) := rdI_at (sh_A5 h) h0 h1
theorem wrI_A5 {d : Nat} (h : zis 0 d = true) {x y : Int} {M : Nat → Nat → Int} (h0 : 0 ≤ x) (h1 : x < 100) : wrI (d + 5) x y M = some (zup M (d + 5) x.toNat y) := wrI_at (sh_A5 h) h0 h1
theorem sh_D2 {d : Nat} (h : zis 1 d = true) : zSH[d + 2]? = some (0, 8) := by rcases zis_1 h with rfl | rfl <;> decide +kernel
theorem rdI_D2 {d : Nat} (h : zis 1 d = true) {x : Int} {M : Nat → Nat → Int} (h0 : 0 ≤ x) (h1 : x < 8) : rdI (d + 2) x M = some (M (d + 2) x.toNat) := rdI_at (sh_D2 h) h0 h1
theorem wrI_D2 {d : Nat} (h : zis 1 d = true) {x y : Int} {M : Nat → Nat → Int} (h0 : 0 ≤ x) (h1 : x < 8) : wrI (d + 2) x y M = some (zup M (d + 2) x.toNat y) := wrI_at (sh_D2 h) h0 h1
theorem sh_D3 {d : Nat} (h : zis 1 d = true) : zSH[d + 3]? = some (0, 5) := by rcases zis_1 h with rfl | rfl <;> decide +kernel
theorem rdI_D3 {d : Nat} (h : zis 1 d = true) {x : Int} {M : Nat → Nat → Int} (h0 : 0 ≤ x) (h1 : x < 5) : rdI (d + 3) x M = some (M (d + 3) x.toNat) := rdI_at (sh_D3 h) h0 h1
theorem wrI_D3 {d : Nat} (h : zis 1 d = true) {x y : Int} {M : Nat → Nat → Int} (h0 : 0 ≤ x) (h1 : x < 5) : wrI (d + 3) x y M = some (zup M (d + 3) x.toNat y) := wrI_at (sh_D3 h) h0 h1
theorem sh_D4 {d : Nat} (h : zis 1 d = true) : zSH[d + 4]? = some (0, 5) := by rcases zis_1 h with rfl | rfl <;> decide +kernel
theorem rdI_D4 {d : Nat} (h : zis 1 d = true) {x : Int} {M : Nat → Nat → Int} (h0 : 0 ≤ x) (h1 : x < 5) : rdI (d + 4) x M = some (M (d + 4) x.toNat) := rdI_at (sh_D4 h) h0 h1
theorem wrI_D4 {d : Nat} (h : zis 1 d = true) {x y : Int} {M : Nat → Nat → Int} (h0 : 0 ≤ x) (h1 : x < 5) : wrI (d + 4) x y M = some (zup M (d + 4) x.toNat y) := wrI_at (sh_D4 h) h0 h1
theorem sh_D5 {d : Nat} (h : zis 1 d = true) : zSH[d + 5]? = some (0, 105) := by rcases zis_1 h with rfl | rfl <;> decide +kernel
theorem rdI_D5 {d : Nat} (h : zis 1 d = true) {x : Int} {M : Nat → Nat → Int} (h0 : 0 ≤ x) (h1 : x < 105) : rdI (d + 5) x M = some (M (d + 5) x.toNat) := rdI_at (sh_D5 h) h0 h1
theorem wrI_D5 {d : Nat} (h : zis 1 d = true) {x y : Int} {M : Nat → Nat → Int} (h0 : 0 ≤ x) (h1 : x < 105) : wrI (d + 5) x y M = some (zup M (d + 5) x.toNat y) := wrI_at (sh_D5 h) h0 h1
theorem sh_D6 {d : Nat} (h : zis 1 d = true) : zSH[d + 6]? = some (0, 105) := by rcases zis_1 h with rfl | rfl <;> decide +kernel
theorem rdI_D6 {d : Nat} (h : zis 1 d = true) {x : Int} {M : Nat → Nat → Int} (h0 : 0 ≤ x) (h1 : x < 105) : rdI (d + 6) x M = some (M (d + 6) x.toNat) := rdI_at (sh_D6 h) h0 h1
theorem wrI_D6 {d : Nat} (h : zis 1 d = true) {x y : Int} {M : Nat → Nat → Int} (h0 : 0 ≤ x) (h1 : x < 105) : wrI (d + 6) x y M = some (zup M (d + 6) x.toNat y) := wrI_at (sh_D6 h) h0 h1
theorem sh_D7 {d : Nat} (h : zis 1 d = true) : zSH[d + 7]? = some (0, 21) := by rcases zis_1 h with rfl | rfl <;> decide +kernel
theorem rdI_D7 {d : Nat} (h : zis 1 d = true) {x : Int} {M : Nat → Nat → Int} (h0 : 0 ≤ x) (h1 : x < 21) : rdI (d + 7) x M = some (M (d + 7) x.toNat) := rdI_at (sh_D7 h) h0 h1
theorem wrI_D7 {d : Nat} (h : zis 1 d = true) {x y : Int} {M : Nat → Nat → Int} (h0 : 0 ≤ x) (h1 : x < 21) : wrI (d + 7) x y M = some (zup M (d + 7) x.toNat y) := wrI_at (sh_D7 h) h0 h1
theorem sh_N1 {d : Nat} (h : zis 3 d = true) : zSH[d + 1]? = some (0, 8) := by rcases zis_3 h with rfl | rfl <;> decide +kernel
theorem rdI_N1 {d : Nat} (h : zis 3 d = true) {x : Int} {M : Nat → Nat → Int} (h0 : 0 ≤ x) (h1 : x < 8) : rdI (d + 1) x M = some (M (d + 1) x.toNat) := rdI_at (sh_N1 h) h0 h1
theorem wrI_N1 {d : Nat} (h : zis 3 d = true) {x y : Int} {M : Nat → Nat → Int} (h0 : 0 ≤ x) (h1 : x < 8) : wrI (d + 1) x y M = some (zup M (d + 1) x.toNat y) := wrI_at (sh_N1 h) h0 h1
theorem sh_T1 {d : Nat} (h : zis 6 d = true) : zSH[d + 1]? = some (0, 12) := by rcases zis_6 h with rfl | rfl | rfl | rfl | rfl <;> decide +kernel
theorem rdI_T1 {d : Nat} (h : zis 6 d = true) {x : Int} {M : Nat → Nat → Int} (h0 : 0 ≤ x) (h1 : x < 12) : rdI (d + 1) x M = some (M (d + 1) x.toNat) := rdI_at (sh_T1 h) h0 h1
theorem wrI_T1 {d : Nat} (h : zis 6 d = true) {x y : Int} {M : Nat → Nat → Int} (h0 : 0 ≤ x) (h1 : x < 12) : wrI (d + 1) x y M = some (zup M (d + 1) x.toNat y) := wrI_at (sh_T1 h) h0 h1
theorem sh_T2 {d : Nat} (h : zis 6 d = true) : zSH[d + 2]? = some (0, 12) := by rcases zis_6 h with rfl | rfl | rfl | rfl | rfl <;> decide +kernel
theorem rdI_T2 {d : Nat} (h : zis 6 d = true) {x : Int} {M : Nat → Nat → Int} (h0 : 0 ≤ x) (h1 : x < 12) : rdI (d + 2) x M = some (M (d + 2) x.toNat) := rdI_at (sh_T2 h) h0 h1
theorem wrI_T2 {d : Nat} (h : zis 6 d = true) {x y : Int} {M : Nat → Nat → Int} (h0 : 0 ≤ x) (h1 : x < 12) : wrI (d + 2) x y M = some (zup M (d + 2) x.toNat y) := wrI_at (sh_T2 h) h0 h1
theorem sh_T3 {d : Nat} (h : zis 6 d = true) : zSH[d + 3]? = some (0, 8) := by rcases zis_6 h with rfl | rfl | rfl | rfl | rfl <;> decide +kernel
theorem rdI_T3 {d : Nat} (h : zis 6 d = true) {x : Int} {M : Nat → Nat → Int} (h0 : 0 ≤ x) (h1 : x < 8) : rdI (d + 3) x M = some (M (d + 3) x.toNat) := rdI_at (sh_T3 h) h0 h1
theorem wrI_T3 {d : Nat} (h : zis 6 d = true) {x y : Int} {M : Nat → Nat → Int} (h0 : 0 ≤ x) (h1 : x < 8) : wrI (d + 3) x y M = some (zup M (d + 3) x.toNat y) := wrI_at (sh_T3 h) h0 h1
theorem sh_T4 {d : Nat} (h : zis 6 d = true) : zSH[d + 4]? = some (0, 5) := by rcases zis_6 h with rfl | rfl | rfl | rfl | rfl <;> decide +kernel
theorem rdI_T4 {d : Nat} (h : zis 6 d = true) {x : Int} {M : Nat → Nat → Int} (h0 : 0 ≤ x) (h1 : x < 5) : rdI (d + 4) x M = some (M (d + 4) x.toNat) := rdI_at (sh_T4 h) h0 h1
theorem wrI_T4 {d : Nat} (h : zis 6 d = true) {x y : Int} {M : Nat → Nat → Int} (h0 : 0 ≤ x) (h1 : x < 5) : wrI (d + 4) x y M = some (zup M (d + 4) x.toNat y) := wrI_at (sh_T4 h) h0 h1
theorem sh_T5 {d : Nat} (h : zis 6 d = true) : zSH[d + 5]? = some (0, 5) := by rcases zis_6 h with rfl | rfl | rfl | rfl | rfl <;> decide +kernel
theorem rdI_T5 {d : Nat} (h : zis 6 d = true) {x : Int} {M : Nat → Nat → Int} (h0 : 0 ≤ x) (h1 : x < 5) : rdI (d + 5) x M = some (M (d + 5) x.toNat) := rdI_at (sh_T5 h) h0 h1
theorem wrI_T5 {d : Nat} (h : zis 6 d = true) {x y : Int} {M : Nat → Nat → Int} (h0 : 0 ≤ x) (h1 : x < 5) : wrI (d + 5) x y M = some (zup M (d + 5) x.toNat y) := wrI_at (sh_T5 h) h0 h1
theorem sh_T6 {d : Nat} (h : zis 6 d = true) : zSH[d + 6]? = some (0, 5) := by rcases zis_6 h with rfl | rfl | rfl | rfl | rfl <;> decide +kernel
theorem rdI_T6 {d : Nat} (h : zis 6 d = true) {x : Int} {M : Nat → Nat → Int} (h0 : 0 ≤ x) (h1 : x < 5) : rdI (d + 6) x M = some (M (d + 6) x.toNat) := rdI_at (sh_T6 h) h0 h1
theorem wrI_T6 {d : Nat} (h : zis 6 d = true) {x y : Int} {M : Nat → Nat → Int} (h0 : 0 ≤ x) (h1 : x < 5) : wrI (d + 6) x y M = some (zup M (d + 6) x.toNat y) := wrI_at (sh_T6 h) h0 h1
theorem sh_T7 {d : Nat} (h : zis 6 d = true) : zSH[d + 7]? = some (0, 5) := by rcases zis_6 h with rfl | rfl | rfl | rfl | rfl <;> decide +kernel
theorem rdI_T7 {d : Nat} (h : zis 6 d = true) {x : Int} {M : Nat → Nat → Int} (h0 : 0 ≤ x) (h1 : x < 5) : rdI (d + 7) x M = some (M (d + 7) x.toNat) := rdI_at (sh_T7 h) h0 h1
theorem wrI_T7 {d : Nat} (h : zis 6 d = true) {x y : Int} {M : Nat → Nat → Int} (h0 : 0 ≤ x) (h1 : x < 5) : wrI (d + 7) x y M = some (zup M (d + 7) x.toNat y) := wrI_at (sh_T7 h) h0 h1
theorem sh_T8 {d : Nat} (h : zis 6 d = true) : zSH[d + 8]? = some (0, 40) := by rcases zis_6 h with rfl | rfl | rfl | rfl | rfl <;> decide +kernel
theorem rdI_T8 {d : Nat} (h : zis 6 d = true) {x : Int} {M : Nat → Nat → Int} (h0 : 0 ≤ x) (h1 : x < 40) : rdI (d + 8) x M = some (M (d + 8) x.toNat) := rdI_at (sh_T8 h) h0 h1
theorem wrI_T8 {d : Nat} (h : zis 6 d = true) {x y : Int} {M : Nat → Nat → Int} (h0 : 0 ≤ x) (h1 : x < 40) : wrI (d + 8) x y M = some (zup M (d + 8) x.toNat y) := wrI_at (sh_T8 h) h0 h1
theorem sh_T9 {d : Nat} (h : zis 6 d = true) : zSH[d + 9]? = some (0, 6) := by rcases zis_6 h with rfl | rfl | rfl | rfl | rfl <;> decide +kernel
theorem rdI_T9 {d : Nat} (h : zis 6 d = true) {x : Int} {M : Nat → Nat → Int} (h0 : 0 ≤ x) (h1 : x < 6) : rdI (d + 9) x M = some (M (d + 9) x.toNat) := rdI_at (sh_T9 h) h0 h1
theorem wrI_T9 {d : Nat} (h : zis 6 d = true) {x y : Int} {M : Nat → Nat → Int} (h0 : 0 ≤ x) (h1 : x < 6) : wrI (d + 9) x y M = some (zup M (d + 9) x.toNat y) := wrI_at (sh_T9 h) h0 h1
/-! Loops as folds. -/
def zfo {A : Type} (g : Nat → A → A) : Nat → A → A
  | 0, a => a
  | k + 1, a => g k (zfo g k a)
def zfi {X : Type} (p : Nat → Option X) : Nat → Option X
  | 0 => none
  | k + 1 => match zfi p k with
    | some x => some x
    | none => p k
theorem zfo_congr {A : Type} {g g' : Nat → A → A} {a : A} : ∀ (k : Nat), (∀ i, i < k → g i (zfo g i a) = g' i (zfo g i a)) → zfo g k a = zfo g' k a
  | 0, _ => rfl
  | k + 1, h => by
    have e := zfo_congr k (fun i hi => h i (by omega))
    show g k (zfo g k a) = g' k (zfo g' k a)
    rw [h k (by omega), e]
theorem zfo_inv {A : Type} {g : Nat → A → A} {a : A} (J : Nat → A → Prop) (b : Nat) (h0 : J 0 a) (hs : ∀ i x, i < b → J i x → J (i + 1) (g i x)) : ∀ k, k ≤ b → J k (zfo g k a)
  | 0, _ => h0
  | k + 1, hk => hs k _ (by omega) (zfo_inv J b h0 hs k (by omega))
theorem zfi_none {X : Type} {p : Nat → Option X} : ∀ (k : Nat), zfi p k = none ↔ ∀ i, i < k → p i = none
  | 0 => ⟨fun _ i hi => by omega, fun _ => rfl⟩
  | k + 1 => by
    have ih := zfi_none (p := p) k
    constructor
    · intro h i hi
      unfold zfi at h
      cases hz : zfi p k with
      | some x => rw [hz] at h; cases h
      | none =>
        rw [hz] at h
        by_cases e : i = k
        · rw [e]; exact h
        · exact ih.mp hz i (by omega)
    · intro h
      unfold zfi
      rw [ih.mpr (fun i hi => h i (by omega))]
      exact h k (by omega)
theorem zfi_congr {X : Type} {p p' : Nat → Option X} : ∀ (k : Nat), (∀ i, i < k → p i = p' i) → zfi p k = zfi p' k
  | 0, _ => rfl
  | k + 1, h => by
    unfold zfi
    rw [zfi_congr k (fun i hi => h i (by omega)), h k (by omega)]
theorem zfi_s {X : Type} {p : Nat → Option X} {k : Nat} {x : X} (h : zfi p k = some x) : zfi p (k + 1) = some x := by
  unfold zfi
  rw [h]
theorem zfi_n {X : Type} {p : Nat → Option X} {k : Nat} (h : zfi p k = none) : zfi p (k + 1) = p k := by
  have e : zfi p (k + 1) = (match zfi p k with | some x => some x | none => p k) := by rw [zfi]
  rw [e, h]
/-- a counting loop -/
theorem loopU {A R : Type} (F : Nat → Nat → A → Option R) (b : Nat) (g : Nat → A → A) (e : A → Option R) (a0 : A) (hs : ∀ n i, i < b → F (n + 1) i (zfo g i a0) = F n (i + 1) (g i (zfo g i a0))) (he : ∀ n, F (n + 1) b (zfo g b a0) = e (zfo g b a0)) : ∀ fuel, b < fuel → F fuel 0 a0 = e (zfo g b a0) := by
  have key : ∀ m i n, i + m = b → F (m + 1 + n) i (zfo g i a0) = e (zfo g b a0) := by
    intro m
    induction m with
    | zero =>
      intro i n h
      have hi : i = b := by omega
      subst hi
      rw [show 0 + 1 + n = n + 1 by omega]
      exact he n
    | succ m ih =>
      intro i n h
      rw [show m + 1 + 1 + n = (m + 1 + n) + 1 by omega, hs _ i (by omega)]
      exact ih (i + 1) n (by omega)
  intro fuel hf
  have h := key b 0 (fuel - b - 1) (by omega)
  rw [show b + 1 + (fuel - b - 1) = fuel by omega] at h
  exact h
/-- a counting loop that may end early -/
theorem loopE {A R : Type} (F : Nat → Nat → A → Option R) (b : Nat) (g : Nat → A → A) (r : Nat → A → Option (Option R)) (e : A → Option R) (a0 : A) (hs : ∀ n i, i < b → (∀ j, j < i → r j (zfo g j a0) = none) → F (n + 1) i (zfo g i a0) = (match r i (zfo g i a0) with | some x => x | none => F n (i + 1) (g i (zfo g i a0)))) (he : ∀ n, (∀ j, j < b → r j (zfo g j a0) = none) → F (n + 1) b (zfo g b a0) = e (zfo g b a0)) : ∀ fuel, b < fuel → F fuel 0 a0 = (match zfi (fun i => r i (zfo g i a0)) b with | some x => x | none => e (zfo g b a0)) := by
  have key : ∀ m i n, i + m = b → (∀ j, j < i → r j (zfo g j a0) = none) → F (m + 1 + n) i (zfo g i a0) = (match zfi (fun i => r i (zfo g i a0)) b with | some x => x | none => e (zfo g b a0)) := by
    intro m
    induction m with
    | zero =>
      intro i n h hj
      have hi : i = b := by omega
      subst hi
      rw [show 0 + 1 + n = n + 1 by omega, (zfi_none (p := fun i => r i (zfo g i a0)) i).mpr hj]
      exact he n hj
    | succ m ih =>
      intro i n h hj
      rw [show m + 1 + 1 + n = (m + 1 + n) + 1 by omega, hs _ i (by omega) hj]
      cases hr : r i (zfo g i a0) with
      | none =>
        refine ih (i + 1) n (by omega) (fun j hj2 => ?_)
        by_cases ej : j = i
        · rw [ej]; exact hr
        · exact hj j (by omega)
      | some x =>
        have up : ∀ k, i + 1 + k ≤ b → zfi (fun i => r i (zfo g i a0)) (i + 1 + k) = some x := by
          intro k
          induction k with
          | zero =>
            intro _
            have e := zfi_n ((zfi_none (p := fun i => r i (zfo g i a0)) i).mpr hj)
            exact e.trans hr
          | succ k ihk =>
            intro hk
            exact zfi_s (ihk (by omega))
        have e1 := up m (by omega)
        rw [show i + 1 + m = b by omega] at e1
        rw [e1]
  intro fuel hf
  have h := key b 0 (fuel - b - 1) (by omega) (fun j hj => by omega)
  rw [show b + 1 + (fuel - b - 1) = fuel by omega] at h
  exact h
