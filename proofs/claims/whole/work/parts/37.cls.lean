/-! The class's day over the memory. -/
def zag (d : Nat) (C M : Nat → Nat → Int) : Prop := ∀ c, c ≠ d + 5 → c ≠ d + 6 → c ≠ d + 7 → M c = C c
theorem zag_r {d : Nat} {C : Nat → Nat → Int} : zag d C C := fun _ _ _ _ => rfl
theorem zag_t {d : Nat} {A B C : Nat → Nat → Int} (h : zag d A B) (k : zag d B C) : zag d A C := fun c h1 h2 h3 => (k c h1 h2 h3).trans (h c h1 h2 h3)
theorem zag_lt {d c : Nat} {C M : Nat → Nat → Int} (hd : zis 1 d = true) (h : zag d C M) (hc : c < 34) : M c = C c := by
  rcases zis_1 hd with rfl | rfl <;> exact h c (by omega) (by omega) (by omega)
theorem zag_up {d c i : Nat} {v : Int} {C M : Nat → Nat → Int} (h : zag d C M) (hc : c = d + 5 ∨ c = d + 6 ∨ c = d + 7) : zag d C (zup M c i v) := fun x h1 h2 h3 => (zup_c (by omega)).trans (h x h1 h2 h3)
theorem lD_aimOf_cg {d : Nat} {x n : Int} {M C : Nat → Nat → Int} (h1 : M d = C d) (h2 : M 28 = C 28) (h3 : M 10 = C 10) (h4 : M 11 = C 11) : lD_aimOf d x n M = lD_aimOf d x n C := by
  unfold lD_aimOf
  simp only [h1, rdI_cg h2, rdI_cg h3, rdI_cg h4]
theorem lD_inkAt_cg {d : Nat} {x : Int} {M C : Nat → Nat → Int} (h1 : M d = C d) (h2 : M 6 = C 6) : lD_inkAt d x M = lD_inkAt d x C := by
  unfold lD_inkAt
  simp only [h1, rdI_cg h2]
theorem lN_joins_cg {d : Nat} {x y : Int} {M C : Nat → Nat → Int} (h1 : M (d + 1) = C (d + 1)) : lN_joins d x y M = lN_joins d x y C := by
  unfold lN_joins
  simp only [rdI_cg h1]
/-- what the class's day rests on -/
def zcE (d : Nat) (C : Nat → Nat → Int) (E : zE) : Prop := zis 1 d = true ∧ zeOk E ∧ C 3 7 = (zeB E : Int) ∧ C 3 8 = (zeC E : Int) ∧ (∀ x, 0 ≤ x → x < 8 → lD_inkAt d x C = some (zeF E x)) ∧ (∀ p n : Nat, p < zeB E → n < 20 → lD_aimOf d p n C = some (zeA E p n)) ∧ (∀ x y, 0 ≤ x → x < 8 → -1 ≤ y → y < 8 → lN_joins (d + 1) x y C = some (zbo (zeJ E x y = true))) ∧ C d 8 = zeL E ∧ (∀ k, k < zeC E → C 12 k = (zeP E k : Int))
def zcR (d B n : Nat) (s : zD) (M : Nat → Nat → Int) : Prop := ∀ p, p < B → M (d + 5) (5 * n + p) = zdP s p ∧ M (d + 6) (5 * n + p) = zdK s p
theorem zeP_lt {E : zE} (he : zeOk E) {k : Nat} (hk : k < zeC E) : zeP E k < 32 := by
  have h1 := (he.2.2.2.2.2.1 k hk).1
  have h2 : 2 ^ zeB E ≤ 2 ^ 5 := Nat.pow_le_pow_right (by decide) he.1
  omega
theorem lD_drinkAll_ok {d n : Nat} {C M : Nat → Nat → Int} {E : zE} {s : zD} (he : zcE d C E) (ha : zag d C M) (hn : n ≤ 20) (hs : zdOk E n s) (hr : zcR d (zeB E) n s M) : zS (lD_drinkAll d n M) (fun M' => zag d C M' ∧ zcR d (zeB E) n (zdFd E s) M' ∧ M' (d + 5) = M (d + 5) ∧ M' (d + 7) = M (d + 7) ∧ ∀ i, i < 5 * n → M' (d + 6) i = M (d + 6) i) := by
  obtain ⟨hd, hok, hB, hC, hF, hA, hJ, hL, hP⟩ := he
  have hb5 := hok.1
  unfold lD_drinkAll
  rw [if_pos hd]
  refine loopI (fun m i M => lD_drinkAll_c2 d n m (i : Int) M) (fun i M' => zag d C M' ∧ (∀ p, p < zeB E → M' (d + 6) (5 * n + p) = if p < i then zdK (zdFd E s) p else zdK s p) ∧ M' (d + 5) = M (d + 5) ∧ M' (d + 7) = M (d + 7) ∧ ∀ i, i < 5 * n → M' (d + 6) i = M (d + 6) i) 0 (zeB E) (by omega) ?_ ?_ ?_ zN (zN_gt (by omega))
  · exact ⟨ha, fun p hp => by rw [if_neg (by omega)]; exact (hr p hp).2, rfl, rfl, fun _ _ => rfl⟩
  · intro m i M1 _ hi ⟨h1, h2, h3, h4, h5⟩ k
    have hsi := hs.1 i hi
    have hFi := hok.2.2.2.1 (zdP s i) hsi.1 hsi.2.1
    show zS (lD_drinkAll_c2 d n (m + 1) (i : Int) M1) _
    rw [lD_drinkAll_c2]
    refine zS_it (by rw [zag_lt hd h1 (by omega)]; omega) ?_
    rw [w5' (by omega) (by omega), w1 (by omega)]
    refine zS_b (rdI_n (sh_D6 hd) (by omega)) ?_
    refine zS_b (rdI_n (sh_D5 hd) (by omega)) ?_
    rw [h2 i hi, if_neg (by omega), h3, (hr i hi).1]
    refine zS_b ((lD_inkAt_cg (h1 d (by omega) (by omega) (by omega)) (zag_lt hd h1 (by omega))).trans (hF _ hsi.1 hsi.2.1)) ?_
    refine zS_b (wrI_n (sh_D6 hd) (by omega)) ?_
    rw [w32_eq (by omega) (by omega)]
    refine k _ ⟨zag_up h1 (by omega), fun p hp => ?_, ?_, ?_, fun j hj => ?_⟩
    · rw [zup_a]
      by_cases hpi : p = i
      · subst hpi
        rw [if_pos rfl, if_pos (by omega)]
        rfl
      · rw [if_neg (by omega), h2 p hp]
        by_cases hlt : p < i
        · rw [if_pos hlt, if_pos (by omega)]
        · rw [if_neg hlt, if_neg (by omega)]
    · rw [zup_c (by omega)]; exact h3
    · rw [zup_c (by omega)]; exact h4
    · rw [zup_i (by omega)]; exact h5 j hj
  · intro m M1 ⟨h1, h2, h3, h4, h5⟩
    show zS (lD_drinkAll_c2 d n (m + 1) (zeB E : Int) M1) _
    rw [lD_drinkAll_c2]
    refine zS_ie (by rw [zag_lt hd h1 (by omega)]; omega) ?_
    refine zS_r ⟨h1, fun p hp => ⟨?_, ?_⟩, h3, h4, h5⟩
    · rw [h3]; exact (hr p hp).1
    · rw [h2 p hp, if_pos hp]
theorem lD_payInk_ok {d n t : Nat} {C M : Nat → Nat → Int} {E : zE} {K : Nat → Int} (he : zcE d C E) (ha : zag d C M) (hn : n ≤ 20) (ht : t < 32) (hr : ∀ p, p < zeB E → M (d + 6) (5 * n + p) = K p ∧ 0 ≤ K p ∧ K p ≤ 60) : zS (lD_payInk d t n M) (fun M' => zag d C M' ∧ (∀ p, p < zeB E → M' (d + 6) (5 * n + p) = K p - (if t.testBit p then 1 else 0)) ∧ M' (d + 5) = M (d + 5) ∧ M' (d + 7) = M (d + 7) ∧ ∀ i, i < 5 * n → M' (d + 6) i = M (d + 6) i) := by
  obtain ⟨hd, hok, hB, hC, hF, hA, hJ, hL, hP⟩ := he
  have hb5 := hok.1
  unfold lD_payInk
  rw [if_pos hd]
  refine loopI (fun m i M => lD_payInk_c2 d t n m (i : Int) M) (fun i M' => zag d C M' ∧ (∀ p, p < zeB E → M' (d + 6) (5 * n + p) = if p < i then K p - (if t.testBit p then 1 else 0) else K p) ∧ M' (d + 5) = M (d + 5) ∧ M' (d + 7) = M (d + 7) ∧ ∀ i, i < 5 * n → M' (d + 6) i = M (d + 6) i) 0 (zeB E) (by omega) ?_ ?_ ?_ zN (zN_gt (by omega))
  · exact ⟨ha, fun p hp => by rw [if_neg (by omega)]; exact (hr p hp).1, rfl, rfl, fun _ _ => rfl⟩
  · intro m i M1 _ hi ⟨h1, h2, h3, h4, h5⟩ k
    have hsi := hr i hi
    show zS (lD_payInk_c2 d t n (m + 1) (i : Int) M1) _
    rw [lD_payInk_c2]
    refine zS_it (by rw [zag_lt hd h1 (by omega)]; omega) ?_
    rw [w5' (by omega) (by omega), w1 (by omega), zbit_nat (by omega) (by omega)]
    refine zS_b (rdI_n (sh_D6 hd) (by omega)) ?_
    rw [h2 i hi, if_neg (by omega)]
    refine zS_b (wrI_n (sh_D6 hd) (by omega)) ?_
    have hw : w32 (K i - (if t.testBit i = true then 1 else 0)) = K i - (if t.testBit i = true then 1 else 0) := by split <;> exact w32_eq (by omega) (by omega)
    rw [hw]
    refine k _ ⟨zag_up h1 (by omega), fun p hp => ?_, ?_, ?_, fun j hj => ?_⟩
    · rw [zup_a]
      by_cases hpi : p = i
      · subst hpi
        rw [if_pos rfl, if_pos (show p < p + 1 by omega)]
      · rw [if_neg (by omega), h2 p hp]
        by_cases hlt : p < i
        · rw [if_pos hlt, if_pos (show p < i + 1 by omega)]
        · rw [if_neg hlt, if_neg (show ¬ p < i + 1 by omega)]
    · rw [zup_c (by omega)]; exact h3
    · rw [zup_c (by omega)]; exact h4
    · rw [zup_i (by omega)]; exact h5 j hj
  · intro m M1 ⟨h1, h2, h3, h4, h5⟩
    show zS (lD_payInk_c2 d t n (m + 1) (zeB E : Int) M1) _
    rw [lD_payInk_c2]
    refine zS_ie (by rw [zag_lt hd h1 (by omega)]; omega) ?_
    refine zS_r ⟨h1, fun p hp => ?_, h3, h4, h5⟩
    rw [h2 p hp, if_pos hp]
theorem lD_isBarred_eq {d : Nat} {x1 x2 x3 : Int} {M : Nat → Nat → Int} (hd : zis 1 d = true) (h1 : x1 = 0 ∨ x1 = 1) (h2 : x2 = 0 ∨ x2 = 1) (h3 : x3 = 0 ∨ x3 = 1) : lD_isBarred d x1 x2 x3 M = some (if M d 8 = 1 then x1 else if M d 8 = 2 then x2 else if M d 8 = 3 then x3 else 0) := by
  unfold lD_isBarred
  rw [if_pos hd, if_pos h1, if_pos h2, if_pos h3]
  split
  · rfl
  · split
    · rfl
    · split <;> rfl
/-- the contracts signed as bits -/
def zcD (E : zE) (s : zD) (D : Int) : Prop := D = zst (zeC E) (fun k => decide (zdA s k ≠ -1))
theorem zcD_n {E : zE} {s : zD} {D : Int} (he : zeOk E) (h : zcD E s D) : ∃ D' : Nat, D = (D' : Int) ∧ D' < 64 ∧ ∀ k, D'.testBit k = (decide (k < zeC E) && decide (zdA s k ≠ -1)) := by
  have h6 := he.2.1
  refine ⟨zsn (zeC E) (fun k => decide (zdA s k ≠ -1)), ?_, ?_, fun k => zsn_bit _⟩
  · rw [h, zst_nat _ (by omega)]
  · have h1 := zsn_lt (f := fun k => decide (zdA s k ≠ -1)) (zeC E)
    have h2 : 2 ^ zeC E ≤ 2 ^ 6 := Nat.pow_le_pow_right (by decide) h6
    omega
theorem zcD_of {E : zE} {s : zD} {D : Nat} (he : zeOk E) (h : ∀ k, D.testBit k = (decide (k < zeC E) && decide (zdA s k ≠ -1))) : zcD E s (D : Int) := by
  have h6 := he.2.1
  unfold zcD
  rw [zst_nat _ (by omega), zsn_of h]
