/-! Who meets whom. -/
theorem zco_ne {f : Nat → Bool} {pl : Nat → Int} {b : Nat} (h : ∀ p, p < b → 0 ≤ pl p) : zco f pl b ≠ -1 ↔ (∃ p, p < b ∧ f p = true) ∧ ∃ x, ∀ p, p < b → f p = true → pl p = x := by
  rw [zco_ci]
  constructor
  · intro hz
    obtain ⟨h1, h2, h3⟩ := zci_ne h hz
    exact ⟨h2, _, fun p hp hf => (h3 p hp hf).1⟩
  · intro ⟨h1, x, h2⟩
    obtain ⟨q, hq, hqf⟩ := h1
    have e := zci_of (ik := fun _ => 1) h ⟨q, hq, hqf⟩ (fun p hp hf => ⟨h2 p hp hf, by decide⟩)
    rw [e, ← h2 q hq hqf]
    have := h q hq
    omega
theorem wam_lt {W : Nat → Int} {st : Nat → Bool} {p n : Nat} (hw : wOk W) (hp : p < (W 6).toNat) : wam W st p n < W 0 := by
  have hs := wsn_b hw (Nat.le_refl _) p n
  have hq := hw.2.2.2.2.2.2.2.2.2.2.2.2.2.2.1 p hp
  unfold wam
  by_cases h1 : st p = true
  · rw [if_pos h1]; omega
  · rw [if_neg h1]
    by_cases h2 : wsent W p n ≠ -1
    · rw [if_pos h2]
      unfold wsent at h2 ⊢
      omega
    · rw [if_neg h2]
      by_cases h3 : W (42 + 12 * p + 3) = 0
      · rw [if_pos h3]; omega
      · rw [if_neg h3]
        have h4 := hq.2.2.2.2.2.2.2.2 (n % (W (42 + 12 * p + 3)).toNat) (Nat.mod_lt _ (by omega))
        omega
theorem zdP_lt {E : zE} {K : Int} (hH : ∀ p, p < zeB E → zeH E p < K) (hA : ∀ p n, p < zeB E → zeA E p n < K) : ∀ {n : Nat} {p : Nat}, p < zeB E → zdP (zdD E n) p < K
  | 0, p, hp => by
    have e : zdP (zdD E 0) p = zeH E p := by
      show zdP (zdSg E 0 (zeC E) (zdFd E (zd0 E))) p = _
      rw [zdSg_P]
      rfl
    rw [e]
    exact hH p hp
  | n + 1, p, hp => by
    have ih := zdP_lt hH hA (n := n) hp
    have e : zdP (zdD E (n + 1)) p = if zeR E n = false ∧ 0 < zdK (zdD E n) p ∧ zeJ E (zdP (zdD E n) p) (zeA E p n) = true then zeA E p n else zdP (zdD E n) p := by
      show zdP (zdSg E (n + 1) (zeC E) (zdFd E (zdGo E n (zeR E n) (zdD E n)))) p = _
      rw [zdSg_P]
      rfl
    rw [e]
    split
    · exact hA p n hp
    · exact ih
theorem dLt {W : Nat → Int} (hw : wOk W) {n p : Nat} (hp : p < (W 6).toNat) : zdP (zdD (zE0 W) n) p < W 0 := zdP_lt (E := zE0 W) (fun p hp => (hw.2.2.2.2.2.2.2.2.2.2.2.2.2.2.1 p hp).2.1) (fun p n hp => wam_lt (st := fun _ => false) (n := n) hw hp) hp
section ZQD
variable {W : Nat → Int} {M : Nat → Nat → Int} {x : Int}
theorem lD_firstTogether_eq {t : Nat} (h : zInv W M) (ht : t < 2147483648) : lD_firstTogether 29 (t : Int) M = some (zfs ((W 1).toNat + 1) (fun n => decide (zco (fun p => t.testBit p) (zdP (zdD (zE0 W) n)) (W 6).toNat ≠ -1))) := by
  obtain ⟨b1, b2, b3, b4, b5, b6, _⟩ := xB h
  refine zS_eq ?_
  unfold lD_firstTogether
  rw [if_pos zis_1_29]
  refine loopI (A := Unit) (fun m i _ => lD_firstTogether_c2 29 (t : Int) M m (i : Int)) (fun i _ => ∀ j, j < i → decide (zco (fun p => t.testBit p) (zdP (zdD (zE0 W) j)) (W 6).toNat ≠ -1) = false) (a0 := ()) 0 ((W 1).toNat + 1) (by omega) (fun j hj => by omega) ?_ ?_ zN (zN_gt (by omega))
  · intro m i _ _ hi hI k
    have k := k ()
    show zS (lD_firstTogether_c2 29 (t : Int) M (m + 1) (i : Int)) _
    rw [lD_firstTogether_c2]
    refine zS_ie (by omega) ?_
    rw [w1 (by omega)]
    refine zS_b (cCorner h (by omega) ht) ?_
    by_cases hz : zco (fun p => t.testBit p) (zdP (zdD (zE0 W) i)) (W 6).toNat = -1
    · rw [if_pos hz]
      exact k (fun j hj => by
        by_cases hji : j = i
        · rw [hji]; exact decide_eq_false (fun q => q hz)
        · exact hI j (by omega))
    · rw [if_neg hz]
      exact zS_r (zfs_at hi (decide_eq_true hz) hI).symm
  · intro m _ hI
    show zS (lD_firstTogether_c2 29 (t : Int) M (m + 1) (((W 1).toNat + 1 : Nat) : Int)) _
    rw [lD_firstTogether_c2]
    refine zS_it (by omega) ?_
    exact zS_r (zfs_no hI).symm
theorem lD_stepsTogether_eq {t : Nat} (h : zInv W M) (ht : t < 2147483648) : lD_stepsTogether 29 (t : Int) M = some (zsum ((W 1).toNat + 1) (fun n => if zco (fun p => t.testBit p) (zdP (zdD (zE0 W) n)) (W 6).toNat = -1 then 0 else 1)) := by
  obtain ⟨b1, b2, b3, b4, b5, b6, _⟩ := xB h
  refine zS_eq ?_
  unfold lD_stepsTogether
  rw [if_pos zis_1_29]
  refine loopI (fun m i (a : Int) => lD_stepsTogether_c4 29 (t : Int) M m a (i : Int)) (fun i a => a = zsum i (fun n => if zco (fun p => t.testBit p) (zdP (zdD (zE0 W) n)) (W 6).toNat = -1 then 0 else 1)) (a0 := 0) 0 ((W 1).toNat + 1) (by omega) rfl ?_ ?_ zN (zN_gt (by omega))
  · intro m i a _ hi ha k
    have hb := zsum01 (f := fun n => if zco (fun p => t.testBit p) (zdP (zdD (zE0 W) n)) (W 6).toNat = -1 then (0 : Int) else 1) (fun n => by
      by_cases q : zco (fun p => t.testBit p) (zdP (zdD (zE0 W) n)) (W 6).toNat = -1
      · exact Or.inl (if_pos q)
      · exact Or.inr (if_neg q)) i
    have e : zsum (i + 1) (fun n => if zco (fun p => t.testBit p) (zdP (zdD (zE0 W) n)) (W 6).toNat = -1 then (0 : Int) else 1) = zsum i (fun n => if zco (fun p => t.testBit p) (zdP (zdD (zE0 W) n)) (W 6).toNat = -1 then (0 : Int) else 1) + (if zco (fun p => t.testBit p) (zdP (zdD (zE0 W) i)) (W 6).toNat = -1 then 0 else 1) := rfl
    show zS (lD_stepsTogether_c4 29 (t : Int) M (m + 1) a (i : Int)) _
    rw [lD_stepsTogether_c4]
    refine zS_ie (by omega) ?_
    rw [w1 (by omega)]
    refine zS_b (cCorner h (by omega) ht) ?_
    by_cases hz : zco (fun p => t.testBit p) (zdP (zdD (zE0 W) i)) (W 6).toNat = -1
    · rw [if_pos hz]
      exact k _ (by rw [e, if_pos hz, ha, Int.add_zero])
    · rw [if_neg hz]
      exact k _ (by rw [e, if_neg hz, ha, w32_eq (by omega) (by omega)])
  · intro m a ha
    show zS (lD_stepsTogether_c4 29 (t : Int) M (m + 1) a (((W 1).toNat + 1 : Nat) : Int)) _
    rw [lD_stepsTogether_c4]
    refine zS_it (by omega) ?_
    exact zS_r ha
theorem two_bits {a b : Nat} (ha : a < 30) (hb : b < 30) : zor (zshl 1 (a : Int)) (zshl 1 (b : Int)) = ((2 ^ a ||| 2 ^ b : Nat) : Int) ∧ 2 ^ a ||| 2 ^ b < 1073741824 := by
  have pa : (2 : Nat) ^ a ≤ 2 ^ 29 := Nat.pow_le_pow_right (by decide) (by omega)
  have pb : (2 : Nat) ^ b ≤ 2 ^ 29 := Nat.pow_le_pow_right (by decide) (by omega)
  have h29 : (2 : Nat) ^ 29 = 536870912 := by decide
  rw [zshl1 ha, zshl1 hb, zor_nat (by omega) (by omega)]
  exact ⟨rfl, Nat.or_lt_two_pow (n := 30) (by omega) (by omega)⟩
theorem two_bit {a b p : Nat} : (2 ^ a ||| 2 ^ b).testBit p = true ↔ p = a ∨ p = b := by
  rw [Nat.testBit_or, Nat.testBit_two_pow, Nat.testBit_two_pow, Bool.or_eq_true, decide_eq_true_eq, decide_eq_true_eq]
  omega
theorem two_meet (h : zInv W M) {a b n : Nat} (hn : n ≤ (W 1).toNat) (ha : a < (W 6).toNat) (hb : b < (W 6).toNat) : zco (fun p => (2 ^ a ||| 2 ^ b).testBit p) (zdP (zdD (zE0 W) n)) (W 6).toNat ≠ -1 ↔ zdP (zdD (zE0 W) n) a = zdP (zdD (zE0 W) n) b := by
  rw [zco_ne (fun p hp => (dOk h hn hp).1)]
  constructor
  · intro ⟨_, x, hx⟩
    rw [hx a ha (two_bit.mpr (Or.inl rfl)), hx b hb (two_bit.mpr (Or.inr rfl))]
  · intro e
    refine ⟨⟨a, ha, two_bit.mpr (Or.inl rfl)⟩, zdP (zdD (zE0 W) n) b, fun p hp hf => ?_⟩
    rcases two_bit.mp hf with q | q
    · rw [q]; exact e
    · rw [q]
theorem q_meets {y : Int} (h : zInv W M) : zQ1 M (lX_meets x y M) (lm_meets x y M) := by
  obtain ⟨b1, b2, b3, b4, b5, b6, _⟩ := xB h
  obtain ⟨u0, u1, _, _, u4, _, u6, u7, _⟩ := h.2.1
  refine ⟨if (0 ≤ x ∧ x < W 6) ∧ (0 ≤ y ∧ y < W 6) then zfs ((W 1).toNat + 1) (fun n => decide (zdP (zdD (zE0 W) n) x.toNat = zdP (zdD (zE0 W) n) y.toNat)) else -2, ?_, ?_⟩
  · refine zX_g (xName h) (fun c1 => zX_g (xName h) (fun c2 => ?_) (fun c2 => (if_neg (fun q => c2 q.2)).symm)) (fun c1 => (if_neg (fun q => c1 q.1)).symm)
    rw [if_pos ⟨c1, c2⟩]
    obtain ⟨a, rfl⟩ : ∃ n : Nat, x = (n : Int) := ⟨x.toNat, by omega⟩
    obtain ⟨b, rfl⟩ : ∃ n : Nat, y = (n : Int) := ⟨y.toNat, by omega⟩
    obtain ⟨e1, e2⟩ := two_bits (a := a) (b := b) (by omega) (by omega)
    rw [e1]
    refine zS_b (lD_firstTogether_eq h (by omega)) ?_
    refine zS_r (zfs_cg (fun n hn => ?_))
    exact decide_eq_decide.mpr (two_meet h (by omega) (by omega) (by omega))
  · refine zM_q (lm_asksName_ok h.2.1 h.1) (fun c1 r r1 r2 r3 => zM_g (mName h.2.1 r2) r1 (fun c2 => ?_) (fun c2 => (if_neg (fun q => c2 q.2)).symm)) (fun c1 => (if_neg (fun q => c1 q.1)).symm)
    rw [if_pos ⟨c1, c2⟩]
    obtain ⟨a, rfl⟩ : ∃ n : Nat, x = (n : Int) := ⟨x.toNat, by omega⟩
    obtain ⟨b, rfl⟩ : ∃ n : Nat, y = (n : Int) := ⟨y.toNat, by omega⟩
    refine loopI (A := Unit) (fun m i _ => lm_meets_c21 (a : Int) (b : Int) m (i : Int) r.2) (fun i _ => ∀ j, j < i → decide (zdP (zdD (zE0 W) j) a = zdP (zdD (zE0 W) j) b) = false) (a0 := ()) 0 ((W 1).toNat + 1) (by omega) (fun j hj => by omega) ?_ ?_ zN (zN_gt (by omega))
    · intro m i _ _ hi hI k
      have k := k ()
      show zS (lm_meets_c21 (a : Int) (b : Int) (m + 1) (i : Int) r.2) _
      rw [lm_meets_c21]
      refine zS_b lm_last_eq ?_
      refine zS_ie (by rw [r2]; omega) ?_
      rw [w1 (by omega)]
      refine zS_b (lm_placeOf_eq (by omega) (by omega)) ?_
      refine zS_b (lm_placeOf_eq (by omega) (by omega)) ?_
      rw [mP r3 (by omega) (show a < (W 6).toNat by omega), mP r3 (by omega) (show b < (W 6).toNat by omega)]
      by_cases hz : zdP (zdD (zE0 W) i) a = zdP (zdD (zE0 W) i) b
      · rw [if_pos hz]
        exact zS_r ⟨(zfs_at hi (decide_eq_true hz) hI).symm, r1⟩
      · rw [if_neg hz]
        exact k (fun j hj => by
          by_cases hji : j = i
          · rw [hji]; exact decide_eq_false hz
          · exact hI j (by omega))
    · intro m _ hI
      show zS (lm_meets_c21 (a : Int) (b : Int) (m + 1) (((W 1).toNat + 1 : Nat) : Int) r.2) _
      rw [lm_meets_c21]
      refine zS_b lm_last_eq ?_
      refine zS_it (by rw [r2]; omega) ?_
      exact zS_r ⟨(zfs_no hI).symm, r1⟩
theorem q_often {y : Int} (h : zInv W M) : zQ1 M (lX_often x y M) (lm_often x y M) := by
  obtain ⟨b1, b2, b3, b4, b5, b6, _⟩ := xB h
  obtain ⟨u0, u1, _, _, u4, _, u6, u7, _⟩ := h.2.1
  refine ⟨if (0 ≤ x ∧ x < W 6) ∧ (0 ≤ y ∧ y < W 6) then zsum ((W 1).toNat + 1) (fun n => if zdP (zdD (zE0 W) n) x.toNat = zdP (zdD (zE0 W) n) y.toNat then 1 else 0) else -2, ?_, ?_⟩
  · refine zX_g (xName h) (fun c1 => zX_g (xName h) (fun c2 => ?_) (fun c2 => (if_neg (fun q => c2 q.2)).symm)) (fun c1 => (if_neg (fun q => c1 q.1)).symm)
    rw [if_pos ⟨c1, c2⟩]
    obtain ⟨a, rfl⟩ : ∃ n : Nat, x = (n : Int) := ⟨x.toNat, by omega⟩
    obtain ⟨b, rfl⟩ : ∃ n : Nat, y = (n : Int) := ⟨y.toNat, by omega⟩
    obtain ⟨e1, e2⟩ := two_bits (a := a) (b := b) (by omega) (by omega)
    rw [e1]
    refine zS_b (lD_stepsTogether_eq h (by omega)) ?_
    refine zS_r (zsum_congr (fun n hn => ?_))
    have q := two_meet h (a := a) (b := b) (n := n) (by omega) (by omega) (by omega)
    rw [Int.toNat_natCast, Int.toNat_natCast]
    by_cases hz : zdP (zdD (zE0 W) n) a = zdP (zdD (zE0 W) n) b
    · rw [if_pos hz, if_neg (q.mpr hz)]
    · rw [if_neg hz, if_pos (Decidable.byContradiction (fun w => hz (q.mp w)))]
  · refine zM_q (lm_asksName_ok h.2.1 h.1) (fun c1 r r1 r2 r3 => zM_g (mName h.2.1 r2) r1 (fun c2 => ?_) (fun c2 => (if_neg (fun q => c2 q.2)).symm)) (fun c1 => (if_neg (fun q => c1 q.1)).symm)
    rw [if_pos ⟨c1, c2⟩]
    obtain ⟨a, rfl⟩ : ∃ n : Nat, x = (n : Int) := ⟨x.toNat, by omega⟩
    obtain ⟨b, rfl⟩ : ∃ n : Nat, y = (n : Int) := ⟨y.toNat, by omega⟩
    rw [Int.toNat_natCast, Int.toNat_natCast]
    refine loopI (fun m i (v : Int) => lm_often_c24 (a : Int) (b : Int) m v (i : Int) r.2) (fun i v => v = zsum i (fun n => if zdP (zdD (zE0 W) n) a = zdP (zdD (zE0 W) n) b then 1 else 0)) (a0 := 0) 0 ((W 1).toNat + 1) (by omega) rfl ?_ ?_ zN (zN_gt (by omega))
    · intro m i v _ hi hv k
      have hb := zsum01 (f := fun n => if zdP (zdD (zE0 W) n) a = zdP (zdD (zE0 W) n) b then (1 : Int) else 0) (fun n => zb01) i
      have e : zsum (i + 1) (fun n => if zdP (zdD (zE0 W) n) a = zdP (zdD (zE0 W) n) b then (1 : Int) else 0) = zsum i (fun n => if zdP (zdD (zE0 W) n) a = zdP (zdD (zE0 W) n) b then (1 : Int) else 0) + (if zdP (zdD (zE0 W) i) a = zdP (zdD (zE0 W) i) b then 1 else 0) := rfl
      show zS (lm_often_c24 (a : Int) (b : Int) (m + 1) v (i : Int) r.2) _
      rw [lm_often_c24]
      refine zS_b lm_last_eq ?_
      refine zS_ie (by rw [r2]; omega) ?_
      rw [w1 (by omega)]
      refine zS_b (lm_placeOf_eq (by omega) (by omega)) ?_
      refine zS_b (lm_placeOf_eq (by omega) (by omega)) ?_
      rw [mP r3 (by omega) (show a < (W 6).toNat by omega), mP r3 (by omega) (show b < (W 6).toNat by omega)]
      by_cases hz : zdP (zdD (zE0 W) i) a = zdP (zdD (zE0 W) i) b
      · rw [if_pos hz]
        exact k _ (by rw [e, if_pos hz, hv, w32_eq (by omega) (by omega)])
      · rw [if_neg hz]
        exact k _ (by rw [e, if_neg hz, hv, w32_eq (by omega) (by omega)])
    · intro m v hv
      show zS (lm_often_c24 (a : Int) (b : Int) (m + 1) v (((W 1).toNat + 1 : Nat) : Int) r.2) _
      rw [lm_often_c24]
      refine zS_b lm_last_eq ?_
      refine zS_it (by rw [r2]; omega) ?_
      exact zS_r ⟨hv, r1⟩
theorem q_lies (h : zInv W M) : zQ1 M (lX_lies x M) (lm_lies x M) := by
  obtain ⟨b1, b2, b3, b4, b5, b6, b7, b8⟩ := xB h
  obtain ⟨u0, u1, _, _, u4, _, u6, u7, _, _, _, _, _, _, unam, ucon, _⟩ := h.2.1
  refine ⟨if (0 ≤ x ∧ x < W 7) then zfs ((W 1).toNat + 1) (fun n => decide (zco (fun p => (zeP (zE0 W) x.toNat).testBit p) (zdP (zdD (zE0 W) n)) (W 6).toNat ≠ -1)) else -2, ?_, ?_⟩
  · refine zX_g (xCont h) (fun c2 => ?_) (fun c2 => (if_neg c2).symm)
    rw [if_pos c2]
    obtain ⟨k, rfl⟩ : ∃ n : Nat, x = (n : Int) := ⟨x.toNat, by omega⟩
    obtain ⟨p1, p2, p3, p4⟩ := xParty h (show k < (W 7).toNat by omega)
    refine zS_b (rdI_n sh_12 (by omega)) ?_
    rw [p1]
    refine zS_b (lD_firstTogether_eq h (by omega)) ?_
    exact zS_r rfl
  · refine zM_q (lm_asksContract_ok h.2.1 h.1) (fun c2 r r1 r2 r3 => ?_) (fun c2 => (if_neg c2).symm)
    rw [if_pos c2]
    obtain ⟨k, rfl⟩ : ∃ n : Nat, x = (n : Int) := ⟨x.toNat, by omega⟩
    obtain ⟨p1, p2, p3, p4⟩ := xParty h (show k < (W 7).toNat by omega)
    rw [Int.toNat_natCast]
    have hWk : r.2 107 (102 + k) = (zeP (zE0 W) k : Int) := by
      rw [r2]
      obtain ⟨t, e, _⟩ := ucon k (by omega)
      show W (102 + k) = ((W (102 + k)).toNat : Int)
      rw [e]
      rfl
    generalize ht : zeP (zE0 W) k = t at *
    refine loopI (A := Unit) (fun m i _ => lm_lies_c13 (k : Int) m (i : Int) r.2) (fun i _ => ∀ j, j < i → decide (zco (fun p => t.testBit p) (zdP (zdD (zE0 W) j)) (W 6).toNat ≠ -1) = false) (a0 := ()) 0 ((W 1).toNat + 1) (by omega) (fun j hj => by omega) ?_ ?_ zN (zN_gt (by omega))
    · intro m i _ _ hi hI kk
      have kk := kk ()
      have hpl : ∀ p, p < (W 6).toNat → 0 ≤ zdP (zdD (zE0 W) i) p := fun p hp => (dOk h (by omega) hp).1
      have hplW : ∀ p, p < (W 6).toNat → zdP (zdD (zE0 W) i) p < W 0 := fun p hp => dLt h.2.1 hp
      show zS (lm_lies_c13 (k : Int) (m + 1) (i : Int) r.2) _
      rw [lm_lies_c13]
      refine zS_b lm_last_eq ?_
      refine zS_ie (by rw [r2]; omega) ?_
      refine loopI (A := Unit) (fun m' c _ => lm_lies_c23 (k : Int) (lm_lies_c13 (k : Int) m) m' (i : Int) (c : Int) r.2) (fun c _ => ∀ d : Nat, d < c → ¬ (∀ p, p < (W 6).toNat → t.testBit p = true → zdP (zdD (zE0 W) i) p = (d : Int))) (a0 := ()) 0 (W 0).toNat (by omega) (fun j hj => by omega) ?_ ?_ zN (zN_gt (by omega))
      · intro m' c _ _ hc hJ k2
        have k2 := k2 ()
        show zS (lm_lies_c23 (k : Int) (lm_lies_c13 (k : Int) m) (m' + 1) (i : Int) (c : Int) r.2) _
        rw [lm_lies_c23]
        refine zS_b (w107 (by omega) (by omega)) ?_
        refine zS_it (by rw [r2]; show (c : Int) < W 0; omega) ?_
        rw [w1 (n := c) (by omega)]
        refine zS_b (lm_namesOf_eq (by omega)) ?_
        refine zS_b (lm_hereOf_eq (b := (W 6).toNat) (by rw [r2]; omega) b2 (by omega)) ?_
        rw [hWk, zst_congr (g := fun p => decide (zdP (zdD (zE0 W) i) p = (c : Int))) (fun p hp => by rw [mP r3 (by omega) hp])]
        obtain ⟨A, eA, hA, hAb⟩ := zst_bits (f := fun p => decide (zdP (zdD (zE0 W) i) p = (c : Int))) (show (W 6).toNat ≤ 30 by omega)
        rw [eA]
        have hiff : zand (t : Int) (zxor (A : Int) (-1)) = 0 ↔ ∀ p, p < (W 6).toNat → t.testBit p = true → zdP (zdD (zE0 W) i) p = (c : Int) := by
          rw [zandn_0 (by omega)]
          constructor
          · intro q p hp hb
            have q1 := q p hb
            rw [hAb] at q1
            exact of_decide_eq_true ((Bool.and_eq_true _ _).mp q1).2
          · intro q p hb
            have hp := p4 p hb
            rw [hAb, decide_eq_true hp, decide_eq_true (q p hp hb)]
            rfl
        by_cases hz : zand (t : Int) (zxor (A : Int) (-1)) = 0
        · rw [if_pos hz]
          refine zS_r ⟨(zfs_at hi (decide_eq_true ?_) hI).symm, r1⟩
          obtain ⟨p, hp⟩ := zn_ex p3
          exact (zco_ne hpl).mpr ⟨⟨p, p4 p hp, hp⟩, _, hiff.mp hz⟩
        · rw [if_neg hz]
          exact k2 (fun d hd => by
            by_cases hdc : d = c
            · rw [hdc]; exact fun q => hz (hiff.mpr q)
            · exact hJ d (by omega))
      · intro m' _ hJ
        show zS (lm_lies_c23 (k : Int) (lm_lies_c13 (k : Int) m) (m' + 1) (i : Int) ((W 0).toNat : Int) r.2) _
        rw [lm_lies_c23]
        refine zS_b (w107 (by omega) (by omega)) ?_
        refine zS_ie (by rw [r2]; show ¬ (((W 0).toNat : Int) < W 0); omega) ?_
        rw [w1 (n := i) (by omega)]
        refine kk (fun j hj => ?_)
        by_cases hji : j = i
        · rw [hji]
          refine decide_eq_false (fun q => ?_)
          obtain ⟨⟨p, hp, hb⟩, y, hy⟩ := (zco_ne hpl).mp q
          have e1 := hy p hp hb
          have e2 := hpl p hp
          have e3 := hplW p hp
          exact hJ y.toNat (by omega) (fun p hp hb => by rw [hy p hp hb]; omega)
        · exact hI j (by omega)
    · intro m _ hI
      show zS (lm_lies_c13 (k : Int) (m + 1) (((W 1).toNat + 1 : Nat) : Int) r.2) _
      rw [lm_lies_c13]
      refine zS_b lm_last_eq ?_
      refine zS_it (by rw [r2]; omega) ?_
      exact zS_r ⟨(zfs_no hI).symm, r1⟩
end ZQD
