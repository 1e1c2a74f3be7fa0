/-! Rows as pairs; sniffs. -/
section ZSN
variable {W : Nat → Int} {M : Nat → Nat → Int} {x y : Int}
theorem rdA_100 {s : Nat} (hs : s < 4) : rdA 100 (s : Int) = some (101 + s) := by
  have h : s = 0 ∨ s = 1 ∨ s = 2 ∨ s = 3 := by omega
  rcases h with rfl | rfl | rfl | rfl <;> decide +kernel
theorem sh_row {s : Nat} (hs : s < 4) : zSH[101 + s]? = some (2, 60) := by
  have h : s = 0 ∨ s = 1 ∨ s = 2 ∨ s = 3 := by omega
  rcases h with rfl | rfl | rfl | rfl <;> decide +kernel
theorem rdL_n {c n i : Nat} (h : zSH[c]? = some (2, n)) (hi : i < n) : rdL c (i : Int) M = some (M c i) := rdL_at h (by omega) (by omega)
theorem wrL_n {c n i : Nat} {v : Int} (h : zSH[c]? = some (2, n)) (hi : i < n) : wrL c (i : Int) v M = some (zup M c i v) := wrL_at h (by omega) (by omega)
/-- number i of a slot's row -/
def zNb (M : Nat → Nat → Int) (s i : Nat) : Int := M 128 (60 * s + i)
theorem w60 {n p : Nat} (h : n < 1000) (h2 : p < 1000) : w32 (w32 (60 * (n : Int)) + (p : Int)) = ((60 * n + p : Nat) : Int) := by simp (disch := omega) only [w32_eq]; omega
theorem lm_numberAt_eq {s i : Nat} (hs : s < 4) (hi : i < 60) : lm_numberAt (s : Int) (i : Int) M = some (zNb M s i) := by
  refine zS_eq ?_
  unfold lm_numberAt
  rw [w60 (by omega) (by omega)]
  refine zS_b (rdL_n sh_128 (by omega)) ?_
  exact zS_r rfl
/-- a row that is there -/
def zFl (M : Nat → Nat → Int) (s : Nat) : Prop := M 98 s ≠ -1
theorem rLen (h : zInv W M) {s : Nat} (hs : s < 4) (hf : M 126 s ≠ -1) : M 99 s = M 126 s ∧ 0 ≤ M 126 s ∧ M 126 s ≤ 60 ∧ ∀ i, i < 60 → M (101 + s) i = zNb M s i := by
  rcases h.2.2.2.2.2.2.1 s hs with ⟨a, b⟩ | ⟨a, b, _, c, d, e, f⟩
  · exact absurd b hf
  · exact ⟨e, c, d, fun i hi => (f i hi).1⟩
def zPr (M : Nat → Nat → Int) (s : Nat) (P : Int → Int → Bool) : Bool := zal ((M 126 s).toNat / 2) (fun j => P (zNb M s (2 * j)) (zNb M s (2 * j + 1)))
theorem xPairs {s : Nat} {a b c : Int} (h : zInv W M) (hs : s < 4) (hf : M 126 s ≠ -1) : lW_holdsPairs (s : Int) a b c M = some (if M 126 s % 2 = 0 ∧ zPr M s (fun u v => decide (a ≤ u ∧ u ≤ b ∧ 0 ≤ v ∧ v ≤ c)) = true then 1 else 0) := by
  obtain ⟨r1, r2, r3, r4⟩ := rLen h hs hf
  refine zS_eq ?_
  unfold lW_holdsPairs
  refine zS_b (rdI_n sh_99 hs) ?_
  obtain ⟨n, hn⟩ : ∃ n : Nat, M 126 s = (n : Int) := ⟨(M 126 s).toNat, by omega⟩
  have er : zrem (n : Int) 2 = ((n % 2 : Nat) : Int) := zrem_nat (b := 2) (by omega) (by omega)
  rw [r1, hn, er]
  by_cases h2 : n % 2 = 0
  · rw [if_pos (by omega)]
    refine loopI (A := Unit) (fun m i _ => lW_holdsPairs_c16 (s : Int) a b c M m ((2 * i : Nat) : Int)) (fun i _ => ∀ j, j < i → decide (a ≤ zNb M s (2 * j) ∧ zNb M s (2 * j) ≤ b ∧ 0 ≤ zNb M s (2 * j + 1) ∧ zNb M s (2 * j + 1) ≤ c) = true) (a0 := ()) 0 (n / 2) (by omega) (fun j hj => by omega) ?_ ?_ zN (zN_gt (by omega))
    · intro m i _ _ hi hI k
      have k := k ()
      have e1 : w32 (((2 * i : Nat) : Int) + 1) = ((2 * i + 1 : Nat) : Int) := by rw [w32_eq (by omega) (by omega)]; omega
      have e2 : w32 (((2 * i : Nat) : Int) + 2) = ((2 * (i + 1) : Nat) : Int) := by rw [w32_eq (by omega) (by omega)]; omega
      show zS (lW_holdsPairs_c16 (s : Int) a b c M (m + 1) ((2 * i : Nat) : Int)) _
      rw [lW_holdsPairs_c16]
      refine zS_b (rdI_n sh_99 hs) ?_
      rw [r1, hn, e1, e2]
      refine zS_it (by omega) ?_
      refine zS_b (rdA_100 hs) ?_
      refine zS_b (rdL_n (sh_row hs) (by omega)) ?_
      refine zS_b (rdA_100 hs) ?_
      refine zS_b (rdL_n (sh_row hs) (by omega)) ?_
      rw [r4 _ (by omega), r4 _ (by omega)]
      have hbad : ¬ (a ≤ zNb M s (2 * i) ∧ zNb M s (2 * i) ≤ b ∧ 0 ≤ zNb M s (2 * i + 1) ∧ zNb M s (2 * i + 1) ≤ c) → zS (some (0 : Int)) (fun y => y = if ((n : Int) % 2 = 0 ∧ zPr M s (fun u v => decide (a ≤ u ∧ u ≤ b ∧ 0 ≤ v ∧ v ≤ c)) = true) then 1 else 0) := fun hb => zS_r (by
        rw [if_neg]
        intro ⟨_, q⟩
        have q2 := zal_1.mp q i (by omega)
        exact hb (of_decide_eq_true q2))
      by_cases c1 : zNb M s (2 * i) < a
      · rw [if_pos c1]; exact hbad (by omega)
      rw [if_neg c1]
      by_cases c2 : b < zNb M s (2 * i)
      · rw [if_pos c2]; exact hbad (by omega)
      rw [if_neg c2]
      by_cases c3 : zNb M s (2 * i + 1) < 0
      · rw [if_pos c3]; exact hbad (by omega)
      rw [if_neg c3]
      by_cases c4 : c < zNb M s (2 * i + 1)
      · rw [if_pos c4]; exact hbad (by omega)
      rw [if_neg c4]
      exact k (fun j hj => by
        by_cases hji : j = i
        · rw [hji]; exact decide_eq_true (by omega)
        · exact hI j (by omega))
    · intro m _ hI
      have e1 : w32 (((2 * (n / 2) : Nat) : Int) + 1) = ((2 * (n / 2) + 1 : Nat) : Int) := by rw [w32_eq (by omega) (by omega)]; omega
      show zS (lW_holdsPairs_c16 (s : Int) a b c M (m + 1) ((2 * (n / 2) : Nat) : Int)) _
      rw [lW_holdsPairs_c16]
      refine zS_b (rdI_n sh_99 hs) ?_
      rw [r1, hn, e1]
      refine zS_ie (by omega) ?_
      refine zS_r ?_
      rw [if_pos]
      refine ⟨by omega, zal_1.mpr (fun j hj => hI j ?_)⟩
      rw [hn] at hj
      exact hj
  · rw [if_neg (by omega)]
    refine zS_r ?_
    rw [if_neg]
    intro ⟨q, _⟩
    omega
/-- whose it can be -/
def zSf (M : Nat → Nat → Int) (s : Nat) (l : Int) : Bool := zPr M s (fun u v => decide (zremL l u = v))
def zSn (W : Nat → Int) (M : Nat → Nat → Int) (s : Nat) : Int := zst (W 6).toNat (fun p => zSf M s (W (42 + 12 * p + 2)))
def zSo (M : Nat → Nat → Int) (s : Nat) : Bool := zPr M s (fun u v => decide (2 ≤ u ∧ u ≤ 9 ∧ 0 ≤ v ∧ v ≤ 8))
def zSv (W : Nat → Int) (M : Nat → Nat → Int) (x : Int) : Int := if (0 ≤ x ∧ x ≤ 3) ∧ 0 < W 9 then (if M 126 x.toNat ≠ -1 then (if M 126 x.toNat % 2 = 0 ∧ zSo M x.toNat = true then zSn W M x.toNat else -2) else -6) else -2
theorem xAgree {s : Nat} {l : Int} (h : zInv W M) (hs : s < 4) (hf : M 126 s ≠ -1) (h2 : M 126 s % 2 = 0) (ho : zSo M s = true) : lX_agreesWithSniffs (s : Int) l M = some (if zSf M s l = true then 1 else 0) := by
  obtain ⟨r1, r2, r3, r4⟩ := rLen h hs hf
  refine zS_eq ?_
  unfold lX_agreesWithSniffs
  obtain ⟨n, hn⟩ : ∃ n : Nat, M 126 s = (n : Int) := ⟨(M 126 s).toNat, by omega⟩
  refine loopI (A := Unit) (fun m i _ => lX_agreesWithSniffs_c2 (s : Int) l M m ((2 * i : Nat) : Int)) (fun i _ => ∀ j, j < i → decide (zremL l (zNb M s (2 * j)) = zNb M s (2 * j + 1)) = true) (a0 := ()) 0 (n / 2) (by omega) (fun j hj => by omega) ?_ ?_ zN (zN_gt (by omega))
  · intro m i _ _ hi hI k
    have k := k ()
    have e1 : w32 (((2 * i : Nat) : Int) + 1) = ((2 * i + 1 : Nat) : Int) := by rw [w32_eq (by omega) (by omega)]; omega
    have e2 : w32 (((2 * i : Nat) : Int) + 2) = ((2 * (i + 1) : Nat) : Int) := by rw [w32_eq (by omega) (by omega)]; omega
    have hoi := of_decide_eq_true (zal_1.mp ho i (by rw [hn]; exact hi))
    show zS (lX_agreesWithSniffs_c2 (s : Int) l M (m + 1) ((2 * i : Nat) : Int)) _
    rw [lX_agreesWithSniffs_c2]
    refine zS_b (rdI_n sh_99 hs) ?_
    rw [r1, hn, e1, e2]
    refine zS_it (by omega) ?_
    refine zS_b (rdA_100 hs) ?_
    refine zS_b (rdL_n (sh_row hs) (by omega)) ?_
    rw [r4 _ (by omega), if_pos (by omega), if_neg (by omega)]
    refine zS_b (rdA_100 hs) ?_
    refine zS_b (rdL_n (sh_row hs) (by omega)) ?_
    rw [r4 _ (by omega)]
    by_cases c1 : zremL l (zNb M s (2 * i)) = zNb M s (2 * i + 1)
    · rw [if_pos c1]
      exact k (fun j hj => by
        by_cases hji : j = i
        · rw [hji]; exact decide_eq_true c1
        · exact hI j (by omega))
    · rw [if_neg c1]
      refine zS_r ?_
      rw [if_neg]
      intro q
      exact c1 (of_decide_eq_true (zal_1.mp q i (by rw [hn]; exact hi)))
  · intro m _ hI
    have e1 : w32 (((2 * (n / 2) : Nat) : Int) + 1) = ((2 * (n / 2) + 1 : Nat) : Int) := by rw [w32_eq (by omega) (by omega)]; omega
    show zS (lX_agreesWithSniffs_c2 (s : Int) l M (m + 1) ((2 * (n / 2) : Nat) : Int)) _
    rw [lX_agreesWithSniffs_c2]
    refine zS_b (rdI_n sh_99 hs) ?_
    rw [r1, hn, e1]
    refine zS_ie (by omega) ?_
    refine zS_r ?_
    rw [if_pos]
    exact zal_1.mpr (fun j hj => hI j (by rw [hn] at hj; exact hj))
theorem xSniff (h : zInv W M) : lX_possibleForged x M = some (zSv W M x) := by
  obtain ⟨b1, b2, b3, b4, b5, b6, b7, b8⟩ := xB h
  obtain ⟨u0, u1, _, _, u4, _, u6, u7, _⟩ := h.2.1
  have tn := h.2.2.1.2.2.2.2.2.2.2.2.2.2.2.1
  refine zS_eq ?_
  unfold lX_possibleForged
  refine zX_g xSlot (fun c1 => zX_g (xThere h) (fun c2 => ?_) (fun c2 => (if_neg (fun q => c2 q.2)).symm)) (fun c1 => (if_neg (fun q => c1 q.1)).symm)
  obtain ⟨s, rfl⟩ : ∃ p : Nat, x = (p : Int) := ⟨x.toNat, by omega⟩
  have hs : s < 4 := by omega
  unfold zSv
  rw [if_pos ⟨c1, c2⟩, Int.toNat_natCast]
  refine zS_b (xFill hs) ?_
  have hfi := rFill h hs
  by_cases hf : M 126 s ≠ -1
  · rw [zbo_t (hfi.mpr hf), if_neg (by decide), if_pos hf]
    refine zS_b (xPairs h hs hf) ?_
    by_cases hp : M 126 s % 2 = 0 ∧ zSo M s = true
    · rw [if_pos hp]
      have hp2 : M 126 s % 2 = 0 ∧ zPr M s (fun u v => decide (2 ≤ u ∧ u ≤ 9 ∧ 0 ≤ v ∧ v ≤ 8)) = true := hp
      rw [if_pos hp2, if_neg (by decide)]
      refine loopI (fun m i (a : Int) => lX_possibleForged_c57 (s : Int) M m a (i : Int)) (fun i a => a = zst i (fun p => zSf M s (W (42 + 12 * p + 2)))) (a0 := 0) 0 (W 6).toNat (by omega) rfl ?_ ?_ zN (zN_gt (by omega))
      · intro m i a _ hi ha k
        have e : zst (i + 1) (fun p => zSf M s (W (42 + 12 * p + 2))) = if zSf M s (W (42 + 12 * i + 2)) = true then zor (zst i (fun p => zSf M s (W (42 + 12 * p + 2)))) (zshl 1 (i : Int)) else zst i (fun p => zSf M s (W (42 + 12 * p + 2))) := rfl
        have t3 : M 9 i = W (42 + 12 * i + 2) := (tn i hi).2.2.1
        show zS (lX_possibleForged_c57 (s : Int) M (m + 1) a (i : Int)) _
        rw [lX_possibleForged_c57]
        refine zS_it (by omega) ?_
        rw [w1 (by omega)]
        refine zS_b (rdI_n sh_9 (by omega)) ?_
        rw [t3]
        refine zS_b (xAgree h hs hf hp.1 hp.2) ?_
        by_cases hz : zSf M s (W (42 + 12 * i + 2)) = true
        · rw [if_pos hz, if_neg (by decide)]
          exact k _ (by rw [e, if_pos hz, ha])
        · rw [if_neg hz, if_pos rfl]
          exact k _ (by rw [e, if_neg hz, ha])
      · intro m a ha
        show zS (lX_possibleForged_c57 (s : Int) M (m + 1) a ((W 6).toNat : Int)) _
        rw [lX_possibleForged_c57]
        refine zS_ie (by omega) ?_
        exact zS_r ha
    · rw [if_neg hp]
      have hp2 : ¬ (M 126 s % 2 = 0 ∧ zPr M s (fun u v => decide (2 ≤ u ∧ u ≤ 9 ∧ 0 ≤ v ∧ v ≤ 8)) = true) := hp
      rw [if_neg hp2, if_pos rfl]
      exact zS_r rfl
  · rw [zbo_f (fun q => hf (hfi.mp q)), if_pos rfl, if_neg hf]
    exact zS_r rfl
theorem mSniff (h : zInv W M) : lm_sniffs x M = some (zSv W M x) := by
  obtain ⟨u0, u1, _, _, u4, _, u6, u7, _⟩ := h.2.1
  refine zS_eq ?_
  refine zS_gen (fun Q hQ => ?_)
  unfold lm_sniffs
  refine zS_b mSlot ?_
  by_cases c1 : 0 ≤ x ∧ x ≤ 3
  · rw [zbo_t c1, if_neg (by decide)]
    refine zS_b (by rw [lm_isState_eq, h.1]) ?_
    by_cases c2 : 0 < W 9
    · rw [zbo_t c2, if_neg (by decide)]
      obtain ⟨s, rfl⟩ : ∃ p : Nat, x = (p : Int) := ⟨x.toNat, by omega⟩
      have hs : s < 4 := by omega
      unfold zSv at hQ
      rw [if_pos ⟨c1, c2⟩, Int.toNat_natCast] at hQ
      refine zS_b (rdI_n sh_126 hs) ?_
      by_cases hf : M 126 s = -1
      · rw [if_pos hf]
        rw [if_neg (fun q => q hf)] at hQ
        exact zS_r (hQ _ rfl)
      · rw [if_neg hf]
        rw [if_pos hf] at hQ
        obtain ⟨r1, r2, r3, r4⟩ := rLen h hs hf
        refine zS_b (rdI_n sh_126 hs) ?_
        obtain ⟨n, hn⟩ : ∃ n : Nat, M 126 s = (n : Int) := ⟨(M 126 s).toNat, by omega⟩
        have er : zrem (n : Int) 2 = ((n % 2 : Nat) : Int) := zrem_nat (b := 2) (by omega) (by omega)
        rw [hn, er]
        by_cases h2 : n % 2 = 0
        · rw [if_pos (by omega)]
          have hend : zSo M s = true → zS (lm_sniffs_c105 (s : Int) M zN 0 0) Q := fun ho => by
            rw [if_pos ⟨by omega, ho⟩] at hQ
            refine loopI (fun m i (a : Int) => lm_sniffs_c105 (s : Int) M m a (i : Int)) (fun i a => a = zst i (fun p => zSf M s (W (42 + 12 * p + 2)))) (a0 := 0) 0 (W 6).toNat (by omega) rfl ?_ ?_ zN (zN_gt (by omega))
            · intro m i a _ hi ha k
              have e := zor_st (n := i) (f := fun p => zSf M s (W (42 + 12 * p + 2))) (by omega)
              show zS (lm_sniffs_c105 (s : Int) M (m + 1) a (i : Int)) _
              rw [lm_sniffs_c105]
              refine zS_b lm_names_eq ?_
              refine zS_it (by rw [h.1]; omega) ?_
              refine loopI (fun m' j (f : Int) => lm_sniffs_c119 (s : Int) M (lm_sniffs_c105 (s : Int) M m) m' a (i : Int) f ((2 * j : Nat) : Int)) (fun j f => f = if zal j (fun j => decide (zremL (W (42 + 12 * i + 2)) (zNb M s (2 * j)) = zNb M s (2 * j + 1))) = true then 1 else 0) (a0 := 1) 0 (n / 2) (by omega) rfl ?_ ?_ zN (zN_gt (by omega))
              · intro m' j f _ hj hf2 kk
                have e1 : w32 (((2 * j : Nat) : Int) + 1) = ((2 * j + 1 : Nat) : Int) := by rw [w32_eq (by omega) (by omega)]; omega
                have e2 : w32 (((2 * j : Nat) : Int) + 2) = ((2 * (j + 1) : Nat) : Int) := by rw [w32_eq (by omega) (by omega)]; omega
                have hoj := of_decide_eq_true (zal_1.mp ho j (by rw [hn]; exact hj))
                have es : zal (j + 1) (fun j => decide (zremL (W (42 + 12 * i + 2)) (zNb M s (2 * j)) = zNb M s (2 * j + 1))) = (zal j (fun j => decide (zremL (W (42 + 12 * i + 2)) (zNb M s (2 * j)) = zNb M s (2 * j + 1))) && decide (zremL (W (42 + 12 * i + 2)) (zNb M s (2 * j)) = zNb M s (2 * j + 1))) := rfl
                show zS (lm_sniffs_c119 (s : Int) M (lm_sniffs_c105 (s : Int) M m) (m' + 1) a (i : Int) f ((2 * j : Nat) : Int)) _
                rw [lm_sniffs_c119]
                refine zS_b (rdI_n sh_126 hs) ?_
                rw [hn, e1, e2]
                refine zS_it (by omega) ?_
                cases hz : zal j (fun j => decide (zremL (W (42 + 12 * i + 2)) (zNb M s (2 * j)) = zNb M s (2 * j + 1))) with
                | false =>
                  rw [hz, if_neg (by decide)] at hf2
                  rw [hz] at es
                  rw [if_pos hf2]
                  exact kk _ (by rw [es]; rfl)
                | true =>
                  rw [hz, if_pos rfl] at hf2
                  rw [hz] at es
                  rw [if_neg (by omega)]
                  refine zS_b (lm_of_eq (w := 2) (by omega) (by omega)) ?_
                  refine zS_b (lm_numberAt_eq hs (by omega)) ?_
                  rw [if_neg (by omega), h.1]
                  refine zS_b (lm_numberAt_eq hs (by omega)) ?_
                  by_cases hq : zremL (W (42 + 12 * i + 2)) (zNb M s (2 * j)) = zNb M s (2 * j + 1)
                  · rw [if_pos hq]
                    exact kk _ (by rw [es, decide_eq_true hq]; rfl)
                  · rw [if_neg hq]
                    exact kk _ (by rw [es, decide_eq_false hq]; rfl)
              · intro m' f hf2
                have hf3 : f = if zSf M s (W (42 + 12 * i + 2)) = true then 1 else 0 := by
                  rw [hf2]
                  unfold zSf zPr
                  rw [hn]
                  rfl
                show zS (lm_sniffs_c119 (s : Int) M (lm_sniffs_c105 (s : Int) M m) (m' + 1) a (i : Int) f ((2 * (n / 2) : Nat) : Int)) _
                rw [lm_sniffs_c119]
                refine zS_b (rdI_n sh_126 hs) ?_
                rw [hn]
                refine zS_ie (by omega) ?_
                rw [w1 (by omega)]
                by_cases hz : zSf M s (W (42 + 12 * i + 2)) = true
                · rw [if_pos hz] at hf3
                  rw [if_neg (by omega)]
                  exact k _ (by rw [← e, if_pos hz, ha])
                · rw [if_neg hz] at hf3
                  rw [if_pos hf3]
                  exact k _ (by rw [← e, if_neg hz, ha])
            · intro m a ha
              show zS (lm_sniffs_c105 (s : Int) M (m + 1) a ((W 6).toNat : Int)) _
              rw [lm_sniffs_c105]
              refine zS_b lm_names_eq ?_
              refine zS_ie (by rw [h.1]; omega) ?_
              exact zS_r (hQ _ ha)
          refine loopI (A := Unit) (fun m i _ => lm_sniffs_c46 (s : Int) M m ((2 * i : Nat) : Int)) (fun i _ => ∀ j, j < i → decide (2 ≤ zNb M s (2 * j) ∧ zNb M s (2 * j) ≤ 9 ∧ 0 ≤ zNb M s (2 * j + 1) ∧ zNb M s (2 * j + 1) ≤ 8) = true) (a0 := ()) 0 (n / 2) (by omega) (fun j hj => by omega) ?_ ?_ zN (zN_gt (by omega))
          · intro m i _ _ hi hI k
            have k := k ()
            have e1 : w32 (((2 * i : Nat) : Int) + 1) = ((2 * i + 1 : Nat) : Int) := by rw [w32_eq (by omega) (by omega)]; omega
            have e2 : w32 (((2 * i : Nat) : Int) + 2) = ((2 * (i + 1) : Nat) : Int) := by rw [w32_eq (by omega) (by omega)]; omega
            have hbad : ¬ (2 ≤ zNb M s (2 * i) ∧ zNb M s (2 * i) ≤ 9 ∧ 0 ≤ zNb M s (2 * i + 1) ∧ zNb M s (2 * i + 1) ≤ 8) → zS (some (-2 : Int)) Q := fun hb => by
              rw [if_neg] at hQ
              · exact zS_r (hQ _ rfl)
              · intro ⟨_, q⟩
                exact hb (of_decide_eq_true (zal_1.mp q i (by rw [hn]; exact hi)))
            show zS (lm_sniffs_c46 (s : Int) M (m + 1) ((2 * i : Nat) : Int)) _
            rw [lm_sniffs_c46]
            refine zS_b (rdI_n sh_126 hs) ?_
            rw [hn, e1, e2]
            refine zS_it (by omega) ?_
            refine zS_b (lm_numberAt_eq hs (by omega)) ?_
            refine zS_b lm_in_eq ?_
            by_cases d1 : 2 ≤ zNb M s (2 * i) ∧ zNb M s (2 * i) ≤ 9
            · rw [zbo_t d1, if_neg (by decide)]
              refine zS_b (lm_numberAt_eq hs (by omega)) ?_
              refine zS_b lm_in_eq ?_
              by_cases d2 : 0 ≤ zNb M s (2 * i + 1) ∧ zNb M s (2 * i + 1) ≤ 8
              · rw [zbo_t d2, if_neg (by decide)]
                exact k (fun j hj => by
                  by_cases hji : j = i
                  · rw [hji]; exact decide_eq_true ⟨d1.1, d1.2, d2⟩
                  · exact hI j (by omega))
              · rw [zbo_f d2, if_pos rfl]
                exact hbad (fun q => d2 q.2.2)
            · rw [zbo_f d1, if_pos rfl]
              exact hbad (fun q => d1 ⟨q.1, q.2.1⟩)
          · intro m _ hI
            show zS (lm_sniffs_c46 (s : Int) M (m + 1) ((2 * (n / 2) : Nat) : Int)) _
            rw [lm_sniffs_c46]
            refine zS_b (rdI_n sh_126 hs) ?_
            rw [hn]
            refine zS_ie (by omega) ?_
            exact hend (zal_1.mpr (fun j hj => hI j (by rw [hn] at hj; exact hj)))
        · rw [if_neg (by omega)]
          rw [if_neg (fun q => by omega)] at hQ
          exact zS_r (hQ _ rfl)
    · rw [zbo_f c2, if_pos rfl]
      refine zS_r (hQ _ ?_)
      unfold zSv
      rw [if_neg (fun q => c2 q.2)]
  · rw [zbo_f c1, if_pos rfl]
    refine zS_r (hQ _ ?_)
    unfold zSv
    rw [if_neg (fun q => c1 q.1)]
theorem q_sniffs (h : zInv W M) : zQ0 (lX_sniffs x M) (lm_sniffs x M) := by
  refine ⟨zSv W M x, ?_, zS_e (mSniff h) rfl⟩
  unfold lX_sniffs
  exact zS_b (xSniff h) (zS_r rfl)
/-! next -/
def zLf (W : Nat → Int) (A m over : Nat) : Int := zsum (W 6).toNat (fun p => if (A.testBit p && decide (zrem (W (42 + 12 * p + 2)) (m : Int) = (over : Int))) = true then 1 else 0)
theorem zLf_b {A m over : Nat} (n : Nat) : 0 ≤ zsum n (fun p => if (A.testBit p && decide (zrem (W (42 + 12 * p + 2)) (m : Int) = (over : Int))) = true then (1 : Int) else 0) ∧ zsum n (fun p => if (A.testBit p && decide (zrem (W (42 + 12 * p + 2)) (m : Int) = (over : Int))) = true then (1 : Int) else 0) ≤ n := zsum01 (fun _ => zb01) n
def zLw (W : Nat → Int) (A m : Nat) : Int := zfo (fun over a => zmax a (zLf W A m over)) m 0
def zNx (W : Nat → Int) (A : Nat) (i : Nat) (a : Int × Int) : Int × Int := if zLw W A (i + 2) < a.2 then (((i + 2 : Nat) : Int), zLw W A (i + 2)) else a
theorem xLeft {A m : Nat} (h : zInv W M) (hA : A < 2 ^ 31) (hm : m < 1000) (hm0 : m ≠ 0) : lX_forgedLeft (A : Int) (m : Int) M = some (zLw W A m) := by
  obtain ⟨b1, b2, b3, b4, b5, b6, b7, b8⟩ := xB h
  have tn := h.2.2.1.2.2.2.2.2.2.2.2.2.2.2.1
  refine zS_eq ?_
  unfold lX_forgedLeft
  refine loopI (fun m' i (a : Int) => lX_forgedLeft_c5 (A : Int) (m : Int) M m' a (i : Int)) (fun i a => a = zfo (fun over a => zmax a (zLf W A m over)) i 0) (a0 := 0) 0 m (by omega) rfl ?_ ?_ zN (zN_gt (by omega))
  · intro m' i a _ hi ha k
    show zS (lX_forgedLeft_c5 (A : Int) (m : Int) M (m' + 1) a (i : Int)) _
    rw [lX_forgedLeft_c5]
    refine zS_it (by omega) ?_
    refine loopI (fun m'' p (v : Int) => lX_forgedLeft_c17 (A : Int) (m : Int) M (lX_forgedLeft_c5 (A : Int) (m : Int) M m') m'' a (i : Int) v (p : Int)) (fun p v => v = zsum p (fun p => if (A.testBit p && decide (zrem (W (42 + 12 * p + 2)) (m : Int) = (i : Int))) = true then 1 else 0)) (a0 := 0) 0 (W 6).toNat (by omega) rfl ?_ ?_ zN (zN_gt (by omega))
    · intro m'' p v _ hp hv kk
      have t3 : M 9 p = W (42 + 12 * p + 2) := (tn p hp).2.2.1
      have hb := zLf_b (W := W) (A := A) (m := m) (over := i) p
      have e : zsum (p + 1) (fun p => if (A.testBit p && decide (zrem (W (42 + 12 * p + 2)) (m : Int) = (i : Int))) = true then (1 : Int) else 0) = zsum p (fun p => if (A.testBit p && decide (zrem (W (42 + 12 * p + 2)) (m : Int) = (i : Int))) = true then (1 : Int) else 0) + (if (A.testBit p && decide (zrem (W (42 + 12 * p + 2)) (m : Int) = (i : Int))) = true then 1 else 0) := rfl
      show zS (lX_forgedLeft_c17 (A : Int) (m : Int) M (lX_forgedLeft_c5 (A : Int) (m : Int) M m') (m'' + 1) a (i : Int) v (p : Int)) _
      rw [lX_forgedLeft_c17]
      refine zS_it (by omega) ?_
      rw [w1 (n := p) (by omega), zbit_nat (by omega) hA]
      cases hb2 : A.testBit p with
      | false =>
        rw [if_pos (by decide)]
        exact kk _ (by rw [e, hb2, hv]; simp)
      | true =>
        rw [if_pos rfl, if_neg (by decide)]
        refine zS_b (rdI_n sh_9 (by omega)) ?_
        rw [if_neg (by omega), t3]
        by_cases hq : zrem (W (42 + 12 * p + 2)) (m : Int) = (i : Int)
        · rw [if_pos hq, hv, w32_eq (by omega) (by omega)]
          exact kk _ (by rw [e, hb2, decide_eq_true hq]; rfl)
        · rw [if_neg hq]
          exact kk _ (by rw [e, hb2, decide_eq_false hq, hv]; simp)
    · intro m'' v hv
      show zS (lX_forgedLeft_c17 (A : Int) (m : Int) M (lX_forgedLeft_c5 (A : Int) (m : Int) M m') (m'' + 1) a (i : Int) v ((W 6).toNat : Int)) _
      rw [lX_forgedLeft_c17]
      refine zS_ie (by omega) ?_
      rw [w1 (n := i) (by omega)]
      exact k _ (by rw [hv, ha]; rfl)
  · intro m' a ha
    show zS (lX_forgedLeft_c5 (A : Int) (m : Int) M (m' + 1) a (m : Int)) _
    rw [lX_forgedLeft_c5]
    refine zS_ie (by omega) ?_
    exact zS_r ha
theorem q_next (h : zInv W M) : zQ0 (lX_next x M) (lm_next x M) := by
  obtain ⟨b1, b2, b3, b4, b5, b6, b7, b8⟩ := xB h
  obtain ⟨u0, u1, _, _, u4, _, u6, u7, _⟩ := h.2.1
  refine ⟨if zSv W M x < 0 then zSv W M x else (zfo (zNx W (zSv W M x).toNat) 8 (-1, zpc 12 (zSv W M x).toNat)).1, ?_, ?_⟩
  · unfold lX_next
    refine zS_b (xSniff h) ?_
    by_cases hn : zSv W M x < 0
    · rw [if_pos hn, if_pos hn]; exact zS_r rfl
    · rw [if_neg hn, if_neg hn]
      have hset : ∃ A : Nat, zSv W M x = (A : Int) ∧ A < 32 := by
        unfold zSv at hn ⊢
        by_cases c1 : (0 ≤ x ∧ x ≤ 3) ∧ 0 < W 9
        · rw [if_pos c1] at hn ⊢
          by_cases c2 : M 126 x.toNat ≠ -1
          · rw [if_pos c2] at hn ⊢
            by_cases c3 : M 126 x.toNat % 2 = 0 ∧ zSo M x.toNat = true
            · rw [if_pos c3]
              obtain ⟨A, e, hA, _⟩ := zst_bits (n := (W 6).toNat) (f := fun p => zSf M x.toNat (W (42 + 12 * p + 2))) (by omega)
              have hpw : 2 ^ (W 6).toNat ≤ 2 ^ 5 := Nat.pow_le_pow_right (by decide) b2
              exact ⟨A, e, by omega⟩
            · rw [if_neg c3] at hn; omega
          · rw [if_neg c2] at hn; omega
        · rw [if_neg c1] at hn; omega
      obtain ⟨A, eA, hA⟩ := hset
      rw [eA, Int.toNat_natCast]
      refine zS_b (lJ_bitCount_eq (by omega)) ?_
      refine loopI (fun m i (a : Int × Int) => lX_next_c23 x M m (A : Int) a.1 a.2 ((i + 2 : Nat) : Int)) (fun i a => a = zfo (zNx W A) i (-1, zpc 12 A)) (a0 := (-1, zpc 12 A)) 0 8 (by omega) rfl ?_ ?_ zN (zN_gt (by omega))
      · intro m i a _ hi ha k
        have e : zfo (zNx W A) (i + 1) (-1, zpc 12 A) = zNx W A i a := by rw [ha]; rfl
        show zS (lX_next_c23 x M (m + 1) (A : Int) a.1 a.2 ((i + 2 : Nat) : Int)) _
        rw [lX_next_c23]
        refine zS_ie (by omega) ?_
        refine zS_b (xLeft h (by omega) (by omega) (by omega)) ?_
        rw [w1 (n := i + 2) (by omega)]
        by_cases hz : zLw W A (i + 2) < a.2
        · rw [if_pos hz]
          exact k (((i + 2 : Nat) : Int), zLw W A (i + 2)) (by rw [e]; exact (if_pos hz).symm)
        · rw [if_neg hz]
          exact k (a.1, a.2) (by rw [e]; exact (if_neg hz).symm)
      · intro m a ha
        show zS (lX_next_c23 x M (m + 1) (A : Int) a.1 a.2 ((8 + 2 : Nat) : Int)) _
        rw [lX_next_c23]
        refine zS_it (by omega) ?_
        exact zS_r (by rw [ha])
  · unfold lm_next
    refine zS_b (mSniff h) ?_
    by_cases hn : zSv W M x < 0
    · rw [if_pos hn, if_pos hn]; exact zS_r rfl
    · rw [if_neg hn, if_neg hn]
      have hset : ∃ A : Nat, zSv W M x = (A : Int) ∧ A < 32 := by
        unfold zSv at hn ⊢
        by_cases c1 : (0 ≤ x ∧ x ≤ 3) ∧ 0 < W 9
        · rw [if_pos c1] at hn ⊢
          by_cases c2 : M 126 x.toNat ≠ -1
          · rw [if_pos c2] at hn ⊢
            by_cases c3 : M 126 x.toNat % 2 = 0 ∧ zSo M x.toNat = true
            · rw [if_pos c3]
              obtain ⟨A, e, hA, _⟩ := zst_bits (n := (W 6).toNat) (f := fun p => zSf M x.toNat (W (42 + 12 * p + 2))) (by omega)
              have hpw : 2 ^ (W 6).toNat ≤ 2 ^ 5 := Nat.pow_le_pow_right (by decide) b2
              exact ⟨A, e, by omega⟩
            · rw [if_neg c3] at hn; omega
          · rw [if_neg c2] at hn; omega
        · rw [if_neg c1] at hn; omega
      obtain ⟨A, eA, hA⟩ := hset
      rw [eA, Int.toNat_natCast]
      refine zS_b (lm_bits_eq (by omega)) ?_
      rw [zpc_up (k := 12) (by omega) 8]
      refine loopI (fun m i (a : Int × Int) => lm_next_c23 x M m (A : Int) a.2 a.1 ((i + 2 : Nat) : Int)) (fun i a => a = zfo (zNx W A) i (-1, zpc 12 A)) (a0 := (-1, zpc 12 A)) 0 8 (by omega) rfl ?_ ?_ zN (zN_gt (by omega))
      · intro m i a _ hi ha k
        have e : zfo (zNx W A) (i + 1) (-1, zpc 12 A) = zNx W A i a := by rw [ha]; rfl
        show zS (lm_next_c23 x M (m + 1) (A : Int) a.2 a.1 ((i + 2 : Nat) : Int)) _
        rw [lm_next_c23]
        refine zS_ie (by omega) ?_
        refine loopI (fun m' o (v : Int) => lm_next_c36 x M (lm_next_c23 x M m) m' (A : Int) a.2 a.1 ((i + 2 : Nat) : Int) v (o : Int)) (fun o v => v = zfo (fun over a => zmax a (zLf W A (i + 2) over)) o 0) (a0 := 0) 0 (i + 2) (by omega) rfl ?_ ?_ zN (zN_gt (by omega))
        · intro m' o v _ ho hv kk
          show zS (lm_next_c36 x M (lm_next_c23 x M m) (m' + 1) (A : Int) a.2 a.1 ((i + 2 : Nat) : Int) v (o : Int)) _
          rw [lm_next_c36]
          refine zS_it (by omega) ?_
          refine loopI (fun m'' p (u : Int) => lm_next_c49 x M (lm_next_c23 x M m) (lm_next_c36 x M (lm_next_c23 x M m) m') m'' (A : Int) a.2 a.1 ((i + 2 : Nat) : Int) v (o : Int) u (p : Int)) (fun p u => u = zsum p (fun p => if (A.testBit p && decide (zrem (W (42 + 12 * p + 2)) ((i + 2 : Nat) : Int) = (o : Int))) = true then 1 else 0)) (a0 := 0) 0 (W 6).toNat (by omega) rfl ?_ ?_ zN (zN_gt (by omega))
          · intro m'' p u _ hp hu k2
            have hb := zLf_b (W := W) (A := A) (m := i + 2) (over := o) p
            have e : zsum (p + 1) (fun p => if (A.testBit p && decide (zrem (W (42 + 12 * p + 2)) ((i + 2 : Nat) : Int) = (o : Int))) = true then (1 : Int) else 0) = zsum p (fun p => if (A.testBit p && decide (zrem (W (42 + 12 * p + 2)) ((i + 2 : Nat) : Int) = (o : Int))) = true then (1 : Int) else 0) + (if (A.testBit p && decide (zrem (W (42 + 12 * p + 2)) ((i + 2 : Nat) : Int) = (o : Int))) = true then 1 else 0) := rfl
            show zS (lm_next_c49 x M (lm_next_c23 x M m) (lm_next_c36 x M (lm_next_c23 x M m) m') (m'' + 1) (A : Int) a.2 a.1 ((i + 2 : Nat) : Int) v (o : Int) u (p : Int)) _
            rw [lm_next_c49]
            refine zS_b lm_names_eq ?_
            refine zS_it (by rw [h.1]; omega) ?_
            rw [w1 (n := p) (by omega)]
            refine zS_b (lm_bit_eq (by omega) (by omega)) ?_
            cases hb2 : A.testBit p with
            | false =>
              rw [if_neg (by decide)]
              rw [hu, w32_eq (by omega) (by omega)]
              exact k2 _ (by rw [e, hb2]; simp)
            | true =>
              rw [if_pos rfl, if_pos rfl]
              refine zS_b (lm_of_eq (w := 2) (by omega) (by omega)) ?_
              rw [if_neg (by omega), h.1]
              by_cases hq : zrem (W (42 + 12 * p + 2)) ((i + 2 : Nat) : Int) = (o : Int)
              · rw [if_pos hq, hu, w32_eq (by omega) (by omega)]
                exact k2 _ (by rw [e, hb2, decide_eq_true hq]; rfl)
              · rw [if_neg hq, hu, w32_eq (by omega) (by omega)]
                exact k2 _ (by rw [e, hb2, decide_eq_false hq]; simp)
          · intro m'' u hu
            show zS (lm_next_c49 x M (lm_next_c23 x M m) (lm_next_c36 x M (lm_next_c23 x M m) m') (m'' + 1) (A : Int) a.2 a.1 ((i + 2 : Nat) : Int) v (o : Int) u ((W 6).toNat : Int)) _
            rw [lm_next_c49]
            refine zS_b lm_names_eq ?_
            refine zS_ie (by rw [h.1]; omega) ?_
            rw [w1 (n := o) (by omega)]
            exact kk _ (by rw [hu, hv]; rfl)
        · intro m' v hv
          show zS (lm_next_c36 x M (lm_next_c23 x M m) (m' + 1) (A : Int) a.2 a.1 ((i + 2 : Nat) : Int) v ((i + 2 : Nat) : Int)) _
          rw [lm_next_c36]
          refine zS_ie (by omega) ?_
          have hv : v = zLw W A (i + 2) := hv
          rw [w1 (n := i + 2) (by omega), hv]
          by_cases hz : zLw W A (i + 2) < a.2
          · rw [if_pos hz]
            exact k (((i + 2 : Nat) : Int), zLw W A (i + 2)) (by rw [e]; exact (if_pos hz).symm)
          · rw [if_neg hz]
            exact k (a.1, a.2) (by rw [e]; exact (if_neg hz).symm)
      · intro m a ha
        show zS (lm_next_c23 x M (m + 1) (A : Int) a.2 a.1 ((8 + 2 : Nat) : Int)) _
        rw [lm_next_c23]
        refine zS_it (by omega) ?_
        exact zS_r (by rw [ha])
end ZSN
