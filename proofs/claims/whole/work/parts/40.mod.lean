/-! The reference's day over the memory. -/
def zmg (C M : Nat → Nat → Int) : Prop := ∀ c, c < 117 ∨ 123 < c → M c = C c
theorem zmg_r {C : Nat → Nat → Int} : zmg C C := fun _ _ => rfl
theorem zmg_t {A B C : Nat → Nat → Int} (h : zmg A B) (k : zmg B C) : zmg A C := fun c h1 => (k c h1).trans (h c h1)
theorem zmg_up {c i : Nat} {v : Int} {C M : Nat → Nat → Int} (h : zmg C M) (hc : 117 ≤ c ∧ c ≤ 123) : zmg C (zup M c i v) := fun x h1 => (zup_c (by omega)).trans (h x h1)
theorem lm_isJoined_c2_cg {x y : Int} {M C : Nat → Nat → Int} (h1 : M 107 = C 107) (h2 : M 106 = C 106) : ∀ (n : Nat) (i : Int), lm_isJoined_c2 x y M n i = lm_isJoined_c2 x y C n i
  | 0, _ => rfl
  | n + 1, i => by
    rw [lm_isJoined_c2, lm_isJoined_c2]
    simp only [rdI_cg h1, h2, lm_isJoined_c2_cg h1 h2 n, lm_bit]
theorem lm_isJoined_cg {x y : Int} {M C : Nat → Nat → Int} (h1 : M 107 = C 107) (h2 : M 106 = C 106) : lm_isJoined x y M = lm_isJoined x y C := lm_isJoined_c2_cg h1 h2 zN 0
/-- what the reference's day rests on -/
def zmE (C : Nat → Nat → Int) (E : zE) (T : Nat) : Prop := zeOk E ∧ C 107 6 = (zeB E : Int) ∧ C 107 7 = (zeC E : Int) ∧ C 107 1 = (T : Int) ∧ T ≤ 20 ∧ (∀ x, 0 ≤ x → x < 8 → rdI 115 x C = some (zeF E x)) ∧ (∀ p, p < zeB E → C 113 p = zeH E p ∧ C 114 p = zeI E p) ∧ (∀ (p n : Nat) (M : Nat → Nat → Int), p < zeB E → n < 20 → zmg C M → lm_wouldGo (p : Int) (n : Int) M = some (if zeA E p n = -1 then M 117 (5 * n + p) else zeA E p n)) ∧ (∀ x y, 0 ≤ x → x < 8 → 0 ≤ y → y < 8 → x ≠ y → lm_isJoined x y C = some (zbo (zeJ E x y = true))) ∧ C 106 16 = zeL E ∧ (∀ k, k < zeC E → C 107 (102 + k) = (zeP E k : Int)) ∧ (∀ n : Nat, n < 20 → zand (zshr (C 106 17) (n : Int)) 1 = if zeR E n = true then 1 else 0)
def zmR (B n : Nat) (s : zD) (M : Nat → Nat → Int) : Prop := ∀ p, p < B → M 117 (5 * n + p) = zdP s p ∧ M 118 (5 * n + p) = zdK s p
def zmA (s : zD) (M : Nat → Nat → Int) : Prop := ∀ o, o < 6 → M 119 o = zdA s o ∧ M 120 o = zdI s o
theorem lm_maySign_eq {n k T : Nat} {x : Int} {C M : Nat → Nat → Int} {E : zE} {s : zD} (he : zmE C E T) (ha : zmg C M) (hn : n ≤ 20) (hk : k < zeC E) (hr : zmR (zeB E) n s M) (hA : zmA s M) : lm_maySign (k : Int) (n : Int) x M = some (if zdMay E n k x s = true then 1 else 0) := by
  obtain ⟨hok, hB, hC, _, _, _, _, _, _, hL, hP, _⟩ := he
  have hb5 := hok.1
  have hc6 := hok.2.1
  have hL1 : M 106 16 = zeL E := by rw [ha 106 (by omega)]; exact hL
  have hB1 : M 107 6 = (zeB E : Int) := by rw [ha 107 (by omega)]; exact hB
  have hP1 : ∀ o, o < zeC E → M 107 (102 + o) = (zeP E o : Int) := fun o ho => by rw [ha 107 (by omega)]; exact hP o ho
  refine zS_eq ?_
  have h65 : (zeL E = 1 → ∀ p, p < zeB E → (zeP E k).testBit p = false → zdP s p = x → zdK s p ≤ 0) → zS (lm_maySign_c65 (k : Int) (n : Int) x M zN 0) (fun y => y = if zdMay E n k x s = true then 1 else 0) := fun h1 => by
    refine loopI (A := Unit) (fun m i _ => lm_maySign_c65 (k : Int) (n : Int) x M m (i : Int)) (fun i _ => ∀ o, o < i → zdA s o = (n : Int) → (zeL E = 2 → zdI s o ≠ x) ∧ (zeL E = 3 → zeP E o &&& zeP E k = 0)) (a0 := ()) 0 k (by omega) ?_ ?_ ?_ zN (zN_gt (by omega))
    · intro o ho; omega
    · intro m i _ _ hi h2 kk
      have kk := kk ()
      have hgood : (zdA s i = (n : Int) → (zeL E = 2 → zdI s i ≠ x) ∧ (zeL E = 3 → zeP E i &&& zeP E k = 0)) → zS (lm_maySign_c65 (k : Int) (n : Int) x M m ((i + 1 : Nat) : Int)) (fun y => y = if zdMay E n k x s = true then 1 else 0) := fun h => kk (fun o ho => by
        by_cases hoi : o = i
        · rw [hoi]; exact h
        · exact h2 o (by omega))
      have hbad : zdA s i = (n : Int) → ¬ ((zeL E = 2 → zdI s i ≠ x) ∧ (zeL E = 3 → zeP E i &&& zeP E k = 0)) → zS (some (0 : Int)) (fun y => y = if zdMay E n k x s = true then 1 else 0) := fun e h => zS_r (by
        rw [if_neg (fun hm => h ((zdMay_1.mp hm).2 i hi e))])
      show zS (lm_maySign_c65 (k : Int) (n : Int) x M (m + 1) (i : Int)) _
      rw [lm_maySign_c65]
      refine zS_it (by omega) ?_
      rw [w1 (by omega)]
      refine zS_b (rdI_n sh_119 (by omega)) ?_
      rw [(hA i (by omega)).1, hL1]
      have h104 : zdA s i = (n : Int) → (zeL E = 2 → zdI s i ≠ x) → zS (lm_maySign_c104 (k : Int) (n : Int) x M (lm_maySign_c65 (k : Int) (n : Int) x M m) (i : Int)) (fun y => y = if zdMay E n k x s = true then 1 else 0) := fun e hh => by
        unfold lm_maySign_c104
        rw [hL1, w1 (by omega)]
        by_cases hL3 : zeL E = 3
        · rw [if_pos hL3]
          refine zS_b (lm_namesOf_eq (by omega)) ?_
          refine zS_b (lm_namesOf_eq (by omega)) ?_
          rw [hP1 i (by omega), hP1 k hk, zand_nat (by have := zeP_lt hok (show i < zeC E by omega); omega)]
          by_cases hz : zeP E i &&& zeP E k = 0
          · rw [if_pos (by rw [hz]; rfl)]
            exact hgood (fun _ => ⟨hh, fun _ => hz⟩)
          · rw [if_neg (by omega)]
            exact hbad e (fun q => hz (q.2 hL3))
        · rw [if_neg hL3]
          exact hgood (fun _ => ⟨hh, fun q => absurd q hL3⟩)
      by_cases e : zdA s i = (n : Int)
      · rw [if_pos e]
        by_cases hL2 : zeL E = 2
        · rw [if_pos hL2]
          refine zS_b (rdI_n sh_120 (by omega)) ?_
          rw [(hA i (by omega)).2]
          by_cases hx : zdI s i = x
          · rw [if_pos hx]
            exact hbad e (fun q => q.1 hL2 hx)
          · rw [if_neg hx]
            exact h104 e (fun _ => hx)
        · rw [if_neg hL2]
          exact h104 e (fun q => absurd q hL2)
      · rw [if_neg e]
        exact hgood (fun q => absurd q e)
    · intro m _ h2
      show zS (lm_maySign_c65 (k : Int) (n : Int) x M (m + 1) (k : Int)) _
      rw [lm_maySign_c65]
      refine zS_ie (by omega) ?_
      exact zS_r (by rw [if_pos (zdMay_1.mpr ⟨h1, h2⟩)])
  unfold lm_maySign
  refine loopI (A := Unit) (fun m i _ => lm_maySign_c3 (k : Int) (n : Int) x M m (i : Int)) (fun i _ => ∀ p, p < i → (zeP E k).testBit p = false → zdP s p = x → zdK s p ≤ 0) (a0 := ()) 0 (zeB E) (by omega) ?_ ?_ ?_ zN (zN_gt (by omega))
  · intro p hp; omega
  · intro m i _ _ hi h2 kk
    have kk := kk ()
    have hgood : ((zeP E k).testBit i = false → zdP s i = x → zdK s i ≤ 0) → zS (lm_maySign_c3 (k : Int) (n : Int) x M m ((i + 1 : Nat) : Int)) (fun y => y = if zdMay E n k x s = true then 1 else 0) := fun h => kk (fun p hp => by
      by_cases hpi : p = i
      · rw [hpi]; exact h
      · exact h2 p (by omega))
    show zS (lm_maySign_c3 (k : Int) (n : Int) x M (m + 1) (i : Int)) _
    rw [lm_maySign_c3]
    refine zS_b lm_names_eq ?_
    rw [hB1]
    refine zS_it (by omega) ?_
    rw [hL1, w1 (by omega)]
    by_cases hL1 : zeL E = 1
    · rw [if_pos hL1]
      refine zS_b (lm_namesOf_eq (by omega)) ?_
      rw [hP1 k hk]
      have hpk := zeP_lt hok hk
      refine zS_b (lm_bit_eq (by omega) (by omega)) ?_
      by_cases hb : (zeP E k).testBit i = true
      · rw [if_pos hb, if_neg (by decide)]
        exact hgood (fun q => by rw [hb] at q; cases q)
      · rw [if_neg hb, if_pos rfl]
        refine zS_b (lm_placeOf_eq (by omega) (by omega)) ?_
        rw [(hr i hi).1]
        by_cases hx : zdP s i = x
        · rw [if_pos hx]
          refine zS_b (lm_inkIn_eq (by omega) (by omega)) ?_
          rw [(hr i hi).2]
          by_cases h0 : 0 < zdK s i
          · rw [if_pos h0]
            refine zS_r ?_
            rw [if_neg]
            intro hm
            have q := (zdMay_1.mp hm).1 hL1 i hi (by simpa using hb) hx
            omega
          · rw [if_neg h0]
            exact hgood (fun _ _ => by omega)
        · rw [if_neg hx]
          exact hgood (fun _ q => absurd q hx)
    · rw [if_neg hL1]
      exact h65 (fun q => absurd q hL1)
  · intro m _ h2
    show zS (lm_maySign_c3 (k : Int) (n : Int) x M (m + 1) (zeB E : Int)) _
    rw [lm_maySign_c3]
    refine zS_b lm_names_eq ?_
    rw [hB1]
    refine zS_ie (by omega) ?_
    exact h65 (fun _ => h2)
theorem lm_goSigns_ok {n T : Nat} {C M : Nat → Nat → Int} {E : zE} {s : zD} (he : zmE C E T) (ha : zmg C M) (hn : n ≤ 20) (hs : zdOk E n s) (hr : zmR (zeB E) n s M) (hA : zmA s M) : zS (lm_goSigns (n : Int) M) (fun M' => zmg C M' ∧ zmR (zeB E) n (zdSg E n (zeC E) s) M' ∧ zmA (zdSg E n (zeC E) s) M' ∧ M' 117 = M 117 ∧ (∀ j, j < 5 * n → M' 118 j = M 118 j) ∧ M' 121 = M 121 ∧ M' 122 = M 122 ∧ M' 123 = M 123) := by
  have he0 := he
  obtain ⟨hok, hB, hC, _, _, _, _, _, _, hL, hP, _⟩ := he
  have hb5 := hok.1
  have hc6 := hok.2.1
  refine zS_gen (fun Q hQ => ?_)
  unfold lm_goSigns
  refine loopI (fun m i M => lm_goSigns_c2 (n : Int) m (i : Int) M) (fun i M' => zmg C M' ∧ zmR (zeB E) n (zdSg E n i s) M' ∧ zmA (zdSg E n i s) M' ∧ M' 117 = M 117 ∧ (∀ j, j < 5 * n → M' 118 j = M 118 j) ∧ M' 121 = M 121 ∧ M' 122 = M 122 ∧ M' 123 = M 123) 0 (zeC E) (by omega) ?_ ?_ ?_ zN (zN_gt (by omega))
  · exact ⟨ha, hr, hA, rfl, fun _ _ => rfl, rfl, rfl, rfl⟩
  · intro m i M1 _ hi hI k
    have hI0 := hI
    obtain ⟨h1, h2, h3, h4, h5, h6, h7, h8⟩ := hI
    have hok1 : zdOk E n (zdSg E n i s) := zdSg_ok hs (by omega)
    have ht32 := zeP_lt hok hi
    have hsame : zdS1 E n i (zdSg E n i s) = zdSg E n i s → zS (lm_goSigns_c2 (n : Int) m ((i + 1 : Nat) : Int) M1) Q := fun e => k M1 (by rw [zdSg_s, e]; exact hI0)
    have hB1 : M1 107 6 = (zeB E : Int) := by rw [h1 107 (by omega)]; exact hB
    show zS (lm_goSigns_c2 (n : Int) (m + 1) (i : Int) M1) _
    rw [lm_goSigns_c2]
    refine zS_b (w107 (by omega) (by omega)) ?_
    refine zS_it (by rw [h1 107 (by omega)]; show (i : Int) < C 107 7; omega) ?_
    refine zS_b (rdI_n sh_119 (by omega)) ?_
    rw [(h3 i (by omega)).1]
    have h33 : ∀ x, x = zdCo E i (zdSg E n i s) → zS (lm_goSigns_c33 (n : Int) (lm_goSigns_c2 (n : Int) m) (i : Int) x M1) Q := fun x hx => by
      unfold lm_goSigns_c33
      rw [w1 (by omega)]
      by_cases hx1 : x = -1
      · rw [if_pos hx1]
        refine hsame ?_
        unfold zdS1
        rw [if_pos (Or.inl (by omega))]
      · rw [if_neg hx1]
        refine zS_b (lm_maySign_eq he0 h1 hn hi h2 h3) ?_
        by_cases hm : zdMay E n i x (zdSg E n i s) = true
        · rw [if_pos hm, if_neg (by decide)]
          refine zS_b (wrI_n sh_119 (by omega)) ?_
          refine zS_b (wrI_n sh_120 (by omega)) ?_
          have hS : zdSg E n (i + 1) s = (zdP (zdSg E n i s), fun p => zdK (zdSg E n i s) p - (if (zeP E i).testBit p then 1 else 0), fun o => if o = i then (n : Int) else zdA (zdSg E n i s) o, fun o => if o = i then x else zdI (zdSg E n i s) o) := by
            rw [zdSg_s]
            unfold zdS1
            rw [← hx, if_neg (by rw [hm]; simp [hx1])]
          refine loopI (fun m' j M' => lm_goSigns_c69 (n : Int) (lm_goSigns_c2 (n : Int) m) m' (i : Int) (j : Int) M') (fun j M' => zmg C M' ∧ (∀ p, p < zeB E → M' 117 (5 * n + p) = zdP (zdSg E n i s) p ∧ M' 118 (5 * n + p) = if p < j then zdK (zdSg E n i s) p - (if (zeP E i).testBit p then 1 else 0) else zdK (zdSg E n i s) p) ∧ zmA (zdSg E n (i + 1) s) M' ∧ M' 117 = M 117 ∧ (∀ j, j < 5 * n → M' 118 j = M 118 j) ∧ M' 121 = M 121 ∧ M' 122 = M 122 ∧ M' 123 = M 123) 0 (zeB E) (by omega) ?_ ?_ ?_ zN (zN_gt (by omega))
          · refine ⟨zmg_up (zmg_up h1 (by omega)) (by omega), fun p hp => ?_, fun o ho => ⟨?_, ?_⟩, ?_, fun j hj => ?_, ?_, ?_, ?_⟩
            · rw [zup_c (by omega), zup_c (by omega), zup_c (by omega), zup_c (by omega), if_neg (by omega)]
              exact h2 p hp
            · rw [zup_c (by omega), zup_a, hS, (h3 o ho).1]
              rfl
            · rw [zup_a, hS, zup_c (by omega), (h3 o ho).2]
              rfl
            · rw [zup_c (by omega), zup_c (by omega)]; exact h4
            · rw [zup_c (by omega), zup_c (by omega)]; exact h5 j hj
            · rw [zup_c (by omega), zup_c (by omega)]; exact h6
            · rw [zup_c (by omega), zup_c (by omega)]; exact h7
            · rw [zup_c (by omega), zup_c (by omega)]; exact h8
          · intro m' j M2 _ hj ⟨g1, g2, g3, g4, g5, g6, g7, g8⟩ kk
            have hsj := hok1.1 j hj
            show zS (lm_goSigns_c69 (n : Int) (lm_goSigns_c2 (n : Int) m) (m' + 1) (i : Int) (j : Int) M2) _
            rw [lm_goSigns_c69]
            refine zS_b lm_names_eq ?_
            refine zS_it (by rw [g1 107 (by omega)]; omega) ?_
            rw [w5 (by omega) (by omega), w1 (by omega)]
            refine zS_b (rdI_n sh_118 (by omega)) ?_
            refine zS_b (lm_namesOf_eq (by omega)) ?_
            have hpi : M2 107 (102 + i) = (zeP E i : Int) := by rw [g1 107 (by omega)]; exact hP i hi
            rw [hpi]
            refine zS_b (lm_bit_eq (by omega) (by omega)) ?_
            rw [(g2 j hj).2, if_neg (by omega)]
            refine zS_b (wrI_n sh_118 (by omega)) ?_
            have hw : w32 (zdK (zdSg E n i s) j - (if (zeP E i).testBit j = true then 1 else 0)) = zdK (zdSg E n i s) j - (if (zeP E i).testBit j = true then 1 else 0) := by split <;> exact w32_eq (by omega) (by omega)
            rw [hw]
            refine kk _ ⟨zmg_up g1 (by omega), fun p hp => ⟨?_, ?_⟩, fun o ho => ?_, ?_, fun q hq => ?_, ?_, ?_, ?_⟩
            · rw [zup_c (by omega)]; exact (g2 p hp).1
            · rw [zup_a]
              by_cases hpj : p = j
              · subst hpj
                rw [if_pos rfl, if_pos (show p < p + 1 by omega)]
              · rw [if_neg (by omega), (g2 p hp).2]
                by_cases hlt : p < j
                · rw [if_pos hlt, if_pos (show p < j + 1 by omega)]
                · rw [if_neg hlt, if_neg (show ¬ p < j + 1 by omega)]
            · rw [zup_c (by omega), zup_c (by omega)]; exact g3 o ho
            · rw [zup_c (by omega)]; exact g4
            · rw [zup_i (by omega)]; exact g5 q hq
            · rw [zup_c (by omega)]; exact g6
            · rw [zup_c (by omega)]; exact g7
            · rw [zup_c (by omega)]; exact g8
          · intro m' M2 ⟨g1, g2, g3, g4, g5, g6, g7, g8⟩
            show zS (lm_goSigns_c69 (n : Int) (lm_goSigns_c2 (n : Int) m) (m' + 1) (i : Int) (zeB E : Int) M2) _
            rw [lm_goSigns_c69]
            refine zS_b lm_names_eq ?_
            refine zS_ie (by rw [g1 107 (by omega)]; omega) ?_
            rw [w1 (by omega)]
            refine k M2 ⟨g1, fun p hp => ?_, g3, g4, g5, g6, g7, g8⟩
            rw [hS]
            refine ⟨(g2 p hp).1, ?_⟩
            rw [(g2 p hp).2, if_pos hp]
            rfl
        · rw [if_neg hm, if_pos rfl]
          refine hsame ?_
          unfold zdS1
          rw [← hx, if_pos (Or.inr (by simpa using hm))]
    by_cases hAi : zdA (zdSg E n i s) i = -1
    · rw [if_pos hAi]
      have hPi : M1 107 (102 + i) = (zeP E i : Int) := by rw [h1 107 (by omega)]; exact hP i hi
      refine zS_b (lm_cornerOf_eq (by omega) hB1 hb5 hn hPi (by omega) (fun p hp => by rw [(h2 p hp).1]; exact (hok1.1 p hp).1)) ?_
      refine h33 _ ?_
      unfold zdCo
      rw [if_pos hAi]
      exact zci_congr (fun p hp => ⟨rfl, (h2 p hp).1, (h2 p hp).2⟩)
    · rw [if_neg hAi]
      refine h33 _ ?_
      unfold zdCo
      rw [if_neg hAi]
  · intro m M1 hI
    show zS (lm_goSigns_c2 (n : Int) (m + 1) (zeC E : Int) M1) _
    rw [lm_goSigns_c2]
    refine zS_b (w107 (by omega) (by omega)) ?_
    refine zS_ie (by rw [hI.1 107 (by omega)]; show ¬ ((zeC E : Int) < C 107 7); omega) ?_
    exact zS_r (hQ _ hI)
