/-! The class signs. -/
theorem lD_signAll_c123_eq {d : Nat} {x1 : Int} {h7 : Int → Int → Int → (Nat → Nat → Int) → Option (Nat → Nat → Int)} {y2 y3 y4 y5 y7 s0 : Int} {M : Nat → Nat → Int} : lD_signAll_c123 d x1 h7 y2 y3 y4 y5 y7 s0 M = lD_signAll_c158 d x1 h7 y2 y3 y4 y5 y7 d s0 (if zand (zshr y2 y7) 1 = 0 then 0 else 1) (if zand y5 y3 = 0 then 0 else 1) M := by
  unfold lD_signAll_c123
  by_cases h1 : zand (zshr y2 y7) 1 = 0
  · rw [if_pos h1, if_pos h1]
    by_cases h2 : zand y5 y3 = 0
    · rw [if_pos h2, if_pos h2]
    · rw [if_neg h2, if_neg h2]
  · rw [if_neg h1, if_neg h1]
    by_cases h2 : zand y5 y3 = 0
    · rw [if_pos h2, if_pos h2]
    · rw [if_neg h2, if_neg h2]
/-- the state of the class's loop over contracts -/
def zcS (d n : Nat) (C : Nat → Nat → Int) (E : zE) (s : zD) (M0 : Nat → Nat → Int) (i : Nat) (a : Int × Int × (Nat → Nat → Int)) : Prop :=
  zag d C a.2.2 ∧ zcR d (zeB E) n (zdSg E n i s) a.2.2 ∧
  (∃ D : Nat, a.2.2 (d + 7) n = (D : Int) ∧ D < 2 ^ 6 ∧ ∀ k, D.testBit k = (decide (k < zeC E) && decide (zdA (zdSg E n i s) k ≠ -1))) ∧
  (∃ U : Nat, a.1 = (U : Int) ∧ U < 2 ^ 8 ∧ ∀ x : Nat, U.testBit x = true ↔ ∃ o, zdA (zdSg E n i s) o = (n : Int) ∧ zdI (zdSg E n i s) o = (x : Int)) ∧
  (∃ G : Nat, a.2.1 = (G : Int) ∧ G < 2 ^ 5 ∧ ∀ p, G.testBit p = true ↔ ∃ o, zdA (zdSg E n i s) o = (n : Int) ∧ (zeP E o).testBit p = true) ∧
  a.2.2 (d + 5) = M0 (d + 5) ∧ (∀ j, j < 5 * n → a.2.2 (d + 6) j = M0 (d + 6) j) ∧ (∀ j, j ≠ n → a.2.2 (d + 7) j = M0 (d + 7) j)
theorem zcS_same {d n : Nat} {C : Nat → Nat → Int} {E : zE} {s : zD} {M0 : Nat → Nat → Int} {i : Nat} {a : Int × Int × (Nat → Nat → Int)} (h : zcS d n C E s M0 i a) (e : zdS1 E n i (zdSg E n i s) = zdSg E n i s) : zcS d n C E s M0 (i + 1) a := by
  unfold zcS at h ⊢
  rw [zdSg_s, e]
  exact h
theorem lD_signAll_ok {d n : Nat} {C M : Nat → Nat → Int} {E : zE} {s : zD} (he : zcE d C E) (ha : zag d C M) (hn : n ≤ 20) (hs : zdOk E n s) (hnew : ∀ o, zdA s o ≠ (n : Int)) (hr : zcR d (zeB E) n s M) (hD : zcD E s (M (d + 7) n)) : zS (lD_signAll d n M) (fun M' => zag d C M' ∧ zcR d (zeB E) n (zdSg E n (zeC E) s) M' ∧ zcD E (zdSg E n (zeC E) s) (M' (d + 7) n) ∧ M' (d + 5) = M (d + 5) ∧ (∀ i, i < 5 * n → M' (d + 6) i = M (d + 6) i) ∧ (∀ i, i ≠ n → M' (d + 7) i = M (d + 7) i)) := by
  have he0 := he
  obtain ⟨hd, hok, hB, hC, hF, hA, hJ, hL, hP⟩ := he
  have hb5 := hok.1
  have hc6 := hok.2.1
  refine zS_gen (fun Q hQ => ?_)
  unfold lD_signAll
  rw [if_pos hd]
  refine loopI (fun m i (a : Int × Int × (Nat → Nat → Int)) => lD_signAll_c7 d n m a.1 a.2.1 (i : Int) a.2.2) (zcS d n C E s M) (a0 := (0, 0, M)) 0 (zeC E) (by omega) ?_ ?_ ?_ zN (zN_gt (by omega))
  · obtain ⟨D, e, hDl, hDb⟩ := zcD_n hok hD
    refine ⟨ha, hr, ⟨D, e, hDl, hDb⟩, ⟨0, rfl, by decide, fun x => ?_⟩, ⟨0, rfl, by decide, fun x => ?_⟩, rfl, fun _ _ => rfl, fun _ _ => rfl⟩
    · rw [Nat.zero_testBit]
      exact ⟨fun h => (Bool.false_ne_true h).elim, fun ⟨o, h, _⟩ => (hnew o h).elim⟩
    · rw [Nat.zero_testBit]
      exact ⟨fun h => (Bool.false_ne_true h).elim, fun ⟨o, h, _⟩ => (hnew o h).elim⟩
  · intro m i a _ hi hI k
    obtain ⟨y2, y3, M1⟩ := a
    have hI0 := hI
    obtain ⟨h1, h2, ⟨D, hDe, hDl, hDb⟩, ⟨U, hUe, hUl, hUb⟩, ⟨G, hGe, hGl, hGb⟩, h5, h6, h7⟩ := hI
    have hDe : M1 (d + 7) n = (D : Int) := hDe
    have hUe : y2 = (U : Int) := hUe
    have hGe : y3 = (G : Int) := hGe
    have h1 : zag d C M1 := h1
    have h2 : zcR d (zeB E) n (zdSg E n i s) M1 := h2
    have hok1 : zdOk E n (zdSg E n i s) := zdSg_ok hs (by omega)
    have hAi : zdA (zdSg E n i s) i = zdA s i := (zdSg_later (Nat.le_refl i)).1
    have hlt : ∀ o, zdA (zdSg E n i s) o = (n : Int) → o < i := fun o ho => by
      apply Decidable.byContradiction
      intro hoi
      rw [(zdSg_later (by omega)).1] at ho
      exact hnew o ho
    have hsame : zdS1 E n i (zdSg E n i s) = zdSg E n i s → zS (lD_signAll_c7 d n m y2 y3 ((i + 1 : Nat) : Int) M1) Q := fun e => k (y2, y3, M1) (zcS_same hI0 e)
    have ht32 := zeP_lt hok hi
    have ht0 := (hok.2.2.2.2.2.1 i hi).2
    have htB : ∀ p, (zeP E i).testBit p = true → p < zeB E := fun p hp => by
      apply Decidable.byContradiction
      intro hpb
      have hz : (zeP E i).testBit p = false := Nat.testBit_lt_two_pow (Nat.lt_of_lt_of_le (hok.2.2.2.2.2.1 i hi).1 (Nat.pow_le_pow_right (by decide) (by omega)))
      rw [hz] at hp
      cases hp
    have htex : ∃ p, p < zeB E ∧ (zeP E i).testBit p = true := by
      apply Decidable.byContradiction
      intro hno
      refine ht0 (zn0.mpr (fun p => ?_))
      cases hz : (zeP E i).testBit p with
      | false => rfl
      | true => exact (hno ⟨p, htB p hz, hz⟩).elim
    have hB1 : M1 3 7 = (zeB E : Int) := by rw [zag_lt hd h1 (by omega)]; exact hB
    show zS (lD_signAll_c7 d n (m + 1) y2 y3 (i : Int) M1) _
    rw [lD_signAll_c7]
    refine zS_it (by rw [zag_lt hd h1 (by omega)]; omega) ?_
    refine zS_b (rdI_n sh_12 (by omega)) ?_
    refine zS_b (rdI_n (sh_D7 hd) (by omega)) ?_
    rw [zag_lt hd h1 (show 12 < 34 by decide), hP i hi, hDe, zbit_nat (by omega) (by omega)]
    have hnone : ∀ y7 : Int, (zdCo E i (zdSg E n i s) = -1) → zS (lD_signAll_c85 d n (lD_signAll_c7 d n m) y2 y3 (i : Int) (zeP E i : Int) y7 0 M1) Q := fun y7 hz => by
      unfold lD_signAll_c85
      have hno : ¬ (zand (zeP E i : Int) (zxor 0 (-1)) = 0) := fun e => by
        have e2 := (zandn_0 (a := zeP E i) (b := 0) (by omega)).mp e
        obtain ⟨p, _, hp⟩ := htex
        have e3 := e2 p hp
        rw [Nat.zero_testBit] at e3
        cases e3
      rw [if_neg hno, w1 (by omega)]
      refine hsame ?_
      unfold zdS1
      rw [if_pos (Or.inl hz)]
    by_cases hDi : D.testBit i = true
    · rw [if_pos hDi, if_neg (by decide)]
      unfold lD_signAll_c50
      rw [if_pos rfl]
      refine hnone (-1) ?_
      unfold zdCo
      have h9 := hDb i
      rw [hDi] at h9
      have h10 := (Bool.and_eq_true _ _).mp h9.symm
      rw [if_neg (of_decide_eq_true h10.2)]
    · rw [if_neg hDi, if_pos rfl]
      have hDi : D.testBit i = false := by simpa using hDi
      have hAn : zdA (zdSg E n i s) i = -1 := by
        have h9 := hDb i
        rw [hDi, decide_eq_true hi] at h9
        have h10 : decide (zdA (zdSg E n i s) i ≠ -1) = false := by simpa using h9.symm
        exact Decidable.byContradiction (of_decide_eq_false h10)
      unfold lD_signAll_c50
      rw [if_neg (by decide)]
      refine zS_b (lD_cornerOfAll_eq hd hB1 hb5 hn (by omega) (fun p hp => by rw [(h2 p hp).1]; exact (hok1.1 p hp).1)) ?_
      have hcoe : zco (fun p => (zeP E i).testBit p) (fun p => M1 (d + 5) (5 * n + p)) (zeB E) = zco (fun p => (zeP E i).testBit p) (zdP (zdSg E n i s)) (zeB E) := zco_congr (fun p hp => ⟨rfl, (h2 p hp).1⟩)
      rw [hcoe, zco_ci]
      generalize hx : zci (fun p => (zeP E i).testBit p) (zdP (zdSg E n i s)) (fun _ => 1) (zeB E) = x
      have hCe : zdCo E i (zdSg E n i s) = zci (fun p => (zeP E i).testBit p) (zdP (zdSg E n i s)) (zdK (zdSg E n i s)) (zeB E) := by
        unfold zdCo
        rw [if_pos hAn]
      have hpl : ∀ p, p < zeB E → 0 ≤ zdP (zdSg E n i s) p := fun p hp => (hok1.1 p hp).1
      by_cases hx1 : x = -1
      · rw [if_pos hx1]
        refine hnone x ?_
        rw [hCe]
        apply Decidable.byContradiction
        intro hne
        obtain ⟨q1, q2, q3⟩ := zci_ne hpl hne
        have q4 := zci_of (ik := fun _ => 1) hpl q2 (fun p hp hf => ⟨(q3 p hp hf).1, by decide⟩)
        rw [hx] at q4
        omega
      · rw [if_neg hx1]
        have hxn : zci (fun p => (zeP E i).testBit p) (zdP (zdSg E n i s)) (fun _ => 1) (zeB E) ≠ -1 := by rw [hx]; exact hx1
        obtain ⟨x0, _, x2⟩ := zci_ne hpl hxn
        rw [hx] at x0 x2
        refine zS_b (lD_namesAwake_eq hd hB1 hb5 hn) ?_
        have haw : zst (zeB E) (fun p => decide (0 < M1 (d + 6) (5 * n + p))) = ((zsn (zeB E) (fun p => decide (0 < zdK (zdSg E n i s) p)) : Nat) : Int) := by
          rw [zst_nat _ (by omega), zsn_congr (g := fun p => decide (0 < zdK (zdSg E n i s) p)) (fun p hp => by rw [(h2 p hp).2])]
        rw [haw]
        generalize hawe : zsn (zeB E) (fun p => decide (0 < zdK (zdSg E n i s) p)) = aw
        have hawb : ∀ p, aw.testBit p = (decide (p < zeB E) && decide (0 < zdK (zdSg E n i s) p)) := fun p => by rw [← hawe]; exact zsn_bit _
        have hawl : aw < 32 := by
          have q1 := zsn_lt (f := fun p => decide (0 < zdK (zdSg E n i s) p)) (zeB E)
          have q2 : 2 ^ zeB E ≤ 2 ^ 5 := Nat.pow_le_pow_right (by decide) hb5
          omega
        unfold lD_signAll_c85
        by_cases hall : zand (zeP E i : Int) (zxor (aw : Int) (-1)) = 0
        · rw [if_pos hall]
          have hall := (zandn_0 (by omega)).mp hall
          have hCx : zdCo E i (zdSg E n i s) = x := by
            rw [hCe]
            refine zci_of hpl htex (fun p hp hf => ⟨(x2 p hp hf).1, ?_⟩)
            have q1 := hall p hf
            rw [hawb] at q1
            have q2 := of_decide_eq_true ((Bool.and_eq_true _ _).mp q1).2
            omega
          have hx8 : x < 8 := by
            obtain ⟨p, hp, hf⟩ := htex
            have q1 := (x2 p hp hf).1
            have q2 := (hok1.1 p hp).2.1
            omega
          obtain ⟨X, rfl⟩ : ∃ X : Nat, x = (X : Int) := ⟨x.toNat, by omega⟩
          refine zS_b (lD_namesAt_eq hd hB1 hb5 hn) ?_
          have hat : zst (zeB E) (fun p => decide (M1 (d + 5) (5 * n + p) = (X : Int))) = ((zsn (zeB E) (fun p => decide (zdP (zdSg E n i s) p = (X : Int))) : Nat) : Int) := by
            rw [zst_nat _ (by omega), zsn_congr (g := fun p => decide (zdP (zdSg E n i s) p = (X : Int))) (fun p hp => by rw [(h2 p hp).1])]
          rw [hat]
          generalize hate : zsn (zeB E) (fun p => decide (zdP (zdSg E n i s) p = (X : Int))) = at0
          have hatb : ∀ p, at0.testBit p = (decide (p < zeB E) && decide (zdP (zdSg E n i s) p = (X : Int))) := fun p => by rw [← hate]; exact zsn_bit _
          have hatl : at0 < 32 := by
            have q1 := zsn_lt (f := fun p => decide (zdP (zdSg E n i s) p = (X : Int))) (zeB E)
            have q2 : 2 ^ zeB E ≤ 2 ^ 5 := Nat.pow_le_pow_right (by decide) hb5
            omega
          rw [zand_nat (show at0 < 2147483648 by omega)]
          have hfl : ∀ f1 : Int, (f1 = 0 ∨ f1 = 1) → (f1 = 0 ↔ ∀ p, p < zeB E → (zeP E i).testBit p = false → zdP (zdSg E n i s) p = (X : Int) → zdK (zdSg E n i s) p ≤ 0) → zS (lD_signAll_c123 d n (lD_signAll_c7 d n m) y2 y3 (i : Int) (zeP E i : Int) (X : Int) f1 M1) Q := fun f1 hf01 hf1 => by
            rw [lD_signAll_c123_eq, hUe, zbit_nat (by omega) (by omega)]
            have hf2 : (if (if U.testBit X = true then (1 : Int) else 0) = 0 then (0 : Int) else 1) = 0 ↔ ∀ o, o < i → zdA (zdSg E n i s) o = (n : Int) → zdI (zdSg E n i s) o ≠ (X : Int) := by
              by_cases hUX : U.testBit X = true
              · rw [if_pos hUX, if_neg (by decide)]
                obtain ⟨o, q1, q2⟩ := (hUb X).mp hUX
                exact ⟨fun e => (absurd e (by decide)), fun q => absurd q2 (q o (hlt o q1) q1)⟩
              · rw [if_neg hUX, if_pos rfl]
                exact ⟨fun _ o _ q1 q2 => hUX ((hUb X).mpr ⟨o, q1, q2⟩), fun _ => rfl⟩
            have hf3 : (if zand (zeP E i : Int) y3 = 0 then (0 : Int) else 1) = 0 ↔ ∀ o, o < i → zdA (zdSg E n i s) o = (n : Int) → zeP E o &&& zeP E i = 0 := by
              rw [hGe]
              by_cases hz : zand (zeP E i : Int) (G : Int) = 0
              · rw [if_pos hz]
                have hz := (zand_0 (by omega)).mp hz
                refine ⟨fun _ o _ q1 => zn0.mpr (fun p => ?_), fun _ => rfl⟩
                rw [Nat.testBit_and]
                cases q2 : (zeP E o).testBit p with
                | false => rfl
                | true =>
                  cases q3 : (zeP E i).testBit p with
                  | false => rfl
                  | true => exact (hz p ⟨q3, (hGb p).mpr ⟨o, q1, q2⟩⟩).elim
              · rw [if_neg hz]
                refine ⟨fun e => (absurd e (by decide)), fun q => (hz ((zand_0 (by omega)).mpr (fun p hp => ?_))).elim⟩
                obtain ⟨o, q1, q2⟩ := (hGb p).mp hp.2
                have q3 := zn0.mp (q o (hlt o q1) q1) p
                rw [Nat.testBit_and, q2, hp.1] at q3
                cases q3
            have hf201 : (if (if U.testBit X = true then (1 : Int) else 0) = 0 then (0 : Int) else 1) = 0 ∨ (if (if U.testBit X = true then (1 : Int) else 0) = 0 then (0 : Int) else 1) = 1 := by
              generalize (if U.testBit X = true then (1 : Int) else 0) = z
              by_cases hz : z = 0
              · rw [if_pos hz]; exact Or.inl rfl
              · rw [if_neg hz]; exact Or.inr rfl
            have hf301 : (if zand (zeP E i : Int) y3 = 0 then (0 : Int) else 1) = 0 ∨ (if zand (zeP E i : Int) y3 = 0 then (0 : Int) else 1) = 1 := by
              by_cases hz : zand (zeP E i : Int) y3 = 0
              · rw [if_pos hz]; exact Or.inl rfl
              · rw [if_neg hz]; exact Or.inr rfl
            generalize (if (if U.testBit X = true then (1 : Int) else 0) = 0 then (0 : Int) else 1) = f2 at hf2 hf201 ⊢
            generalize (if zand (zeP E i : Int) y3 = 0 then (0 : Int) else 1) = f3 at hf3 hf301 ⊢
            unfold lD_signAll_c158
            rw [if_pos hd]
            refine zS_b (lD_isBarred_eq hd hf01 hf201 hf301) ?_
            rw [h1 d (by omega) (by omega) (by omega), hL]
            have hmay : (if zeL E = 1 then f1 else if zeL E = 2 then f2 else if zeL E = 3 then f3 else 0) = 0 ↔ zdMay E n i (X : Int) (zdSg E n i s) = true := by
              rw [zdMay_1]
              by_cases L1 : zeL E = 1
              · rw [if_pos L1, hf1]
                exact ⟨fun q => ⟨fun _ => q, fun o _ _ => ⟨fun e => by omega, fun e => by omega⟩⟩, fun q => q.1 L1⟩
              · rw [if_neg L1]
                by_cases L2 : zeL E = 2
                · rw [if_pos L2, hf2]
                  exact ⟨fun q => ⟨fun e => absurd e L1, fun o q1 q2 => ⟨fun _ => q o q1 q2, fun e => by omega⟩⟩, fun q o q1 q2 => (q.2 o q1 q2).1 L2⟩
                · rw [if_neg L2]
                  by_cases L3 : zeL E = 3
                  · rw [if_pos L3, hf3]
                    exact ⟨fun q => ⟨fun e => absurd e L1, fun o q1 q2 => ⟨fun e => absurd e L2, fun _ => q o q1 q2⟩⟩, fun q o q1 q2 => (q.2 o q1 q2).2 L3⟩
                  · rw [if_neg L3]
                    exact ⟨fun _ => ⟨fun e => absurd e L1, fun o q1 q2 => ⟨fun e => absurd e L2, fun e => absurd e L3⟩⟩, fun _ => rfl⟩
            generalize (if zeL E = 1 then f1 else if zeL E = 2 then f2 else if zeL E = 3 then f3 else 0) = v at hmay ⊢
            by_cases hv : v = 0
            · rw [if_pos hv]
              have hm := hmay.mp hv
              have hS : zdSg E n (i + 1) s = (zdP (zdSg E n i s), fun p => zdK (zdSg E n i s) p - (if (zeP E i).testBit p then 1 else 0), fun o => if o = i then (n : Int) else zdA (zdSg E n i s) o, fun o => if o = i then (X : Int) else zdI (zdSg E n i s) o) := by
                rw [zdSg_s]
                unfold zdS1
                rw [hCx, if_neg (by rw [hm]; simp)]
              refine zS_b (rdI_n (sh_D7 hd) (by omega)) ?_
              rw [hDe]
              refine zS_b (wrI_n (sh_D7 hd) (by omega)) ?_
              rw [zor_bit1 (by omega) (by omega)]
              refine zS_m (lD_payInk_ok he0 (zag_up h1 (by omega)) hn ht32 (K := zdK (zdSg E n i s)) (fun p hp => ?_)) ?_
              · rw [zup_c (by omega)]
                exact ⟨(h2 p hp).2, (hok1.1 p hp).2.2⟩
              · intro M2 ⟨g1, g2, g3, g4, g5⟩
                have eU : zor (U : Int) (zshl 1 (X : Int)) = ((U ||| (1 <<< X) : Nat) : Int) := zor_bit1 (by omega) (by omega)
                have eG : zor (G : Int) (zeP E i : Int) = ((G ||| zeP E i : Nat) : Int) := zor_nat (by omega) (by omega)
                rw [w1 (by omega), eU, hGe, eG]
                refine k (_, _, M2) ⟨g1, fun p hp => ?_, ⟨D ||| (1 <<< i), ?_, zor_bit1_lt hDl (by omega), fun q => ?_⟩, ⟨U ||| (1 <<< X), rfl, zor_bit1_lt hUl (by omega), fun y => ?_⟩, ⟨G ||| zeP E i, rfl, Nat.or_lt_two_pow hGl ht32, fun p => ?_⟩, ?_, fun j hj => ?_, fun j hj => ?_⟩
                · rw [hS]
                  refine ⟨?_, ?_⟩
                  · show M2 (d + 5) (5 * n + p) = zdP (zdSg E n i s) p
                    rw [g3, zup_c (by omega)]
                    exact (h2 p hp).1
                  · exact g2 p hp
                · show M2 (d + 7) n = _
                  rw [g4, zup_s]
                · rw [zor_bit1_t, hDb q, hS]
                  show _ = (decide (q < zeC E) && decide ((if q = i then (n : Int) else zdA (zdSg E n i s) q) ≠ -1))
                  by_cases hq : q = i
                  · rw [if_pos hq, hq, decide_eq_true hi, decide_eq_true (show (n : Int) ≠ -1 by omega)]
                    simp
                  · rw [if_neg hq, decide_eq_false hq, Bool.or_false]
                · rw [zor_bit1_t, Bool.or_eq_true, hUb y, hS]
                  show _ ↔ ∃ o, (if o = i then (n : Int) else zdA (zdSg E n i s) o) = (n : Int) ∧ (if o = i then (X : Int) else zdI (zdSg E n i s) o) = (y : Int)
                  constructor
                  · intro h
                    rcases h with ⟨o, q1, q2⟩ | h
                    · have ho := hlt o q1
                      exact ⟨o, by rw [if_neg (by omega)]; exact q1, by rw [if_neg (by omega)]; exact q2⟩
                    · have h := of_decide_eq_true h
                      exact ⟨i, by rw [if_pos rfl], by rw [if_pos rfl, h]⟩
                  · intro ⟨o, q1, q2⟩
                    by_cases ho : o = i
                    · rw [if_pos ho] at q2
                      exact Or.inr (decide_eq_true (by omega))
                    · rw [if_neg ho] at q1 q2
                      exact Or.inl ⟨o, q1, q2⟩
                · rw [Nat.testBit_or, Bool.or_eq_true, hGb p, hS]
                  show _ ↔ ∃ o, (if o = i then (n : Int) else zdA (zdSg E n i s) o) = (n : Int) ∧ (zeP E o).testBit p = true
                  constructor
                  · intro h
                    rcases h with ⟨o, q1, q2⟩ | h
                    · have ho := hlt o q1
                      exact ⟨o, by rw [if_neg (by omega)]; exact q1, q2⟩
                    · exact ⟨i, by rw [if_pos rfl], h⟩
                  · intro ⟨o, q1, q2⟩
                    by_cases ho : o = i
                    · rw [ho] at q2
                      exact Or.inr q2
                    · rw [if_neg ho] at q1
                      exact Or.inl ⟨o, q1, q2⟩
                · show M2 (d + 5) = M (d + 5)
                  rw [g3, zup_c (by omega)]
                  exact h5
                · show M2 (d + 6) j = M (d + 6) j
                  rw [g5 j hj, zup_c (by omega)]
                  exact h6 j hj
                · show M2 (d + 7) j = M (d + 7) j
                  rw [g4, zup_i (by omega)]
                  exact h7 j hj
            · rw [if_neg hv, w1 (by omega), ← hUe]
              refine hsame ?_
              unfold zdS1
              rw [hCx, if_pos]
              right
              cases hm : zdMay E n i (X : Int) (zdSg E n i s) with
              | false => rfl
              | true => exact absurd (hmay.mpr hm) hv
          have hoth : zand ((at0 &&& aw : Nat) : Int) (zxor (zeP E i : Int) (-1)) = 0 ↔ ∀ p, p < zeB E → (zeP E i).testBit p = false → zdP (zdSg E n i s) p = (X : Int) → zdK (zdSg E n i s) p ≤ 0 := by
            rw [zandn_0 (Nat.lt_of_le_of_lt Nat.and_le_left (show at0 < 2147483648 by omega))]
            constructor
            · intro q p hp hf hpx
              apply Decidable.byContradiction
              intro hk
              have q1 := q p (by rw [Nat.testBit_and, hatb, hawb, decide_eq_true hp, decide_eq_true hpx, decide_eq_true (show 0 < zdK (zdSg E n i s) p by omega)]; rfl)
              rw [hf] at q1
              cases q1
            · intro q p hp
              rw [Nat.testBit_and, hatb, hawb] at hp
              have q1 := (Bool.and_eq_true _ _).mp hp
              have q2 := (Bool.and_eq_true _ _).mp q1.1
              have q3 := (Bool.and_eq_true _ _).mp q1.2
              cases hf : (zeP E i).testBit p with
              | true => rfl
              | false =>
                have q4 := q p (of_decide_eq_true q2.1) hf (of_decide_eq_true q2.2)
                have q5 := of_decide_eq_true q3.2
                omega
          by_cases ho : zand ((at0 &&& aw : Nat) : Int) (zxor (zeP E i : Int) (-1)) = 0
          · rw [if_pos ho]
            exact hfl 0 (Or.inl rfl) ⟨fun _ => hoth.mp ho, fun _ => rfl⟩
          · rw [if_neg ho]
            exact hfl 1 (Or.inr rfl) ⟨fun e => absurd e (by decide), fun q => absurd (hoth.mpr q) ho⟩
        · rw [if_neg hall, w1 (by omega)]
          refine hsame ?_
          unfold zdS1
          rw [if_pos]
          left
          rw [hCe]
          apply Decidable.byContradiction
          intro hne
          obtain ⟨q1, q2, q3⟩ := zci_ne hpl hne
          refine hall ((zandn_0 (by omega)).mpr (fun p hp => ?_))
          have q4 := (q3 p (htB p hp) hp).2
          have q5 := (hok1.1 p (htB p hp)).2.2.1
          rw [hawb, decide_eq_true (htB p hp), decide_eq_true (show 0 < zdK (zdSg E n i s) p by omega)]
          rfl
  · intro m a hI
    obtain ⟨y2, y3, M1⟩ := a
    obtain ⟨h1, h2, ⟨D, hDe, hDl, hDb⟩, _, _, h5, h6, h7⟩ := hI
    have h1 : zag d C M1 := h1
    have hDe : M1 (d + 7) n = (D : Int) := hDe
    show zS (lD_signAll_c7 d n (m + 1) y2 y3 (zeC E : Int) M1) _
    rw [lD_signAll_c7]
    refine zS_ie (by rw [zag_lt hd h1 (by omega)]; omega) ?_
    exact zS_r (hQ _ ⟨h1, h2, by rw [hDe]; exact zcD_of hok hDb, h5, h6, h7⟩)
