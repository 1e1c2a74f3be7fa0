/-! The class goes on, begins, runs. -/
theorem lD_goOn_ok {d n : Nat} {r : Bool} {x : Int} {C M : Nat → Nat → Int} {E : zE} {s : zD} (he : zcE d C E) (ha : zag d C M) (hn : n < 20) (hs : zdOk E n s) (hr : zcR d (zeB E) n s M) (hD : zcD E s (M (d + 7) n)) (hx : x = if r = true then 1 else 0) : zS (lD_goOn d n x M) (fun M' => zag d C M' ∧ zcR d (zeB E) (n + 1) (zdNx E n r s) M' ∧ zcD E (zdNx E n r s) (M' (d + 7) (n + 1)) ∧ (∀ i, i < 5 * (n + 1) → M' (d + 5) i = M (d + 5) i ∧ M' (d + 6) i = M (d + 6) i) ∧ (∀ i, i ≠ n + 1 → M' (d + 7) i = M (d + 7) i)) := by
  have he0 := he
  obtain ⟨hd, hok, hB, hC, hF, hA, hJ, hL, hP⟩ := he
  have hb5 := hok.1
  refine zS_gen (fun Q hQ => ?_)
  unfold lD_goOn
  rw [if_pos hd]
  refine loopI (fun m i M => lD_goOn_c2 d n x m (i : Int) M) (fun i M' => zag d C M' ∧ (∀ p, p < i → M' (d + 5) (5 * (n + 1) + p) = zdP (zdGo E n r s) p ∧ M' (d + 6) (5 * (n + 1) + p) = zdK (zdGo E n r s) p) ∧ (∀ j, j < 5 * (n + 1) → M' (d + 5) j = M (d + 5) j ∧ M' (d + 6) j = M (d + 6) j) ∧ M' (d + 7) = M (d + 7)) 0 (zeB E) (by omega) ?_ ?_ ?_ zN (zN_gt (by omega))
  · exact ⟨ha, fun p hp => by omega, fun _ _ => ⟨rfl, rfl⟩, rfl⟩
  · intro m i M1 _ hi ⟨h1, h2, h3, h4⟩ k
    have hsi := hs.1 i hi
    have hAi := hok.2.2.2.2.1 i n hi hn
    have e5 : w32 (((5 * n + i : Nat) : Int) + 5) = ((5 * (n + 1) + i : Nat) : Int) := by simp (disch := omega) only [w32_eq]; omega
    have hr5 : M1 (d + 5) (5 * n + i) = zdP s i := by rw [(h3 _ (by omega)).1]; exact (hr i hi).1
    have hr6 : M1 (d + 6) (5 * n + i) = zdK s i := by rw [(h3 _ (by omega)).2]; exact (hr i hi).2
    show zS (lD_goOn_c2 d n x (m + 1) (i : Int) M1) _
    rw [lD_goOn_c2]
    refine zS_it (by rw [zag_lt hd h1 (by omega)]; omega) ?_
    rw [w5' (by omega) (by omega)]
    refine zS_b ((lD_aimOf_cg (h1 d (by omega) (by omega) (by omega)) (zag_lt hd h1 (by omega)) (zag_lt hd h1 (by omega)) (zag_lt hd h1 (by omega))).trans (hA i n hi hn)) ?_
    have hfin : ∀ v, v = zdP (zdGo E n r s) i → zS (lD_goOn_c93 d n x (lD_goOn_c2 d n x m) (i : Int) ((5 * n + i : Nat) : Int) (d + 5) (w32 (((5 * n + i : Nat) : Int) + 5)) v M1) Q := fun v hv => by
      unfold lD_goOn_c93
      rw [e5, w1 (by omega)]
      refine zS_b (wrI_n (sh_D5 hd) (by omega)) ?_
      refine zS_b (rdI_n (sh_D6 hd) (by omega)) ?_
      rw [zup_c (by omega), hr6, w32_eq (by omega) (by omega)]
      refine zS_b (wrI_n (sh_D6 hd) (by omega)) ?_
      refine k _ ⟨zag_up (zag_up h1 (by omega)) (by omega), fun p hp => ⟨?_, ?_⟩, fun j hj => ⟨?_, ?_⟩, ?_⟩
      · rw [zup_c (by omega), zup_a]
        by_cases hpi : p = i
        · rw [if_pos (by omega), hv, hpi]
        · rw [if_neg (by omega)]; exact (h2 p (by omega)).1
      · rw [zup_a]
        by_cases hpi : p = i
        · rw [if_pos (by omega), hpi]
          rfl
        · rw [if_neg (by omega), zup_c (by omega)]; exact (h2 p (by omega)).2
      · rw [zup_c (by omega), zup_i (by omega)]; exact (h3 j hj).1
      · rw [zup_i (by omega), zup_c (by omega)]; exact (h3 j hj).2
      · rw [zup_c (by omega), zup_c (by omega)]; exact h4
    have hgo : zdP (zdGo E n r s) i = if r = false ∧ 0 < zdK s i ∧ zeJ E (zdP s i) (zeA E i n) = true then zeA E i n else zdP s i := rfl
    have hst : ¬ (r = false ∧ 0 < zdK s i ∧ zeJ E (zdP s i) (zeA E i n) = true) → zS (lD_goOn_c66 d n x (lD_goOn_c2 d n x m) (i : Int) ((5 * n + i : Nat) : Int) (zeA E i n) 0 M1) Q := fun hc => by
      unfold lD_goOn_c66
      rw [if_pos rfl]
      refine zS_b (rdI_n (sh_D5 hd) (by omega)) ?_
      rw [hr5]
      exact hfin _ (by rw [hgo, if_neg hc])
    cases r with
    | true =>
      rw [if_pos rfl] at hx
      rw [if_neg (by omega)]
      exact hst (fun h => by cases h.1)
    | false =>
      rw [if_neg (by decide)] at hx
      rw [if_pos hx]
      refine zS_b (rdI_n (sh_D6 hd) (by omega)) ?_
      rw [hr6]
      by_cases h0 : 0 < zdK s i
      · rw [if_pos h0]
        refine zS_b (rdI_n (sh_D5 hd) (by omega)) ?_
        rw [hr5]
        refine zS_b ((lN_joins_cg (h1 (d + 1 + 1) (by omega) (by omega) (by omega))).trans (hJ _ _ hsi.1 hsi.2.1 hAi.1 hAi.2)) ?_
        by_cases hj : zeJ E (zdP s i) (zeA E i n) = true
        · rw [zbo_t hj, if_neg (by decide)]
          unfold lD_goOn_c66
          rw [if_neg (by decide)]
          exact hfin _ (by rw [hgo, if_pos ⟨rfl, h0, hj⟩])
        · rw [zbo_f hj, if_pos rfl]
          exact hst (fun h => hj h.2.2)
      · rw [if_neg h0]
        exact hst (fun h => h0 h.2.1)
  · intro m M1 ⟨h1, h2, h3, h4⟩
    show zS (lD_goOn_c2 d n x (m + 1) (zeB E : Int) M1) _
    rw [lD_goOn_c2]
    refine zS_ie (by rw [zag_lt hd h1 (by omega)]; omega) ?_
    refine zS_b (rdI_n (sh_D7 hd) (by omega)) ?_
    rw [w1 (by omega)]
    refine zS_b (wrI_n (sh_D7 hd) (by omega)) ?_
    have hs1 : zdOk E ((n + 1 : Nat) : Int) (zdGo E n r s) := zdOk_mono (by omega) (zdGo_ok hok hn hs)
    refine zS_m (lD_drinkAll_ok he0 (s := zdGo E n r s) (zag_up h1 (by omega)) (by omega) hs1 (fun p hp => ?_)) ?_
    · rw [zup_c (by omega), zup_c (by omega)]
      exact h2 p hp
    · intro M2 ⟨g1, g2, g3, g4, g5⟩
      have hs2 : zdOk E ((n + 1 : Nat) : Int) (zdFd E (zdGo E n r s)) := zdFd_ok hok hs1
      refine zS_m (lD_signAll_ok he0 g1 (by omega) hs2 (fun o => ?_) g2 ?_) ?_
      · rcases hs.2 o with q | ⟨_, _, q, _⟩
        · show zdA s o ≠ _
          omega
        · show zdA s o ≠ _
          omega
      · rw [g4, zup_s, h4]
        exact hD
      · intro M3 ⟨k1, k2, k3, k4, k5, k6⟩
        refine zS_r (hQ _ ⟨k1, k2, k3, fun i hi => ⟨?_, ?_⟩, fun i hi => ?_⟩)
        · rw [k4, g3, zup_c (by omega)]; exact (h3 i hi).1
        · rw [k5 i hi, g5 i hi, zup_c (by omega)]; exact (h3 i hi).2
        · rw [k6 i hi, g4, zup_i hi, h4]
theorem lD_begin_ok {d : Nat} {C M : Nat → Nat → Int} {E : zE} (he : zcE d C E) (hb : lN_build (d + 1) 3 (M d 9) M = some C) (hh : ∀ p, p < zeB E → C (d + 3) p = zeH E p ∧ C (d + 4) p = zeI E p) : zS (lD_begin d M) (fun M' => zag d C M' ∧ zcR d (zeB E) 0 (zdD E 0) M' ∧ zcD E (zdD E 0) (M' (d + 7) 0)) := by
  have he0 := he
  obtain ⟨hd, hok, hB, hC, hF, hA, hJ, hL, hP⟩ := he
  have hb5 := hok.1
  unfold lD_begin
  rw [if_pos hd]
  refine zS_b hb ?_
  refine loopI (fun m i M => lD_begin_c17 d m (i : Int) M) (fun i M' => zag d C M' ∧ (∀ p, p < i → M' (d + 5) (5 * 0 + p) = zeH E p ∧ M' (d + 6) (5 * 0 + p) = zeI E p)) 0 (zeB E) (by omega) ?_ ?_ ?_ zN (zN_gt (by omega))
  · exact ⟨zag_r, fun p hp => by omega⟩
  · intro m i M1 _ hi ⟨h1, h2⟩ k
    show zS (lD_begin_c17 d (m + 1) (i : Int) M1) _
    rw [lD_begin_c17]
    refine zS_it (by rw [zag_lt hd h1 (by omega)]; omega) ?_
    rw [w1 (by omega)]
    refine zS_b (rdI_n (sh_D3 hd) (by omega)) ?_
    refine zS_b (wrI_n (sh_D5 hd) (by omega)) ?_
    refine zS_b (rdI_n (sh_D4 hd) (by omega)) ?_
    refine zS_b (wrI_n (sh_D6 hd) (by omega)) ?_
    rw [zup_c (show d + 4 ≠ d + 5 by omega), h1 (d + 3) (by omega) (by omega) (by omega), h1 (d + 4) (by omega) (by omega) (by omega), (hh i hi).1, (hh i hi).2]
    refine k _ ⟨zag_up (zag_up h1 (by omega)) (by omega), fun p hp => ⟨?_, ?_⟩⟩
    · rw [zup_c (by omega), zup_a]
      by_cases hpi : p = i
      · rw [if_pos (by omega), hpi]
      · rw [if_neg (by omega)]; exact (h2 p (by omega)).1
    · rw [zup_a]
      by_cases hpi : p = i
      · rw [if_pos (by omega), hpi]
      · rw [if_neg (by omega), zup_c (by omega)]; exact (h2 p (by omega)).2
  · intro m M1 ⟨h1, h2⟩
    show zS (lD_begin_c17 d (m + 1) (zeB E : Int) M1) _
    rw [lD_begin_c17]
    refine zS_ie (by rw [zag_lt hd h1 (by omega)]; omega) ?_
    refine zS_b (wrI_z (sh_D7 hd) (i := 0) rfl (by omega)) ?_
    have hs0 : zdOk E ((0 : Nat) : Int) (zd0 E) := zdOk_mono (by omega) (zd0_ok hok)
    refine zS_m (lD_drinkAll_ok (n := 0) he0 (s := zd0 E) (zag_up h1 (by omega)) (by omega) hs0 (fun p hp => ?_)) ?_
    · rw [zup_c (by omega), zup_c (by omega)]
      exact h2 p hp
    · intro M2 ⟨g1, g2, g3, g4, g5⟩
      refine zS_m (lD_signAll_ok (n := 0) he0 g1 (by omega) (zdFd_ok hok hs0) (fun o => ?_) g2 ?_) ?_
      · show (-1 : Int) ≠ _
        omega
      · rw [g4, zup_s]
        have h0 : zcD E (zdFd E (zd0 E)) ((0 : Nat) : Int) := zcD_of hok (fun k => by
          rw [Nat.zero_testBit]
          show _ = (decide (k < zeC E) && decide ((-1 : Int) ≠ -1))
          simp)
        exact h0
      · intro M3 ⟨k1, k2, k3, k4, k5, k6⟩
        exact zS_r ⟨k1, k2, k3⟩
def zdCnt (E : zE) (s : zD) : Int := zpc 12 (zsn (zeC E) (fun k => decide (zdA s k ≠ -1)))
/-- the whole day in a memory -/
def zcT (d T : Nat) (E : zE) (M : Nat → Nat → Int) : Prop := ∀ n, n ≤ T → zcR d (zeB E) n (zdD E n) M ∧ zcD E (zdD E n) (M (d + 7) n)
theorem lD_runAll_ok {d T : Nat} {x : Int} {C M : Nat → Nat → Int} {E : zE} (he : zcE d C E) (hb : lN_build (d + 1) 3 (M d 9) M = some C) (hh : ∀ p, p < zeB E → C (d + 3) p = zeH E p ∧ C (d + 4) p = zeI E p) (hT : C 3 1 = (T : Int)) (hT20 : T ≤ 20) (hx : ∀ n : Nat, n < T → (zand (zshr x (n : Int)) 1 = 0 ↔ zeR E n = false)) : zS (lD_runAll d x M) (fun r => r.1 = zdCnt E (zdD E T) ∧ zag d C r.2 ∧ zcT d T E r.2) := by
  have he0 := he
  obtain ⟨hd, hok, hB, hC, hF, hA, hJ, hL, hP⟩ := he
  unfold lD_runAll
  rw [if_pos hd]
  refine zS_m (lD_begin_ok he0 hb hh) ?_
  intro M0 ⟨b1, b2, b3⟩
  refine loopI (fun m i M => lD_runAll_c6 d x m (i : Int) M) (fun i M' => zag d C M' ∧ zcT d i E M') 0 T (by omega) ?_ ?_ ?_ zN (zN_gt (by omega))
  · refine ⟨b1, fun n hn => ?_⟩
    have hn : n = 0 := by omega
    subst hn
    exact ⟨b2, b3⟩
  · intro m i M1 _ hi ⟨h1, h2⟩ k
    have key : ∀ r : Bool, r = zeR E i → zS (lD_goOn d (i : Int) (if r = true then 1 else 0) M1) (fun M' => zag d C M' ∧ zcT d (i + 1) E M') := fun r hr => by
      obtain ⟨q1, q2⟩ := h2 i (Nat.le_refl i)
      refine zS_mono (lD_goOn_ok he0 h1 (by omega) (zdD_ok hok (by omega)) q1 q2 rfl) ?_
      intro M2 ⟨g1, g2, g3, g4, g5⟩
      refine ⟨g1, fun n hn => ?_⟩
      by_cases hni : n = i + 1
      · subst hni
        have e : zdD E (i + 1) = zdNx E i r (zdD E i) := by rw [hr]; rfl
        rw [e]
        exact ⟨g2, g3⟩
      · obtain ⟨p1, p2⟩ := h2 n (by omega)
        have hb5 := hok.1
        refine ⟨fun p hp => ?_, ?_⟩
        · obtain ⟨f1, f2⟩ := g4 (5 * n + p) (by omega)
          rw [f1, f2]
          exact p1 p hp
        · rw [g5 n hni]; exact p2
    show zS (lD_runAll_c6 d x (m + 1) (i : Int) M1) _
    rw [lD_runAll_c6]
    refine zS_it (by rw [zag_lt hd h1 (by omega)]; omega) ?_
    rw [w1 (by omega)]
    by_cases hz : zand (zshr x (i : Int)) 1 = 0
    · rw [if_pos hz]
      refine zS_m (key false ((hx i hi).mp hz).symm) (fun M2 h => k M2 h)
    · rw [if_neg hz]
      have hr : zeR E i = true := by
        cases hr : zeR E i with
        | true => rfl
        | false => exact absurd ((hx i hi).mpr hr) hz
      refine zS_m (key true hr.symm) (fun M2 h => k M2 h)
  · intro m M1 ⟨h1, h2⟩
    show zS (lD_runAll_c6 d x (m + 1) (T : Int) M1) _
    rw [lD_runAll_c6]
    refine zS_ie (by rw [zag_lt hd h1 (by omega)]; omega) ?_
    rw [zag_lt hd h1 (by omega), hT]
    refine zS_b (rdI_n (sh_D7 hd) (by omega)) ?_
    have hD := (h2 T (Nat.le_refl T)).2
    unfold zcD at hD
    have h6 := hok.2.1
    rw [hD, zst_nat _ (by omega)]
    have hl := zsn_lt (f := fun k => decide (zdA (zdD E T) k ≠ -1)) (zeC E)
    have hp : 2 ^ zeC E ≤ 2 ^ 6 := Nat.pow_le_pow_right (by decide) h6
    refine zS_b (lJ_bitCount_eq (by omega)) ?_
    exact zS_r ⟨rfl, h1, h2⟩
