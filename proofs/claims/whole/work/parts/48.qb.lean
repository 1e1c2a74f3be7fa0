/-! More questions of the day. -/
section ZQB
variable {W : Nat → Int} {M : Nat → Nat → Int} {x : Int}
theorem q_drinks (h : zInv W M) : zQ1 M (lX_drinks x M) (lm_drinks x M) := by
  obtain ⟨b1, b2, b3, b4, _⟩ := xB h
  obtain ⟨u0, u1, _, _, u4, _, u6, u7, _⟩ := h.2.1
  refine ⟨if (0 ≤ x ∧ x < W 6) then zdDr (zE0 W) ((W 1).toNat + 1) x.toNat else -2, ?_, ?_⟩
  · refine zX_g (xName h) (fun c2 => ?_) (fun c2 => (if_neg c2).symm)
    rw [if_pos c2]
    obtain ⟨p, rfl⟩ : ∃ n : Nat, x = (n : Int) := ⟨x.toNat, by omega⟩
    have hp6 : p < (W 6).toNat := by omega
    refine zS_m (P := fun v => v = zdDr (zE0 W) ((W 1).toNat + 1) p) ?_ (fun v hv => zS_r hv)
    unfold lD_inkDrunk
    rw [if_pos zis_1_29]
    obtain ⟨hd, hok, hB, hC, hF, hA, hJ, hL, hP⟩ := h.2.2.2.2.1.1
    have h33 : M 33 p = W (42 + 12 * p + 1) := h.2.2.2.2.1.2.2.1 p hp6
    refine zS_b (rdI_n (sh_D4 zis_1_29) (by omega)) ?_
    have e33 : M (29 + 4) p = zdK (zdPre (zE0 W) 0) p := h33
    rw [e33]
    refine loopI (fun m i (a : Int × Int) => lD_inkDrunk_c12 29 (p : Int) M m a.1 a.2 (i : Int)) (fun i a => a.1 = zdDr (zE0 W) i p ∧ (i ≤ (W 1).toNat → a.2 = zdK (zdPre (zE0 W) i) p)) (a0 := (0, zdK (zdPre (zE0 W) 0) p)) 0 ((W 1).toNat + 1) (by omega) ?_ ?_ ?_ zN (zN_gt (by omega))
    · exact ⟨rfl, fun _ => rfl⟩
    · intro m i a _ hi ⟨ha1, ha2⟩ k
      have ha2 := ha2 (by omega)
      obtain ⟨a1, a2⟩ := a
      have ha1 : a1 = zdDr (zE0 W) i p := ha1
      have ha2 : a2 = zdK (zdPre (zE0 W) i) p := ha2
      have hd := dOk h (show i ≤ (W 1).toNat by omega) hp6
      have hb := zdDr_b (p := p) hok hp6 (n := i) (by omega)
      have hpo := (zdPre_ok hok (show i ≤ 20 by omega)).1 p hp6
      have hfb := zdFd_b (p := p) hok (zdPre_ok hok (show i ≤ 20 by omega)) hp6
      have hPe : zdP (zdD (zE0 W) i) p = zdP (zdPre (zE0 W) i) p := by rw [zdD_pre, zdSg_P]; rfl
      show zS (lD_inkDrunk_c12 29 (p : Int) M (m + 1) a1 a2 (i : Int)) _
      rw [lD_inkDrunk_c12]
      refine zS_ie (by omega) ?_
      rw [w5' (by omega) (by omega), w1 (by omega)]
      refine zS_b (rdI_n (sh_D5 zis_1_29) (by omega)) ?_
      rw [cP h (by omega) hp6, hPe]
      refine zS_b (hF _ hpo.1 hpo.2.1) ?_
      refine zS_b (rdI_n (sh_D6 zis_1_29) (by omega)) ?_
      rw [cK h (by omega) hp6, ha1, ha2]
      have hFb := hok.2.2.2.1 _ hpo.1 hpo.2.1
      rw [w32_eq (x := zdK (zdPre (zE0 W) i) p + zeF (zE0 W) (zdP (zdPre (zE0 W) i) p)) (by omega) (by omega)]
      have hfd : zmin 60 (zdK (zdPre (zE0 W) i) p + zeF (zE0 W) (zdP (zdPre (zE0 W) i) p)) = zdK (zdFd (zE0 W) (zdPre (zE0 W) i)) p := rfl
      rw [hfd, w32_eq (x := zdK (zdFd (zE0 W) (zdPre (zE0 W) i)) p - zdK (zdPre (zE0 W) i) p) (by omega) (by omega), w32_eq (x := zdDr (zE0 W) i p + _) (by omega) (by omega), w32_eq (x := zdK (zdD (zE0 W) i) p - 1) (by omega) (by omega)]
      exact k (_, _) ⟨rfl, fun _ => rfl⟩
    · intro m a ⟨ha1, _⟩
      show zS (lD_inkDrunk_c12 29 (p : Int) M (m + 1) a.1 a.2 (((W 1).toNat + 1 : Nat) : Int)) _
      rw [lD_inkDrunk_c12]
      refine zS_it (by omega) ?_
      exact zS_r ha1
  · refine zM_q (lm_asksName_ok h.2.1 h.1) (fun c2 r r1 r2 r3 => ?_) (fun c2 => (if_neg c2).symm)
    rw [if_pos c2]
    obtain ⟨p, rfl⟩ : ∃ n : Nat, x = (n : Int) := ⟨x.toNat, by omega⟩
    refine zS_b (rdI_n sh_123 (by omega)) ?_
    exact zS_r ⟨(r3.2.2 p (show p < (W 6).toNat by omega)).2.2, r1⟩
theorem q_sees (h : zInv W M) : zQ1 M (lX_sees x M) (lm_sees x M) := by
  obtain ⟨b1, b2, b3, b4, _⟩ := xB h
  obtain ⟨u0, u1, _, _, u4, _, u6, u7, _⟩ := h.2.1
  refine ⟨if (0 ≤ x ∧ x < W 6) then zfo (fun n a => zor a (zshl 1 (zdP (zdD (zE0 W) n) x.toNat))) ((W 1).toNat + 1) 0 else -2, ?_, ?_⟩
  · refine zX_g (xName h) (fun c2 => ?_) (fun c2 => (if_neg c2).symm)
    rw [if_pos c2]
    obtain ⟨p, rfl⟩ : ∃ n : Nat, x = (n : Int) := ⟨x.toNat, by omega⟩
    refine zS_m (P := fun v => v = zfo (fun n a => zor a (zshl 1 (zdP (zdD (zE0 W) n) p))) ((W 1).toNat + 1) 0) ?_ (fun v hv => zS_r hv)
    unfold lD_cornersSeen
    rw [if_pos zis_1_29]
    refine loopI (fun m i (a : Int) => lD_cornersSeen_c4 29 (p : Int) M m a (i : Int)) (fun i a => a = zfo (fun n a => zor a (zshl 1 (zdP (zdD (zE0 W) n) p))) i 0) (a0 := 0) 0 ((W 1).toNat + 1) (by omega) rfl ?_ ?_ zN (zN_gt (by omega))
    · intro m i a _ hi ha k
      show zS (lD_cornersSeen_c4 29 (p : Int) M (m + 1) a (i : Int)) _
      rw [lD_cornersSeen_c4]
      refine zS_ie (by omega) ?_
      rw [w5' (by omega) (by omega), w1 (by omega)]
      refine zS_b (rdI_n (sh_D5 zis_1_29) (by omega)) ?_
      rw [cP h (by omega) (by omega), ha]
      exact k _ rfl
    · intro m a ha
      show zS (lD_cornersSeen_c4 29 (p : Int) M (m + 1) a (((W 1).toNat + 1 : Nat) : Int)) _
      rw [lD_cornersSeen_c4]
      refine zS_it (by omega) ?_
      exact zS_r ha
  · refine zM_q (lm_asksName_ok h.2.1 h.1) (fun c2 r r1 r2 r3 => ?_) (fun c2 => (if_neg c2).symm)
    rw [if_pos c2]
    obtain ⟨p, rfl⟩ : ∃ n : Nat, x = (n : Int) := ⟨x.toNat, by omega⟩
    refine loopI (fun m i (a : Int) => lm_sees_c15 (p : Int) m a (i : Int) r.2) (fun i a => a = zfo (fun n a => zor a (zshl 1 (zdP (zdD (zE0 W) n) p))) i 0) (a0 := 0) 0 ((W 1).toNat + 1) (by omega) rfl ?_ ?_ zN (zN_gt (by omega))
    · intro m i a _ hi ha k
      show zS (lm_sees_c15 (p : Int) (m + 1) a (i : Int) r.2) _
      rw [lm_sees_c15]
      refine zS_b lm_last_eq ?_
      refine zS_ie (by rw [r2]; omega) ?_
      rw [w1 (by omega)]
      refine zS_b (lm_placeOf_eq (by omega) (by omega)) ?_
      rw [mP r3 (by omega) (show p < (W 6).toNat by omega), ha]
      exact k _ rfl
    · intro m a ha
      show zS (lm_sees_c15 (p : Int) (m + 1) a (((W 1).toNat + 1 : Nat) : Int) r.2) _
      rw [lm_sees_c15]
      refine zS_b lm_last_eq ?_
      refine zS_it (by rw [r2]; omega) ?_
      exact zS_r ⟨ha, r1⟩
theorem q_total (h : zInv W M) : zQ1 M (lX_total x M) (lm_total x M) := by
  obtain ⟨b1, b2, b3, b4, _⟩ := xB h
  obtain ⟨u0, u1, _, _, u4, _, u6, u7, _⟩ := h.2.1
  refine ⟨if (0 < W 9 ∧ 0 ≤ x ∧ x ≤ W 1) then zsum (W 6).toNat (fun p => zdK (zdD (zE0 W) x.toNat) p) else -2, ?_, ?_⟩
  · refine zX_g (xStep h) (fun c2 => ?_) (fun c2 => (if_neg c2).symm)
    rw [if_pos c2]
    obtain ⟨n, rfl⟩ : ∃ n : Nat, x = (n : Int) := ⟨x.toNat, by omega⟩
    refine zS_b (lD_inkOfAll_eq zis_1_29 b1 b2 (by omega) (fun p hp => ?_)) ?_
    · rw [cK h (by omega) hp]
      exact (dOk h (by omega) hp).2.2
    · refine zS_r ?_
      exact zsum_congr (fun i hi => by rw [cK h (by omega) hi]; rfl)
  · refine zM_q (lm_asksStep_ok h.2.1 h.1) (fun c2 r r1 r2 r3 => ?_) (fun c2 => (if_neg c2).symm)
    rw [if_pos c2]
    obtain ⟨n, rfl⟩ : ∃ n : Nat, x = (n : Int) := ⟨x.toNat, by omega⟩
    have hz := zsum_le (n := (W 6).toNat) (f := fun p => zdK (zdD (zE0 W) n) p) (B := 60) (fun p hp => (dOk h (by omega) hp).2.2) (by decide)
    refine loopI (fun m i (a : Int) => lm_total_c15 (n : Int) m a (i : Int) r.2) (fun i a => a = zsum i (fun p => zdK (zdD (zE0 W) n) p)) (a0 := 0) 0 (W 6).toNat (by omega) rfl ?_ ?_ zN (zN_gt (by omega))
    · intro m i a _ hi ha k
      have hzi := hz i (by omega)
      have hki := dOk h (show n ≤ (W 1).toNat by omega) hi
      show zS (lm_total_c15 (n : Int) (m + 1) a (i : Int) r.2) _
      rw [lm_total_c15]
      refine zS_b lm_names_eq ?_
      refine zS_it (by rw [r2]; omega) ?_
      rw [w1 (by omega)]
      refine zS_b (lm_inkIn_eq (by omega) (by omega)) ?_
      rw [mK r3 (by omega) hi, ha, w32_eq (by omega) (by omega)]
      exact k _ rfl
    · intro m a ha
      show zS (lm_total_c15 (n : Int) (m + 1) a ((W 6).toNat : Int) r.2) _
      rw [lm_total_c15]
      refine zS_b lm_names_eq ?_
      refine zS_ie (by rw [r2]; omega) ?_
      exact zS_r ⟨ha, r1⟩
/-- who is alone -/
theorem q_lone (h : zInv W M) : zQ1 M (lX_lone x M) (lm_lone x M) := by
  obtain ⟨b1, b2, b3, b4, _⟩ := xB h
  obtain ⟨u0, u1, _, _, u4, _, u6, u7, _⟩ := h.2.1
  refine ⟨if (0 < W 9 ∧ 0 ≤ x ∧ x ≤ W 1) then zst (W 6).toNat (fun p => decide (zst (W 6).toNat (fun q => decide (zdP (zdD (zE0 W) x.toNat) q = zdP (zdD (zE0 W) x.toNat) p)) = zshl 1 (p : Int))) else -2, ?_, ?_⟩
  · refine zX_g (xStep h) (fun c2 => ?_) (fun c2 => (if_neg c2).symm)
    rw [if_pos c2]
    obtain ⟨n, rfl⟩ : ∃ n : Nat, x = (n : Int) := ⟨x.toNat, by omega⟩
    refine zS_m (P := fun v => v = zst (W 6).toNat (fun p => decide (zst (W 6).toNat (fun q => decide (zdP (zdD (zE0 W) n) q = zdP (zdD (zE0 W) n) p)) = zshl 1 (p : Int)))) ?_ (fun v hv => zS_r hv)
    unfold lD_namesAlone
    rw [if_pos zis_1_29]
    refine loopI (fun m i (a : Int) => lD_namesAlone_c4 29 (n : Int) M m a (i : Int)) (fun i a => a = zst i (fun p => decide (zst (W 6).toNat (fun q => decide (zdP (zdD (zE0 W) n) q = zdP (zdD (zE0 W) n) p)) = zshl 1 (p : Int)))) (a0 := 0) 0 (W 6).toNat (by omega) rfl ?_ ?_ zN (zN_gt (by omega))
    · intro m i a _ hi ha k
      show zS (lD_namesAlone_c4 29 (n : Int) M (m + 1) a (i : Int)) _
      rw [lD_namesAlone_c4]
      refine zS_it (by omega) ?_
      rw [w5' (by omega) (by omega), w1 (by omega)]
      refine zS_b (rdI_n (sh_D5 zis_1_29) (by omega)) ?_
      rw [cP h (by omega) hi]
      refine zS_b (lD_namesAt_eq zis_1_29 b1 b2 (by omega)) ?_
      rw [zst_congr (g := fun q => decide (zdP (zdD (zE0 W) n) q = zdP (zdD (zE0 W) n) i)) (fun q hq => by rw [cP h (by omega) hq])]
      have e : zst (i + 1) (fun p => decide (zst (W 6).toNat (fun q => decide (zdP (zdD (zE0 W) n) q = zdP (zdD (zE0 W) n) p)) = zshl 1 (p : Int))) = if decide (zst (W 6).toNat (fun q => decide (zdP (zdD (zE0 W) n) q = zdP (zdD (zE0 W) n) i)) = zshl 1 (i : Int)) = true then zor (zst i (fun p => decide (zst (W 6).toNat (fun q => decide (zdP (zdD (zE0 W) n) q = zdP (zdD (zE0 W) n) p)) = zshl 1 (p : Int)))) (zshl 1 (i : Int)) else zst i (fun p => decide (zst (W 6).toNat (fun q => decide (zdP (zdD (zE0 W) n) q = zdP (zdD (zE0 W) n) p)) = zshl 1 (p : Int))) := rfl
      by_cases hz : zst (W 6).toNat (fun q => decide (zdP (zdD (zE0 W) n) q = zdP (zdD (zE0 W) n) i)) = zshl 1 (i : Int)
      · rw [if_pos hz]
        exact k _ (by rw [e, if_pos (decide_eq_true hz), ha])
      · rw [if_neg hz]
        exact k _ (by rw [e, if_neg (by simpa using hz), ha])
    · intro m a ha
      show zS (lD_namesAlone_c4 29 (n : Int) M (m + 1) a ((W 6).toNat : Int)) _
      rw [lD_namesAlone_c4]
      refine zS_ie (by omega) ?_
      exact zS_r ha
  · refine zM_q (lm_asksStep_ok h.2.1 h.1) (fun c2 r r1 r2 r3 => ?_) (fun c2 => (if_neg c2).symm)
    rw [if_pos c2]
    obtain ⟨n, rfl⟩ : ∃ n : Nat, x = (n : Int) := ⟨x.toNat, by omega⟩
    refine loopI (fun m i (a : Int) => lm_lone_c15 (n : Int) m a (i : Int) r.2) (fun i a => a = zst i (fun p => decide (zst (W 6).toNat (fun q => decide (zdP (zdD (zE0 W) n) q = zdP (zdD (zE0 W) n) p)) = zshl 1 (p : Int)))) (a0 := 0) 0 (W 6).toNat (by omega) rfl ?_ ?_ zN (zN_gt (by omega))
    · intro m i a _ hi ha k
      show zS (lm_lone_c15 (n : Int) (m + 1) a (i : Int) r.2) _
      rw [lm_lone_c15]
      refine zS_b lm_names_eq ?_
      refine zS_it (by rw [r2]; omega) ?_
      rw [w1 (by omega)]
      refine zS_b (lm_placeOf_eq (by omega) (by omega)) ?_
      rw [mP r3 (by omega) hi]
      refine zS_b (lm_hereOf_eq (b := (W 6).toNat) (by rw [r2]; omega) b2 (by omega)) ?_
      rw [zst_congr (g := fun q => decide (zdP (zdD (zE0 W) n) q = zdP (zdD (zE0 W) n) i)) (fun q hq => by rw [mP r3 (by omega) hq])]
      have e := zor_st (n := i) (f := fun p => decide (zst (W 6).toNat (fun q => decide (zdP (zdD (zE0 W) n) q = zdP (zdD (zE0 W) n) p)) = zshl 1 (p : Int))) (by omega)
      by_cases hz : zst (W 6).toNat (fun q => decide (zdP (zdD (zE0 W) n) q = zdP (zdD (zE0 W) n) i)) = zshl 1 (i : Int)
      · rw [if_pos hz]
        exact k _ (by rw [← e, if_pos (decide_eq_true hz), ha])
      · rw [if_neg hz]
        exact k _ (by rw [← e, if_neg (by simpa using hz), ha])
    · intro m a ha
      show zS (lm_lone_c15 (n : Int) (m + 1) a ((W 6).toNat : Int) r.2) _
      rw [lm_lone_c15]
      refine zS_b lm_names_eq ?_
      refine zS_ie (by rw [r2]; omega) ?_
      exact zS_r ⟨ha, r1⟩
/-- a search over the steps, on both sides -/
theorem zst_bits {n : Nat} {f : Nat → Bool} (hn : n ≤ 30) : ∃ A : Nat, zst n f = (A : Int) ∧ A < 2 ^ n ∧ ∀ i, A.testBit i = (decide (i < n) && f i) := ⟨zsn n f, zst_nat n hn, zsn_lt n, fun _ => zsn_bit n⟩
/-- the first step with no ink -/
def zdSl (E : zE) (T p : Nat) : Int := zfs (T + 1) (fun n => decide (zdK (zdD E n) p = 0))
theorem lm_sleepsOf_eq {E : zE} {T p : Nat} (hT : M 107 1 = (T : Int)) (hT2 : T ≤ 20) (h3 : zmT T E M) (hp : p < zeB E) (hp5 : p < 5) : lm_sleepsOf (p : Int) M = some (zdSl E T p) := by
  refine zS_eq ?_
  unfold lm_sleepsOf
  refine loopI (A := Unit) (fun m i _ => lm_sleepsOf_c2 (p : Int) M m (i : Int)) (fun i _ => ∀ j, j < i → decide (zdK (zdD E j) p = 0) = false) (a0 := ()) 0 (T + 1) (by omega) (fun j hj => by omega) ?_ ?_ zN (zN_gt (by omega))
  · intro m i _ _ hi hI k
    have k := k ()
    show zS (lm_sleepsOf_c2 (p : Int) M (m + 1) (i : Int)) _
    rw [lm_sleepsOf_c2]
    refine zS_b lm_last_eq ?_
    refine zS_ie (by rw [hT]; omega) ?_
    rw [w1 (by omega)]
    refine zS_b (lm_inkIn_eq (by omega) (by omega)) ?_
    rw [mK h3 (by omega) hp]
    by_cases hz : zdK (zdD E i) p = 0
    · rw [if_pos hz]
      exact zS_r (zfs_at hi (decide_eq_true hz) hI).symm
    · rw [if_neg hz]
      exact k (fun j hj => by
        by_cases hji : j = i
        · rw [hji]; exact decide_eq_false hz
        · exact hI j (by omega))
  · intro m _ hI
    show zS (lm_sleepsOf_c2 (p : Int) M (m + 1) ((T + 1 : Nat) : Int)) _
    rw [lm_sleepsOf_c2]
    refine zS_b lm_last_eq ?_
    refine zS_it (by rw [hT]; omega) ?_
    exact zS_r (zfs_no hI).symm
/-- the first step at which one of a set has no ink -/
theorem lD_firstDry_eq {t : Nat} (h : zInv W M) (ht : t < 2 ^ 31) : lD_firstDry 29 (t : Int) M = some (zfs ((W 1).toNat + 1) (fun n => zan (W 6).toNat (fun p => t.testBit p && decide (zdK (zdD (zE0 W) n) p = 0)))) := by
  obtain ⟨b1, b2, b3, b4, _⟩ := xB h
  obtain ⟨u0, u1, _, _, u4, _, u6, u7, _⟩ := h.2.1
  refine zS_eq ?_
  unfold lD_firstDry
  rw [if_pos zis_1_29]
  have hpw : 2 ^ (W 6).toNat ≤ 2 ^ 5 := Nat.pow_le_pow_right (by decide) b2
  have h1s : (1 : Nat) <<< (W 6).toNat = 2 ^ (W 6).toNat := Nat.one_shiftLeft _
  have hpos := Nat.two_pow_pos (W 6).toNat
  have es : zshl 1 (M 3 7) = ((2 ^ (W 6).toNat : Nat) : Int) := by
    rw [b1]
    have e3 : zshl ((1 : Nat) : Int) ((W 6).toNat : Int) = ((1 <<< (W 6).toNat : Nat) : Int) := zshl_nat (by omega) (by omega)
    rw [h1s] at e3
    exact e3
  have ew : w32 (((2 ^ (W 6).toNat : Nat) : Int) - 1) = ((2 ^ (W 6).toNat - 1 : Nat) : Int) := by
    rw [w32_eq (by omega) (by omega)]
    omega
  rw [es, ew, zand_nat (by omega)]
  refine loopI (A := Unit) (fun m i _ => lD_firstDry_c16 29 (t : Int) M m ((t &&& (2 ^ (W 6).toNat - 1) : Nat) : Int) (i : Int)) (fun i _ => ∀ j, j < i → zan (W 6).toNat (fun p => t.testBit p && decide (zdK (zdD (zE0 W) j) p = 0)) = false) (a0 := ()) 0 ((W 1).toNat + 1) (by omega) (fun j hj => by omega) ?_ ?_ zN (zN_gt (by omega))
  · intro m i _ _ hi hI k
    have k := k ()
    show zS (lD_firstDry_c16 29 (t : Int) M (m + 1) ((t &&& (2 ^ (W 6).toNat - 1) : Nat) : Int) (i : Int)) _
    rw [lD_firstDry_c16]
    refine zS_ie (by omega) ?_
    rw [w1 (by omega)]
    refine zS_b (lD_namesAwake_eq zis_1_29 b1 b2 (by omega)) ?_
    obtain ⟨A, eA, hA, hAb⟩ := zst_bits (f := fun p => decide (0 < M (29 + 6) (5 * i + p))) (show (W 6).toNat ≤ 30 by omega)
    rw [eA]
    have hiff : zand ((t &&& (2 ^ (W 6).toNat - 1) : Nat) : Int) (zxor (A : Int) (-1)) = 0 ↔ zan (W 6).toNat (fun p => t.testBit p && decide (zdK (zdD (zE0 W) i) p = 0)) = false := by
      rw [zandn_0 (Nat.lt_of_le_of_lt Nat.and_le_left (by omega))]
      rw [← Bool.not_eq_true, zan_1]
      constructor
      · intro q ⟨p, hp, hq⟩
        have hq := (Bool.and_eq_true _ _).mp hq
        have q1 := q p (by rw [Nat.testBit_and, hq.1, Nat.testBit_two_pow_sub_one, decide_eq_true hp]; rfl)
        rw [hAb, cK h (by omega) hp] at q1
        have q2 := of_decide_eq_true ((Bool.and_eq_true _ _).mp q1).2
        have q3 := of_decide_eq_true hq.2
        omega
      · intro q p hp
        rw [Nat.testBit_and, Nat.testBit_two_pow_sub_one] at hp
        obtain ⟨p1, p2⟩ := (Bool.and_eq_true _ _).mp hp
        have p2 := of_decide_eq_true p2
        have hk := dOk h (show i ≤ (W 1).toNat by omega) p2
        rw [hAb, decide_eq_true p2, cK h (by omega) p2]
        have hne : ¬ (zdK (zdD (zE0 W) i) p = 0) := fun e => q ⟨p, p2, by rw [p1, decide_eq_true e]; rfl⟩
        rw [decide_eq_true (show 0 < zdK (zdD (zE0 W) i) p by omega)]
        rfl
    by_cases hz : zand ((t &&& (2 ^ (W 6).toNat - 1) : Nat) : Int) (zxor (A : Int) (-1)) = 0
    · rw [if_pos hz]
      exact k (fun j hj => by
        by_cases hji : j = i
        · rw [hji]; exact hiff.mp hz
        · exact hI j (by omega))
    · rw [if_neg hz]
      refine zS_r (zfs_at hi ?_ hI).symm
      cases hq : zan (W 6).toNat (fun p => t.testBit p && decide (zdK (zdD (zE0 W) i) p = 0)) with
      | true => rfl
      | false => exact absurd (hiff.mpr hq) hz
  · intro m _ hI
    show zS (lD_firstDry_c16 29 (t : Int) M (m + 1) ((t &&& (2 ^ (W 6).toNat - 1) : Nat) : Int) (((W 1).toNat + 1 : Nat) : Int)) _
    rw [lD_firstDry_c16]
    refine zS_it (by omega) ?_
    exact zS_r (zfs_no hI).symm
theorem zshl1 {k : Nat} (hk : k < 30) : zshl 1 (k : Int) = ((2 ^ k : Nat) : Int) := by
  have h1 : (1 : Nat) <<< k = 2 ^ k := Nat.one_shiftLeft k
  have hp : (2 : Nat) ^ k ≤ 2 ^ 29 := Nat.pow_le_pow_right (by decide) (by omega)
  have h29 : (2 : Nat) ^ 29 = 536870912 := by decide
  have e3 : zshl ((1 : Nat) : Int) (k : Int) = ((1 <<< k : Nat) : Int) := zshl_nat (by omega) (by omega)
  rw [h1] at e3
  exact e3
theorem q_sleeps (h : zInv W M) : zQ1 M (lX_sleeps x M) (lm_sleeps x M) := by
  obtain ⟨b1, b2, b3, b4, _⟩ := xB h
  obtain ⟨u0, u1, _, _, u4, _, u6, u7, _⟩ := h.2.1
  refine ⟨if (0 ≤ x ∧ x < W 6) then zdSl (zE0 W) (W 1).toNat x.toNat else -2, ?_, ?_⟩
  · refine zX_g (xName h) (fun c2 => ?_) (fun c2 => (if_neg c2).symm)
    rw [if_pos c2]
    obtain ⟨p, rfl⟩ : ∃ n : Nat, x = (n : Int) := ⟨x.toNat, by omega⟩
    rw [zshl1 (by omega)]
    have hp2 : 2 ^ p < 2 ^ 31 := Nat.pow_lt_pow_right (by decide) (by omega)
    refine zS_b (lD_firstDry_eq h hp2) ?_
    refine zS_r (zfs_cg (fun n _ => ?_))
    rw [Int.toNat_natCast, Bool.eq_iff_iff, zan_1]
    constructor
    · intro ⟨q, hq, hz⟩
      have hz := (Bool.and_eq_true _ _).mp hz
      rw [Nat.testBit_two_pow] at hz
      rw [of_decide_eq_true hz.1]
      exact hz.2
    · intro hz
      exact ⟨p, by omega, by rw [Nat.testBit_two_pow_self, hz]; rfl⟩
  · refine zM_q (lm_asksName_ok h.2.1 h.1) (fun c2 r r1 r2 r3 => ?_) (fun c2 => (if_neg c2).symm)
    rw [if_pos c2]
    obtain ⟨p, rfl⟩ : ∃ n : Nat, x = (n : Int) := ⟨x.toNat, by omega⟩
    refine zS_b (lm_sleepsOf_eq (by rw [r2]; omega) b4 r3 (show p < (W 6).toNat by omega) (by omega)) ?_
    exact zS_r ⟨rfl, r1⟩
end ZQB
