/-! Who signs what: signed once, stays signed. -/
theorem zdS1_keep {E : zE} {n k o : Nat} {s : zD} (h : zdA s o ≠ -1) : zdA (zdS1 E n k s) o = zdA s o ∧ zdI (zdS1 E n k s) o = zdI s o := by
  unfold zdS1
  by_cases hc : zdCo E k s = -1 ∨ zdMay E n k (zdCo E k s) s = false
  · rw [if_pos hc]; exact ⟨rfl, rfl⟩
  · rw [if_neg hc]
    have ho : o ≠ k := fun e => hc (Or.inl (by
      unfold zdCo
      rw [if_neg (by rw [← e]; exact h)]))
    exact ⟨if_neg ho, if_neg ho⟩
theorem zdSg_keep {E : zE} {n o : Nat} {s : zD} (h : zdA s o ≠ -1) : ∀ {k : Nat}, zdA (zdSg E n k s) o = zdA s o ∧ zdI (zdSg E n k s) o = zdI s o
  | 0 => ⟨rfl, rfl⟩
  | k + 1 => by
    obtain ⟨h1, h2⟩ := zdSg_keep (E := E) (n := n) h (k := k)
    obtain ⟨h3, h4⟩ := zdS1_keep (E := E) (n := n) (k := k) (s := zdSg E n k s) (o := o) (by rw [h1]; exact h)
    rw [zdSg_s]
    exact ⟨h3.trans h1, h4.trans h2⟩
theorem zdSg_new {E : zE} {n o : Nat} {s : zD} (h : zdA s o = -1) : ∀ {k : Nat}, zdA (zdSg E n k s) o = -1 ∨ zdA (zdSg E n k s) o = (n : Int)
  | 0 => Or.inl h
  | k + 1 => by
    have ih := zdSg_new (E := E) (n := n) h (k := k)
    rw [zdSg_s]
    unfold zdS1
    by_cases hc : zdCo E k (zdSg E n k s) = -1 ∨ zdMay E n k (zdCo E k (zdSg E n k s)) (zdSg E n k s) = false
    · rw [if_pos hc]; exact ih
    · rw [if_neg hc]
      show (if o = k then (n : Int) else zdA (zdSg E n k s) o) = -1 ∨ (if o = k then (n : Int) else zdA (zdSg E n k s) o) = (n : Int)
      by_cases ho : o = k
      · rw [if_pos ho]; exact Or.inr rfl
      · rw [if_neg ho]; exact ih
/-- where a contract is signed, all its names are -/
theorem zdSg_at {E : zE} {n : Nat} {s : zD} (hs : zdOk E n s) (hn : ∀ o, zdA s o ≠ (n : Int)) : ∀ {k : Nat}, k ≤ zeC E → ∀ o, zdA (zdSg E n k s) o = (n : Int) → ∀ p, p < zeB E → (zeP E o).testBit p = true → zdP s p = zdI (zdSg E n k s) o
  | 0, _, o, h => absurd h (hn o)
  | k + 1, hk, o, h => by
    intro p hp hb
    have ih := zdSg_at hs hn (k := k) (by omega) o
    have hok := zdSg_ok (E := E) (n := n) (s := s) hs (k := k) (by omega)
    rw [zdSg_s] at h ⊢
    unfold zdS1 at h ⊢
    by_cases hc : zdCo E k (zdSg E n k s) = -1 ∨ zdMay E n k (zdCo E k (zdSg E n k s)) (zdSg E n k s) = false
    · rw [if_pos hc] at h ⊢; exact ih h p hp hb
    · rw [if_neg hc] at h ⊢
      show zdP s p = if o = k then zdCo E k (zdSg E n k s) else zdI (zdSg E n k s) o
      have h : (if o = k then (n : Int) else zdA (zdSg E n k s) o) = (n : Int) := h
      by_cases ho : o = k
      · rw [if_pos ho]
        obtain ⟨_, _, _, q⟩ := zdCo_ne hok (fun e => hc (Or.inl e))
        rw [ho] at hb
        rw [← (q p hp hb).1, zdSg_P]
      · rw [if_neg ho] at h ⊢
        exact ih h p hp hb
theorem zdNx_A {E : zE} {n o : Nat} {r : Bool} {s : zD} (h : zdA s o ≠ -1) : zdA (zdNx E n r s) o = zdA s o ∧ zdI (zdNx E n r s) o = zdI s o := zdSg_keep (s := zdFd E (zdGo E n r s)) h
/-- the story of a contract -/
theorem zdA_story {E : zE} (he : zeOk E) (o : Nat) : ∀ {T : Nat}, T ≤ 20 → (∀ n, n ≤ T → zdA (zdD E n) o = -1) ∨ (∃ v, v ≤ T ∧ (∀ n, n ≤ T → v ≤ n → zdA (zdD E n) o = (v : Int) ∧ zdI (zdD E n) o = zdI (zdD E v) o) ∧ (∀ n, n < v → zdA (zdD E n) o = -1) ∧ ∀ p, p < zeB E → (zeP E o).testBit p = true → zdP (zdD E v) p = zdI (zdD E v) o)
  | 0, _ => by
    have h0 : zdOk E ((0 : Nat) : Int) (zdFd E (zd0 E)) := zdOk_mono (by omega) (zdFd_ok he (zd0_ok he))
    have hn : ∀ o, zdA (zdFd E (zd0 E)) o ≠ ((0 : Nat) : Int) := fun o => by
      show (-1 : Int) ≠ _
      omega
    rcases zdSg_new (E := E) (n := 0) (o := o) (s := zdFd E (zd0 E)) rfl (k := zeC E) with h | h
    · left
      intro n hn
      have hn : n = 0 := by omega
      rw [hn]
      exact h
    · right
      refine ⟨0, by omega, fun n hn _ => ?_, fun n hn => by omega, fun p hp hb => ?_⟩
      · have hn : n = 0 := by omega
        rw [hn]
        exact ⟨h, rfl⟩
      · have e : zdP (zdD E 0) p = zdP (zdFd E (zd0 E)) p := by
          show zdP (zdSg E 0 (zeC E) (zdFd E (zd0 E))) p = _
          rw [zdSg_P]
        rw [e]
        exact zdSg_at h0 hn (Nat.le_refl _) o h p hp hb
  | T + 1, hT => by
    have ih := zdA_story he o (T := T) (by omega)
    rcases ih with ih | ⟨v, hv, h1, h2, h3⟩
    · have hA : zdA (zdD E T) o = -1 := ih T (Nat.le_refl T)
      have hok := zdD_ok he (show T ≤ 20 by omega)
      have h0 : zdOk E ((T + 1 : Nat) : Int) (zdFd E (zdGo E T (zeR E T) (zdD E T))) := zdOk_mono (by omega) (zdFd_ok he (zdGo_ok he (by omega) hok))
      have hn : ∀ o, zdA (zdFd E (zdGo E T (zeR E T) (zdD E T))) o ≠ ((T + 1 : Nat) : Int) := fun o => by
        show zdA (zdD E T) o ≠ _
        rcases hok.2 o with q | ⟨_, _, q, _⟩ <;> omega
      rcases zdSg_new (E := E) (n := T + 1) (o := o) (s := zdFd E (zdGo E T (zeR E T) (zdD E T))) hA (k := zeC E) with h | h
      · left
        intro n hn
        by_cases hnT : n = T + 1
        · rw [hnT]; exact h
        · exact ih n (by omega)
      · right
        refine ⟨T + 1, by omega, fun n hn hn2 => ?_, fun n hn => ih n (by omega), fun p hp hb => ?_⟩
        · have hn : n = T + 1 := by omega
          rw [hn]
          exact ⟨h, rfl⟩
        · have e : zdP (zdD E (T + 1)) p = zdP (zdFd E (zdGo E T (zeR E T) (zdD E T))) p := by
            show zdP (zdSg E (T + 1) (zeC E) (zdFd E (zdGo E T (zeR E T) (zdD E T)))) p = _
            rw [zdSg_P]
          rw [e]
          exact zdSg_at h0 hn (Nat.le_refl _) o h p hp hb
    · right
      refine ⟨v, by omega, fun n hn hvn => ?_, h2, h3⟩
      by_cases hnT : n = T + 1
      · obtain ⟨q1, q2⟩ := h1 T (Nat.le_refl T) hv
        obtain ⟨q3, q4⟩ := zdNx_A (E := E) (n := T) (r := zeR E T) (s := zdD E T) (o := o) (by omega)
        rw [hnT]
        exact ⟨q3.trans q1, q4.trans q2⟩
      · exact h1 n (by omega) hvn
theorem zdA_iff {E : zE} (he : zeOk E) {o T n : Nat} (hT : T ≤ 20) (hn : n ≤ T) : zdA (zdD E n) o ≠ -1 ↔ (0 ≤ zdA (zdD E T) o ∧ zdA (zdD E T) o ≤ n) := by
  rcases zdA_story he o hT with h | ⟨v, hv, h1, h2, _⟩
  · rw [h n hn, h T (Nat.le_refl T)]
    exact ⟨fun q => absurd rfl q, fun q => by omega⟩
  · rw [(h1 T (Nat.le_refl T) hv).1]
    by_cases hvn : v ≤ n
    · rw [(h1 n hn hvn).1]
      omega
    · rw [h2 n (by omega)]
      exact ⟨fun q => absurd rfl q, fun q => by omega⟩
theorem zpc_sum {c : Nat} {f : Nat → Bool} {N : Nat} (h : ∀ k, N.testBit k = (decide (k < c) && f k)) : ∀ m, c ≤ m → zpc m N = zsum c (fun k => if f k = true then 1 else 0) := by
  have h0 : ∀ d, zsum (c + d) (fun i => if N.testBit i then (1 : Int) else 0) = zsum c (fun k => if f k = true then 1 else 0) := by
    intro d
    induction d with
    | zero => exact zsum_congr (fun i hi => by rw [h i, decide_eq_true (show i < c by omega)]; rfl)
    | succ d ih =>
      have e : zsum (c + (d + 1)) (fun i => if N.testBit i then (1 : Int) else 0) = zsum (c + d) (fun i => if N.testBit i then (1 : Int) else 0) + (if N.testBit (c + d) then 1 else 0) := rfl
      rw [e, ih, h (c + d), decide_eq_false (show ¬ (c + d < c) by omega)]
      show _ + (0 : Int) = _
      omega
  intro m hm
  have e := h0 (m - c)
  rw [show c + (m - c) = m by omega] at e
  exact e
theorem zb01 {c : Prop} [Decidable c] : (if c then (1 : Int) else 0) = 0 ∨ (if c then (1 : Int) else 0) = 1 := by
  by_cases h : c
  · rw [if_pos h]; exact Or.inr rfl
  · rw [if_neg h]; exact Or.inl rfl
section ZQC
variable {W : Nat → Int} {M : Nat → Nat → Int} {x : Int}
theorem lm_signsTo_eq {c : Nat} {s : zD} (hc : M 107 7 = (c : Int)) (hc6 : c ≤ 6) (hA : zmA s M) : lm_signsTo x M = some (zst c (fun k => decide (0 ≤ zdA s k ∧ zdA s k ≤ x))) := by
  refine zS_eq ?_
  unfold lm_signsTo
  refine loopI (fun m i (a : Int) => lm_signsTo_c4 x M m a (i : Int)) (fun i a => a = zst i (fun k => decide (0 ≤ zdA s k ∧ zdA s k ≤ x))) (a0 := 0) 0 c (by omega) rfl ?_ ?_ zN (zN_gt (by omega))
  · intro m i a _ hi ha k
    show zS (lm_signsTo_c4 x M (m + 1) a (i : Int)) _
    rw [lm_signsTo_c4]
    refine zS_b (w107 (by omega) (by omega)) ?_
    refine zS_it (by show (i : Int) < M 107 7; omega) ?_
    rw [w1 (by omega)]
    refine zS_b (rdI_n sh_119 (by omega)) ?_
    rw [(hA i (by omega)).1]
    refine zS_b lm_in_eq ?_
    have e := zor_st (n := i) (f := fun k => decide (0 ≤ zdA s k ∧ zdA s k ≤ x)) (by omega)
    by_cases h0 : 0 ≤ zdA s i ∧ zdA s i ≤ x
    · rw [zbo_t h0, if_neg (by decide)]
      exact k _ (by rw [← e, if_pos (decide_eq_true h0), ha])
    · rw [zbo_f h0, if_pos rfl]
      exact k _ (by rw [← e, if_neg (by simpa using h0), ha])
  · intro m a ha
    show zS (lm_signsTo_c4 x M (m + 1) a (c : Int)) _
    rw [lm_signsTo_c4]
    refine zS_b (w107 (by omega) (by omega)) ?_
    refine zS_ie (by show ¬ ((c : Int) < M 107 7); omega) ?_
    exact zS_r ha
theorem lm_signsTo_T {E : zE} {T : Nat} (he : zeOk E) (hc : M 107 7 = (zeC E : Int)) (hT : T ≤ 20) (h3 : zmT T E M) {n : Nat} (hn : n ≤ T) : lm_signsTo (n : Int) M = some (zst (zeC E) (fun k => decide (zdA (zdD E n) k ≠ -1))) := by
  rw [lm_signsTo_eq hc he.2.1 h3.2.1]
  refine congrArg some (zst_congr (fun k _ => ?_))
  exact decide_eq_decide.mpr (zdA_iff he hT hn).symm
theorem q_signs (h : zInv W M) : zQ1 M (lX_signs x M) (lm_signs x M) := by
  obtain ⟨b1, b2, b3, b4, _⟩ := xB h
  obtain ⟨u0, u1, _, _, u4, _, u6, u7, _⟩ := h.2.1
  refine ⟨if (0 < W 9 ∧ 0 ≤ x ∧ x ≤ W 1) then zst (W 7).toNat (fun k => decide (zdA (zdD (zE0 W) x.toNat) k ≠ -1)) else -2, ?_, ?_⟩
  · refine zX_g (xStep h) (fun c2 => ?_) (fun c2 => (if_neg c2).symm)
    rw [if_pos c2]
    obtain ⟨n, rfl⟩ : ∃ n : Nat, x = (n : Int) := ⟨x.toNat, by omega⟩
    refine zS_b (rdI_n sh_36 (by omega)) ?_
    exact zS_r (cD h (by omega))
  · refine zM_q (lm_asksStep_ok h.2.1 h.1) (fun c2 r r1 r2 r3 => ?_) (fun c2 => (if_neg c2).symm)
    rw [if_pos c2]
    obtain ⟨n, rfl⟩ : ∃ n : Nat, x = (n : Int) := ⟨x.toNat, by omega⟩
    refine zS_b (lm_signsTo_T (zE0_ok h.2.1) (by rw [r2]; show W 7 = ((W 7).toNat : Int); omega) b4 r3 (by omega)) ?_
    exact zS_r ⟨rfl, r1⟩
/-- the first step to which one of these contracts is signed -/
theorem lD_firstSigned_eq {t : Nat} (h : zInv W M) (ht : t < 2 ^ 31) : lD_firstSigned 29 (t : Int) M = some (zfs ((W 1).toNat + 1) (fun n => zan (W 7).toNat (fun k => t.testBit k && decide (zdA (zdD (zE0 W) n) k ≠ -1)))) := by
  obtain ⟨b1, b2, b3, b4, b5, b6, _⟩ := xB h
  refine zS_eq ?_
  unfold lD_firstSigned
  rw [if_pos zis_1_29]
  refine loopI (A := Unit) (fun m i _ => lD_firstSigned_c2 29 (t : Int) M m (i : Int)) (fun i _ => ∀ j, j < i → zan (W 7).toNat (fun k => t.testBit k && decide (zdA (zdD (zE0 W) j) k ≠ -1)) = false) (a0 := ()) 0 ((W 1).toNat + 1) (by omega) (fun j hj => by omega) ?_ ?_ zN (zN_gt (by omega))
  · intro m i _ _ hi hI k
    have k := k ()
    show zS (lD_firstSigned_c2 29 (t : Int) M (m + 1) (i : Int)) _
    rw [lD_firstSigned_c2]
    refine zS_ie (by omega) ?_
    rw [w1 (by omega)]
    refine zS_b (rdI_n (sh_D7 zis_1_29) (by omega)) ?_
    rw [cD h (by omega)]
    obtain ⟨A, eA, hA, hAb⟩ := zst_bits (f := fun k => decide (zdA (zdD (zE0 W) i) k ≠ -1)) (show (W 7).toNat ≤ 30 by omega)
    rw [eA]
    have hpw : 2 ^ (W 7).toNat ≤ 2 ^ 6 := Nat.pow_le_pow_right (by decide) b6
    have hiff : zand (A : Int) (t : Int) = 0 ↔ zan (W 7).toNat (fun k => t.testBit k && decide (zdA (zdD (zE0 W) i) k ≠ -1)) = false := by
      rw [zand_0 (by omega), ← Bool.not_eq_true, zan_1]
      constructor
      · intro q ⟨k, hk, hq⟩
        have hq := (Bool.and_eq_true _ _).mp hq
        exact q k ⟨by rw [hAb, decide_eq_true hk, hq.2]; rfl, hq.1⟩
      · intro q k hk
        rw [hAb] at hk
        have hk1 := (Bool.and_eq_true _ _).mp hk.1
        exact q ⟨k, of_decide_eq_true hk1.1, by rw [hk.2, hk1.2]; rfl⟩
    by_cases hz : zand (A : Int) (t : Int) = 0
    · rw [if_pos hz]
      exact k (fun j hj => by
        by_cases hji : j = i
        · rw [hji]; exact hiff.mp hz
        · exact hI j (by omega))
    · rw [if_neg hz]
      refine zS_r (zfs_at hi ?_ hI).symm
      cases hq : zan (W 7).toNat (fun k => t.testBit k && decide (zdA (zdD (zE0 W) i) k ≠ -1)) with
      | true => rfl
      | false => exact absurd (hiff.mpr hq) hz
  · intro m _ hI
    show zS (lD_firstSigned_c2 29 (t : Int) M (m + 1) (((W 1).toNat + 1 : Nat) : Int)) _
    rw [lD_firstSigned_c2]
    refine zS_it (by omega) ?_
    exact zS_r (zfs_no hI).symm
theorem zfs_A {E : zE} (he : zeOk E) {T k : Nat} (hT : T ≤ 20) : zfs (T + 1) (fun n => decide (zdA (zdD E n) k ≠ -1)) = zdA (zdD E T) k := by
  rcases zdA_story he k hT with h | ⟨v, hv, h1, h2, _⟩
  · rw [h T (Nat.le_refl T)]
    exact zfs_no (fun j hj => decide_eq_false (fun q => q (h j (by omega))))
  · rw [(h1 T (Nat.le_refl T) hv).1]
    refine zfs_at (by omega) (decide_eq_true ?_) (fun j hj => decide_eq_false (fun q => q (h2 j hj)))
    rw [(h1 v hv (Nat.le_refl v)).1]
    omega
theorem firstOf {k : Nat} (h : zInv W M) (hk : k < (W 7).toNat) : lD_firstSigned 29 (zshl 1 (k : Int)) M = some (zdA (zdD (zE0 W) (W 1).toNat) k) := by
  obtain ⟨b1, b2, b3, b4, b5, b6, _⟩ := xB h
  rw [zshl1 (by omega), lD_firstSigned_eq h (Nat.pow_lt_pow_right (by decide) (by omega)), ← zfs_A (zE0_ok h.2.1) b4]
  refine congrArg some (zfs_cg (fun n _ => ?_))
  rw [Bool.eq_iff_iff, zan_1]
  constructor
  · intro ⟨q, hq, hz⟩
    have hz := (Bool.and_eq_true _ _).mp hz
    rw [Nat.testBit_two_pow] at hz
    rw [of_decide_eq_true hz.1]
    exact hz.2
  · intro hz
    exact ⟨k, hk, by rw [Nat.testBit_two_pow_self, hz]; rfl⟩
theorem q_signed (h : zInv W M) : zQ1 M (lX_signed x M) (lm_signed x M) := by
  obtain ⟨b1, b2, b3, b4, b5, b6, _⟩ := xB h
  refine ⟨if (0 ≤ x ∧ x < W 7) then zdA (zdD (zE0 W) (W 1).toNat) x.toNat else -2, ?_, ?_⟩
  · refine zX_g (xCont h) (fun c2 => ?_) (fun c2 => (if_neg c2).symm)
    rw [if_pos c2]
    obtain ⟨k, rfl⟩ : ∃ n : Nat, x = (n : Int) := ⟨x.toNat, by omega⟩
    refine zS_b (firstOf h (by omega)) ?_
    exact zS_r rfl
  · refine zM_q (lm_asksContract_ok h.2.1 h.1) (fun c2 r r1 r2 r3 => ?_) (fun c2 => (if_neg c2).symm)
    rw [if_pos c2]
    obtain ⟨k, rfl⟩ : ∃ n : Nat, x = (n : Int) := ⟨x.toNat, by omega⟩
    refine zS_b (rdI_n sh_119 (by omega)) ?_
    exact zS_r ⟨(r3.2.1 k (by omega)).1, r1⟩
theorem xParty (h : zInv W M) {k : Nat} (hk : k < (W 7).toNat) : M 12 k = (zeP (zE0 W) k : Int) ∧ zeP (zE0 W) k < 32 ∧ zeP (zE0 W) k ≠ 0 ∧ ∀ p, (zeP (zE0 W) k).testBit p = true → p < (W 6).toNat := by
  obtain ⟨hd, hok, hB, hC, hF, hA, hJ, hL, hP⟩ := h.2.2.2.2.1.1
  refine ⟨hP k hk, zeP_lt hok hk, (hok.2.2.2.2.2.1 k hk).2, fun p hp => ?_⟩
  apply Decidable.byContradiction
  intro hpb
  have hz : (zeP (zE0 W) k).testBit p = false := Nat.testBit_lt_two_pow (Nat.lt_of_lt_of_le (hok.2.2.2.2.2.1 k hk).1 (Nat.pow_le_pow_right (by decide) (show (W 6).toNat ≤ p by omega)))
  rw [hz] at hp
  cases hp
theorem zn_ex {t : Nat} (h : t ≠ 0) : ∃ p, t.testBit p = true := by
  apply Classical.byContradiction
  intro hno
  refine h (zn0.mpr (fun p => ?_))
  cases hz : t.testBit p with
  | false => rfl
  | true => exact (hno ⟨p, hz⟩).elim
theorem cCorner (h : zInv W M) {t n : Nat} (hn : n ≤ (W 1).toNat) (ht : t < 2147483648) : lD_cornerOfAll 29 (t : Int) (n : Int) M = some (zco (fun p => t.testBit p) (zdP (zdD (zE0 W) n)) (W 6).toNat) := by
  obtain ⟨b1, b2, b3, b4, b5, b6, _⟩ := xB h
  rw [lD_cornerOfAll_eq zis_1_29 b1 b2 (by omega) ht (fun p hp => by rw [cP h hn hp]; exact (dOk h hn hp).1)]
  exact congrArg some (zco_congr (fun p hp => ⟨rfl, cP h hn hp⟩))
theorem q_where (h : zInv W M) : zQ1 M (lX_where x M) (lm_where x M) := by
  obtain ⟨b1, b2, b3, b4, b5, b6, _⟩ := xB h
  have hok := zE0_ok h.2.1
  refine ⟨if (0 ≤ x ∧ x < W 7) then zdI (zdD (zE0 W) (W 1).toNat) x.toNat else -2, ?_, ?_⟩
  · refine zX_g (xCont h) (fun c2 => ?_) (fun c2 => (if_neg c2).symm)
    rw [if_pos c2]
    obtain ⟨k, rfl⟩ : ∃ n : Nat, x = (n : Int) := ⟨x.toNat, by omega⟩
    obtain ⟨p1, p2, p3, p4⟩ := xParty h (show k < (W 7).toNat by omega)
    refine zS_b (firstOf h (by omega)) ?_
    have hT := (zdD_ok hok b4).2 k
    rcases zdA_story hok k b4 with s | ⟨v, hv, s1, s2, s3⟩
    · have e := s _ (Nat.le_refl _)
      rw [e, if_pos rfl]
      refine zS_r ?_
      rcases hT with q | ⟨_, q, _⟩
      · exact q.2.symm
      · omega
    · obtain ⟨e1, e2⟩ := s1 _ (Nat.le_refl _) hv
      rw [e1, if_neg (by omega)]
      refine zS_b (rdI_n sh_12 (by omega)) ?_
      rw [p1]
      refine zS_b (cCorner h hv (by omega)) ?_
      refine zS_r ?_
      show _ = zdI (zdD (zE0 W) (W 1).toNat) k
      rw [e2, zco_ci]
      obtain ⟨p, hp⟩ := zn_ex p3
      exact zci_of (fun p hp => (dOk h hv hp).1) ⟨p, p4 p hp, hp⟩ (fun p hp hb => ⟨s3 p hp hb, by decide⟩)
  · refine zM_q (lm_asksContract_ok h.2.1 h.1) (fun c2 r r1 r2 r3 => ?_) (fun c2 => (if_neg c2).symm)
    rw [if_pos c2]
    obtain ⟨k, rfl⟩ : ∃ n : Nat, x = (n : Int) := ⟨x.toNat, by omega⟩
    refine zS_b (rdI_n sh_120 (by omega)) ?_
    exact zS_r ⟨(r3.2.1 k (by omega)).2, r1⟩
theorem lT_contractsOf_eq {p : Nat} (h : zInv W M) (hp : p < 32) : lT_contractsOf 3 (p : Int) M = some (zst (W 7).toNat (fun k => (zeP (zE0 W) k).testBit p)) := by
  obtain ⟨b1, b2, b3, b4, b5, b6, _⟩ := xB h
  refine zS_eq ?_
  unfold lT_contractsOf
  rw [if_pos zis_6_3]
  refine loopI (fun m i (a : Int) => lT_contractsOf_c4 3 (p : Int) M m a (i : Int)) (fun i a => a = zst i (fun k => (zeP (zE0 W) k).testBit p)) (a0 := 0) 0 (W 7).toNat (by omega) rfl ?_ ?_ zN (zN_gt (by omega))
  · intro m i a _ hi ha k
    obtain ⟨p1, p2, p3, p4⟩ := xParty h hi
    show zS (lT_contractsOf_c4 3 (p : Int) M (m + 1) a (i : Int)) _
    rw [lT_contractsOf_c4]
    refine zS_it (by omega) ?_
    rw [w1 (by omega)]
    refine zS_b (rdI_n sh_12 (by omega)) ?_
    have e12 : M (3 + 9) i = (zeP (zE0 W) i : Int) := p1
    rw [show M 12 i = (zeP (zE0 W) i : Int) from p1, zbit_nat hp (by omega)]
    have e := zor_st (n := i) (f := fun k => (zeP (zE0 W) k).testBit p) (by omega)
    by_cases h0 : (zeP (zE0 W) i).testBit p = true
    · rw [if_pos h0]
      exact k _ (by rw [← e, if_pos h0, ha])
    · rw [if_neg h0]
      have ez : zshl 0 (i : Int) = 0 := by
        have e3 : zshl ((0 : Nat) : Int) (i : Int) = ((0 <<< i : Nat) : Int) := zshl_nat (by omega) (by rw [Nat.zero_shiftLeft]; omega)
        rw [Nat.zero_shiftLeft] at e3
        exact e3
      rw [ez]
      exact k _ (by rw [← e, if_neg h0, ha])
  · intro m a ha
    show zS (lT_contractsOf_c4 3 (p : Int) M (m + 1) a ((W 7).toNat : Int)) _
    rw [lT_contractsOf_c4]
    refine zS_ie (by omega) ?_
    exact zS_r ha
def zdDe (E : zE) (s : zD) (p : Nat) : Int := zsum (zeC E) (fun k => if (decide (zdA s k ≠ -1) && (zeP E k).testBit p) = true then 1 else 0)
theorem zdDe_b {E : zE} {s : zD} {p : Nat} : 0 ≤ zdDe E s p ∧ zdDe E s p ≤ zeC E := zsum01 (fun i => by split <;> simp) _
theorem lm_deedsOf_eq {E : zE} {s : zD} {p : Nat} (hc : M 107 7 = (zeC E : Int)) (hok : zeOk E) (hA : zmA s M) (hP : ∀ k, k < zeC E → M 107 (102 + k) = (zeP E k : Int)) (hp : p < 32) : lm_deedsOf (p : Int) M = some (zdDe E s p) := by
  have hc6 := hok.2.1
  refine zS_eq ?_
  unfold lm_deedsOf
  refine loopI (fun m i (a : Int) => lm_deedsOf_c4 (p : Int) M m a (i : Int)) (fun i a => a = zsum i (fun k => if (decide (zdA s k ≠ -1) && (zeP E k).testBit p) = true then 1 else 0)) (a0 := 0) 0 (zeC E) (by omega) rfl ?_ ?_ zN (zN_gt (by omega))
  · intro m i a _ hi ha k
    have hb := zsum01 (f := fun k => if (decide (zdA s k ≠ -1) && (zeP E k).testBit p) = true then 1 else 0) (fun i => zb01) i
    have e : zsum (i + 1) (fun k => if (decide (zdA s k ≠ -1) && (zeP E k).testBit p) = true then (1 : Int) else 0) = zsum i (fun k => if (decide (zdA s k ≠ -1) && (zeP E k).testBit p) = true then (1 : Int) else 0) + (if (decide (zdA s i ≠ -1) && (zeP E i).testBit p) = true then 1 else 0) := rfl
    have ht := zeP_lt hok hi
    show zS (lm_deedsOf_c4 (p : Int) M (m + 1) a (i : Int)) _
    rw [lm_deedsOf_c4]
    refine zS_b (w107 (by omega) (by omega)) ?_
    refine zS_it (by show (i : Int) < M 107 7; omega) ?_
    rw [w1 (by omega)]
    refine zS_b (rdI_n sh_119 (by omega)) ?_
    rw [(hA i (by omega)).1, ha]
    by_cases h0 : zdA s i = -1
    · rw [if_pos h0, w32_eq (by omega) (by omega)]
      refine k _ ?_
      rw [e, decide_eq_false (show ¬ (zdA s i ≠ -1) from fun q => q h0)]
      rfl
    · rw [if_neg h0]
      refine zS_b (lm_namesOf_eq (by omega)) ?_
      rw [hP i hi]
      refine zS_b (lm_bit_eq hp (by omega)) ?_
      have hw : w32 (zsum i (fun k => if (decide (zdA s k ≠ -1) && (zeP E k).testBit p) = true then (1 : Int) else 0) + (if (zeP E i).testBit p = true then 1 else 0)) = zsum i (fun k => if (decide (zdA s k ≠ -1) && (zeP E k).testBit p) = true then (1 : Int) else 0) + (if (zeP E i).testBit p = true then 1 else 0) := by
        by_cases q : (zeP E i).testBit p = true
        · rw [if_pos q]; exact w32_eq (by omega) (by omega)
        · rw [if_neg q]; exact w32_eq (by omega) (by omega)
      rw [hw]
      refine k _ ?_
      rw [e, decide_eq_true h0, Bool.true_and]
  · intro m a ha
    show zS (lm_deedsOf_c4 (p : Int) M (m + 1) a (zeC E : Int)) _
    rw [lm_deedsOf_c4]
    refine zS_b (w107 (by omega) (by omega)) ?_
    refine zS_ie (by show ¬ ((zeC E : Int) < M 107 7); omega) ?_
    exact zS_r ha
/-- counting what is both signed and a name's -/
theorem bits_and {c : Nat} {f g : Nat → Bool} (hc : c ≤ 6) : lJ_bitCount (zand (zst c f) (zst c g)) M = some (zsum c (fun k => if (f k && g k) = true then 1 else 0)) := by
  have hpw : 2 ^ c ≤ 2 ^ 6 := Nat.pow_le_pow_right (by decide) hc
  obtain ⟨A, eA, hA, hAb⟩ := zst_bits (n := c) (f := f) (by omega)
  obtain ⟨B, eB, hB, hBb⟩ := zst_bits (n := c) (f := g) (by omega)
  rw [eA, eB, zand_nat (by omega), lJ_bitCount_eq (Nat.lt_of_le_of_lt Nat.and_le_left (by omega))]
  refine congrArg some (zpc_sum (fun k => ?_) 12 (by omega))
  rw [Nat.testBit_and, hAb, hBb]
  cases decide (k < c) <;> simp
theorem q_deeds (h : zInv W M) : zQ1 M (lX_deeds x M) (lm_deeds x M) := by
  obtain ⟨b1, b2, b3, b4, b5, b6, _⟩ := xB h
  obtain ⟨u0, u1, _, _, u4, _, u6, u7, _⟩ := h.2.1
  refine ⟨if (0 ≤ x ∧ x < W 6) then zdDe (zE0 W) (zdD (zE0 W) (W 1).toNat) x.toNat else -2, ?_, ?_⟩
  · refine zX_g (xName h) (fun c2 => ?_) (fun c2 => (if_neg c2).symm)
    rw [if_pos c2]
    obtain ⟨p, rfl⟩ : ∃ n : Nat, x = (n : Int) := ⟨x.toNat, by omega⟩
    rw [b3]
    refine zS_b (rdI_n sh_36 (by omega)) ?_
    refine zS_b (lT_contractsOf_eq h (by omega)) ?_
    rw [show M 36 (W 1).toNat = zst (W 7).toNat (fun k => decide (zdA (zdD (zE0 W) (W 1).toNat) k ≠ -1)) from cD h (Nat.le_refl _)]
    refine zS_b (bits_and b6) ?_
    exact zS_r rfl
  · refine zM_q (lm_asksName_ok h.2.1 h.1) (fun c2 r r1 r2 r3 => ?_) (fun c2 => (if_neg c2).symm)
    rw [if_pos c2]
    obtain ⟨p, rfl⟩ : ∃ n : Nat, x = (n : Int) := ⟨x.toNat, by omega⟩
    refine zS_b (lm_deedsOf_eq (E := zE0 W) (by rw [r2]; show W 7 = ((W 7).toNat : Int); omega) (zE0_ok h.2.1) r3.2.1 (fun k hk => ?_) (by omega)) ?_
    · rw [r2]
      obtain ⟨t, e, _⟩ := h.2.1.2.2.2.2.2.2.2.2.2.2.2.2.2.2.2.1 k hk
      show W (102 + k) = ((W (102 + k)).toNat : Int)
      rw [e]
      rfl
    · exact zS_r ⟨rfl, r1⟩
theorem q_first (h : zInv W M) : zQ1 M (lX_first M) (lm_first M) := by
  obtain ⟨b1, b2, b3, b4, b5, b6, _⟩ := xB h
  obtain ⟨u0, u1, _, _, u4, _, u6, u7, _⟩ := h.2.1
  have hok := zE0_ok h.2.1
  refine ⟨if (0 < W 9) then zfs ((W 1).toNat + 1) (fun n => zan (W 7).toNat (fun k => decide (zdA (zdD (zE0 W) n) k ≠ -1))) else -2, ?_, ?_⟩
  · refine zX_g (xThere h) (fun c2 => ?_) (fun c2 => (if_neg c2).symm)
    rw [if_pos c2]
    refine zS_b (lD_firstSigned_eq (t := 63) h (by decide)) ?_
    refine zS_r (zfs_cg (fun n _ => ?_))
    rw [Bool.eq_iff_iff, zan_1, zan_1]
    have h63 : ∀ k, k < (W 7).toNat → (63 : Nat).testBit k = true := fun k hk => by
      have e1 : (63 : Nat) = 2 ^ 6 - 1 := by decide
      rw [e1, Nat.testBit_two_pow_sub_one]
      exact decide_eq_true (by omega)
    constructor
    · intro ⟨k, hk, q⟩
      rw [h63 k hk] at q
      exact ⟨k, hk, q⟩
    · intro ⟨k, hk, q⟩
      exact ⟨k, hk, by rw [h63 k hk, q]; rfl⟩
  · refine zM_q (M := M) (W := W) (c := 0 < W 9) (k := fun r1_ => lm_first_c14 zN (-1) 0 r1_.2) (zS_mono (lm_asksState_ok h.2.1 h.1) (fun r q => q)) (fun c2 r r1 r2 r3 => ?_) (fun c2 => (if_neg c2).symm)
    rw [if_pos c2]
    have hAk := fun k (hk : k < (W 7).toNat) => (r3.2.1 k (by omega)).1
    refine loopI (fun m i (a : Int) => lm_first_c14 m a (i : Int) r.2) (fun i a => (a = -1 ∧ ∀ k, k < i → zdA (zdD (zE0 W) (W 1).toNat) k = -1) ∨ (0 ≤ a ∧ (∃ k, k < i ∧ zdA (zdD (zE0 W) (W 1).toNat) k = a) ∧ ∀ k, k < i → zdA (zdD (zE0 W) (W 1).toNat) k = -1 ∨ a ≤ zdA (zdD (zE0 W) (W 1).toNat) k)) (a0 := -1) 0 (W 7).toNat (by omega) (Or.inl ⟨rfl, fun k hk => by omega⟩) ?_ ?_ zN (zN_gt (by omega))
    · intro m i a _ hi ha k
      have hTi := (zdD_ok hok b4).2 i
      show zS (lm_first_c14 (m + 1) a (i : Int) r.2) _
      rw [lm_first_c14]
      refine zS_b (w107 (by omega) (by omega)) ?_
      have hi7 : (i : Int) < W 7 := by clear ha k; omega
      refine zS_it (by rw [r2]; exact hi7) ?_
      rw [w1 (by omega)]
      refine zS_b (rdI_n sh_119 (by omega)) ?_
      rw [hAk i hi]
      have hnew : 0 ≤ zdA (zdD (zE0 W) (W 1).toNat) i → (∀ k, k < i → zdA (zdD (zE0 W) (W 1).toNat) k = -1 ∨ zdA (zdD (zE0 W) (W 1).toNat) i ≤ zdA (zdD (zE0 W) (W 1).toNat) k) → zS (lm_first_c14 m (zdA (zdD (zE0 W) (W 1).toNat) i) ((i + 1 : Nat) : Int) r.2) _ := fun q1 q2 => k _ (Or.inr ⟨q1, ⟨i, by omega, rfl⟩, fun j hj => by
        by_cases hji : j = i
        · rw [hji]; exact Or.inr (Int.le_refl _)
        · exact q2 j (by omega)⟩)
      by_cases h0 : zdA (zdD (zE0 W) (W 1).toNat) i = -1
      · rw [if_pos h0]
        refine k a ?_
        rcases ha with ⟨q1, q2⟩ | ⟨q1, ⟨j, hj, q2⟩, q3⟩
        · exact Or.inl ⟨q1, fun j hj => by
            by_cases hji : j = i
            · rw [hji]; exact h0
            · exact q2 j (by omega)⟩
        · exact Or.inr ⟨q1, ⟨j, by omega, q2⟩, fun j hj => by
            by_cases hji : j = i
            · rw [hji]; exact Or.inl h0
            · exact q3 j (by omega)⟩
      · rw [if_neg h0]
        have h00 : 0 ≤ zdA (zdD (zE0 W) (W 1).toNat) i := by
          rcases hTi with q | ⟨_, q, _⟩
          · exact absurd q.1 h0
          · exact q
        rcases ha with ⟨q1, q2⟩ | ⟨q1, ⟨j, hj, q2⟩, q3⟩
        · rw [if_pos q1]
          refine zS_b (rdI_n sh_119 (by omega)) ?_
          rw [hAk i hi]
          exact hnew h00 (fun j hj => Or.inl (q2 j hj))
        · rw [if_neg (by omega)]
          refine zS_b (rdI_n sh_119 (by omega)) ?_
          rw [hAk i hi]
          by_cases hlt : zdA (zdD (zE0 W) (W 1).toNat) i < a
          · rw [if_pos hlt]
            refine zS_b (rdI_n sh_119 (by omega)) ?_
            rw [hAk i hi]
            exact hnew h00 (fun j hj => by have := q3 j hj; omega)
          · rw [if_neg hlt]
            exact k a (Or.inr ⟨q1, ⟨j, by omega, q2⟩, fun j hj => by
              by_cases hji : j = i
              · rw [hji]; exact Or.inr (by omega)
              · exact q3 j (by omega)⟩)
    · intro m a ha
      show zS (lm_first_c14 (m + 1) a ((W 7).toNat : Int) r.2) _
      rw [lm_first_c14]
      refine zS_b (w107 (by omega) (by omega)) ?_
      refine zS_ie (by rw [r2]; show ¬ (((W 7).toNat : Int) < W 7); omega) ?_
      refine zS_r ⟨?_, r1⟩
      have hno : ∀ n, n ≤ (W 1).toNat → (∀ k, k < (W 7).toNat → ¬ (0 ≤ zdA (zdD (zE0 W) (W 1).toNat) k ∧ zdA (zdD (zE0 W) (W 1).toNat) k ≤ n)) → zan (W 7).toNat (fun k => decide (zdA (zdD (zE0 W) n) k ≠ -1)) = false := fun n hn q => by
        rw [← Bool.not_eq_true, zan_1]
        intro ⟨k, hk, e⟩
        exact q k hk ((zdA_iff hok b4 hn).mp (of_decide_eq_true e))
      rcases ha with ⟨q1, q2⟩ | ⟨q1, ⟨j, hj, q2⟩, q3⟩
      · show a = _
        rw [q1]
        exact (zfs_no (fun n hn => hno n (by omega) (fun k hk => by rw [q2 k hk]; omega))).symm
      · show a = _
        have hjT : a ≤ (W 1).toNat := by
          rcases (zdD_ok hok b4).2 j with q | ⟨_, _, q, _⟩ <;> omega
        obtain ⟨v, rfl⟩ : ∃ v : Nat, a = (v : Int) := ⟨a.toNat, by omega⟩
        refine (zfs_at (by omega) ?_ (fun n hn => hno n (by omega) (fun k hk => by have := q3 k hk; omega))).symm
        exact zan_1.mpr ⟨j, hj, decide_eq_true ((zdA_iff hok b4 (by omega)).mpr (by omega))⟩
end ZQC
