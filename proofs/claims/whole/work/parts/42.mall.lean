/-! The reference goes all. -/
def zmT (T : Nat) (E : zE) (M : Nat → Nat → Int) : Prop := (∀ n, n ≤ T → zmR (zeB E) n (zdD E n) M) ∧ zmA (zdD E T) M ∧ (∀ p, p < zeB E → M 121 p = zdGs E T p ∧ M 122 p = zdSt E T p ∧ M 123 p = zdDr E (T + 1) p)
/-- the reference's rows ahead of step i -/
def zmI (C : Nat → Nat → Int) (E : zE) (T i : Nat) (M : Nat → Nat → Int) : Prop := zmg C M ∧ (∀ n, n < i → zmR (zeB E) n (zdD E n) M) ∧ (i ≤ T → zmR (zeB E) i (zdPre E i) M ∧ zmA (zdPre E i) M) ∧ (i = T + 1 → zmA (zdD E T) M) ∧ (∀ p, p < zeB E → M 121 p = zdGs E (min i T) p ∧ M 122 p = zdSt E (min i T) p ∧ M 123 p = zdDr E i p)
theorem lm_goAll_c98_ok {i T : Nat} {C M : Nat → Nat → Int} {E : zE} {h : Int → (Nat → Nat → Int) → Option (Nat → Nat → Int)} {Q : (Nat → Nat → Int) → Prop} (he : zmE C E T) (hi : i ≤ T) (hI : zmI C E T i M) (k : ∀ M', zmI C E T (i + 1) M' → zS (h ((i + 1 : Nat) : Int) M') Q) : zS (lm_goAll_c98 h zN (i : Int) 0 M) Q := by
  have he0 := he
  obtain ⟨hok, hB, hC, hT, hT20, hF, hH, hW, hJ, hL, hP, hRn⟩ := he
  have hb5 := hok.1
  obtain ⟨a1, a2, a3, a4, a5⟩ := hI
  obtain ⟨a31, a32⟩ := a3 hi
  have hmin : min i T = i := by omega
  rw [hmin] at a5
  have hpo := zdPre_ok hok (show i ≤ 20 by omega)
  refine loopI (fun m j M => lm_goAll_c98 h m (i : Int) (j : Int) M) (fun j M' => zmg C M' ∧ (∀ n, n < i → zmR (zeB E) n (zdD E n) M') ∧ (∀ p, p < zeB E → M' 117 (5 * i + p) = zdP (zdPre E i) p ∧ M' 118 (5 * i + p) = if p < j then zdK (zdFd E (zdPre E i)) p else zdK (zdPre E i) p) ∧ zmA (zdPre E i) M' ∧ (∀ p, p < zeB E → M' 121 p = zdGs E i p ∧ M' 122 p = zdSt E i p ∧ M' 123 p = if p < j then zdDr E (i + 1) p else zdDr E i p)) 0 (zeB E) (by omega) ?_ ?_ ?_ zN (zN_gt (by omega))
  · exact ⟨a1, a2, fun p hp => by rw [if_neg (by omega)]; exact a31 p hp, a32, fun p hp => by rw [if_neg (by omega)]; exact a5 p hp⟩
  · intro m j M1 _ hj ⟨g1, g2, g3, g4, g5⟩ kk
    have hsj := hpo.1 j hj
    have hFj := hok.2.2.2.1 (zdP (zdPre E i) j) hsj.1 hsj.2.1
    have hdb := zdDr_b (p := j) hok hj (n := i) (by omega)
    have hfb := zdFd_b (p := j) hok hpo hj
    show zS (lm_goAll_c98 h (m + 1) (i : Int) (j : Int) M1) _
    rw [lm_goAll_c98]
    refine zS_b lm_names_eq ?_
    refine zS_it (by rw [g1 107 (by omega)]; omega) ?_
    refine zS_b (lm_inkIn_eq (by omega) (by omega)) ?_
    refine zS_b (lm_placeOf_eq (by omega) (by omega)) ?_
    rw [(g3 j hj).1, (g3 j hj).2, if_neg (by omega)]
    refine zS_b ((rdI_cg (g1 115 (by omega))).trans (hF _ hsj.1 hsj.2.1)) ?_
    refine zS_b (rdI_n sh_123 (by omega)) ?_
    refine zS_b (lm_inkIn_eq (by omega) (by omega)) ?_
    rw [(g3 j hj).2, if_neg (by omega), (g5 j hj).2.2, if_neg (by omega), w5 (by omega) (by omega), w1 (by omega), w32_eq (x := zdK (zdPre E i) j + zeF E (zdP (zdPre E i) j)) (by omega) (by omega)]
    have hfd : zmin 60 (zdK (zdPre E i) j + zeF E (zdP (zdPre E i) j)) = zdK (zdFd E (zdPre E i)) j := rfl
    rw [hfd, w32_eq (x := zdK (zdFd E (zdPre E i)) j - zdK (zdPre E i) j) (by omega) (by omega), w32_eq (by omega) (by omega)]
    refine zS_b (wrI_n sh_123 (by omega)) ?_
    refine zS_b (wrI_n sh_118 (by omega)) ?_
    refine kk _ ⟨zmg_up (zmg_up g1 (by omega)) (by omega), fun n hn p hp => ⟨?_, ?_⟩, fun p hp => ⟨?_, ?_⟩, fun o ho => ?_, fun p hp => ⟨?_, ?_, ?_⟩⟩
    · rw [zup_c (by omega), zup_c (by omega)]; exact (g2 n hn p hp).1
    · rw [zup_i (by omega), zup_c (by omega)]; exact (g2 n hn p hp).2
    · rw [zup_c (by omega), zup_c (by omega)]; exact (g3 p hp).1
    · rw [zup_a]
      by_cases hpj : p = j
      · rw [if_pos (by omega), if_pos (by omega), hpj]
      · rw [if_neg (by omega), zup_c (by omega), (g3 p hp).2]
        by_cases hlt : p < j
        · rw [if_pos hlt, if_pos (by omega)]
        · rw [if_neg hlt, if_neg (by omega)]
    · rw [zup_c (by omega), zup_c (by omega), zup_c (by omega), zup_c (by omega)]; exact g4 o ho
    · rw [zup_c (by omega), zup_c (by omega)]; exact (g5 p hp).1
    · rw [zup_c (by omega), zup_c (by omega)]; exact (g5 p hp).2.1
    · rw [zup_c (by omega), zup_a]
      by_cases hpj : p = j
      · rw [if_pos (by omega), if_pos (by omega), hpj]
        rfl
      · rw [if_neg (by omega), (g5 p hp).2.2]
        by_cases hlt : p < j
        · rw [if_pos hlt, if_pos (by omega)]
        · rw [if_neg hlt, if_neg (by omega)]
  · intro m M1 ⟨g1, g2, g3, g4, g5⟩
    show zS (lm_goAll_c98 h (m + 1) (i : Int) (zeB E : Int) M1) _
    rw [lm_goAll_c98]
    refine zS_b lm_names_eq ?_
    refine zS_ie (by rw [g1 107 (by omega)]; omega) ?_
    have hsf : zdOk E i (zdFd E (zdPre E i)) := zdFd_ok hok hpo
    refine zS_m (lm_goSigns_ok he0 g1 (by omega) hsf (fun p hp => ?_) g4) ?_
    · have q := g3 p hp
      rw [if_pos hp] at q
      exact q
    · intro M2 ⟨k1, k2, k3, k4, k5, k6, k7, k8⟩
      have hDi : zdD E i = zdSg E i (zeC E) (zdFd E (zdPre E i)) := zdD_pre
      rw [← hDi] at k2 k3
      refine zS_b lm_last_eq ?_
      rw [k1 107 (by omega), hT, w1 (by omega)]
      have hlow : ∀ n, n < i + 1 → zmR (zeB E) n (zdD E n) M2 := fun n hn p hp => by
        by_cases hni : n = i
        · rw [hni]; exact k2 p hp
        · rw [k4, k5 _ (by omega)]
          exact g2 n (by omega) p hp
      by_cases hlt : i < T
      · rw [if_pos (by omega)]
        refine zS_m (lm_goOn_ok he0 k1 hlt k2 (fun p hp => ?_)) ?_
        · rw [k6, k7]
          exact ⟨(g5 p hp).1, (g5 p hp).2.1⟩
        · intro M3 ⟨f1, f2, f3, f4, f5, f6, f7⟩
          refine k M3 ⟨f1, fun n hn p hp => ?_, fun _ => ⟨f2, fun o ho => ?_⟩, fun e => by omega, fun p hp => ?_⟩
          · rw [(f3 _ (by omega)).1, (f3 _ (by omega)).2]
            exact hlow n hn p hp
          · rw [f4, f5]
            exact k3 o ho
          · rw [show min (i + 1) T = i + 1 by omega, f6, k8]
            refine ⟨(f7 p hp).1, (f7 p hp).2, ?_⟩
            have q := (g5 p hp).2.2
            rw [if_pos hp] at q
            exact q
      · rw [if_neg (by omega)]
        have hiT : i = T := by omega
        refine k M2 ⟨k1, hlow, fun e => by omega, fun _ => by rw [← hiT]; exact k3, fun p hp => ?_⟩
        rw [show min (i + 1) T = i by omega, k6, k7, k8]
        refine ⟨(g5 p hp).1, (g5 p hp).2.1, ?_⟩
        have q := (g5 p hp).2.2
        rw [if_pos hp] at q
        exact q
theorem lm_goAll_ok {T : Nat} {C M : Nat → Nat → Int} {E : zE} (he : zmE C E T) (ha : zmg C M) : zS (lm_goAll M) (fun M' => zmg C M' ∧ zmT T E M') := by
  have he0 := he
  obtain ⟨hok, hB, hC, hT, hT20, hF, hH, hW, hJ, hL, hP, hRn⟩ := he
  have hb5 := hok.1
  unfold lm_goAll
  refine loopI (fun m i M => lm_goAll_c2 m (i : Int) M) (fun i M' => zmg C M' ∧ (∀ o, o < i → M' 119 o = -1 ∧ M' 120 o = -1)) 0 6 (by omega) ?_ ?_ ?_ zN (zN_gt (by omega))
  · exact ⟨ha, fun o ho => by omega⟩
  · intro m i M1 _ hi ⟨h1, h2⟩ k
    show zS (lm_goAll_c2 (m + 1) (i : Int) M1) _
    rw [lm_goAll_c2]
    refine zS_it (by omega) ?_
    rw [w1 (by omega)]
    refine zS_b (wrI_n sh_119 (by omega)) ?_
    refine zS_b (wrI_n sh_120 (by omega)) ?_
    refine k _ ⟨zmg_up (zmg_up h1 (by omega)) (by omega), fun o ho => ⟨?_, ?_⟩⟩
    · rw [zup_c (by omega), zup_a]
      by_cases hoi : o = i
      · rw [if_pos hoi]
      · rw [if_neg hoi]; exact (h2 o (by omega)).1
    · rw [zup_a]
      by_cases hoi : o = i
      · rw [if_pos hoi]
      · rw [if_neg hoi, zup_c (by omega)]; exact (h2 o (by omega)).2
  · intro m M1 ⟨h1, h2⟩
    show zS (lm_goAll_c2 (m + 1) ((6 : Nat) : Int) M1) _
    rw [lm_goAll_c2]
    refine zS_ie (by omega) ?_
    refine loopI (fun m i M => lm_goAll_c30 m (i : Int) M) (fun i M' => zmg C M' ∧ (∀ o, o < 6 → M' 119 o = -1 ∧ M' 120 o = -1) ∧ (∀ p, p < i → M' 117 p = C 113 p ∧ M' 118 p = C 114 p ∧ M' 121 p = 0 ∧ M' 122 p = 0 ∧ M' 123 p = 0)) 0 5 (by omega) ?_ ?_ ?_ zN (zN_gt (by omega))
    · exact ⟨h1, h2, fun p hp => by omega⟩
    · intro m i M2 _ hi ⟨g1, g2, g3⟩ k
      show zS (lm_goAll_c30 (m + 1) (i : Int) M2) _
      rw [lm_goAll_c30]
      refine zS_it (by omega) ?_
      rw [w1 (by omega)]
      refine zS_b (rdI_n sh_113 (by omega)) ?_
      refine zS_b (wrI_n sh_117 (by omega)) ?_
      refine zS_b (rdI_n sh_114 (by omega)) ?_
      refine zS_b (wrI_n sh_118 (by omega)) ?_
      refine zS_b (wrI_n sh_121 (by omega)) ?_
      refine zS_b (wrI_n sh_122 (by omega)) ?_
      refine zS_b (wrI_n sh_123 (by omega)) ?_
      rw [zup_c (show 114 ≠ 117 by decide), g1 113 (by omega), g1 114 (by omega)]
      refine k _ ⟨zmg_up (zmg_up (zmg_up (zmg_up (zmg_up g1 (by omega)) (by omega)) (by omega)) (by omega)) (by omega), fun o ho => ?_, fun p hp => ⟨?_, ?_, ?_, ?_, ?_⟩⟩
      · simp (disch := omega) only [zup_c]
        exact g2 o ho
      · simp (disch := omega) only [zup_c, zup_a]
        by_cases hpi : p = i
        · rw [if_pos hpi, hpi]
        · rw [if_neg hpi]; exact (g3 p (by omega)).1
      · simp (disch := omega) only [zup_c, zup_a]
        by_cases hpi : p = i
        · rw [if_pos hpi, hpi]
        · rw [if_neg hpi]; exact (g3 p (by omega)).2.1
      · simp (disch := omega) only [zup_c, zup_a]
        by_cases hpi : p = i
        · rw [if_pos hpi]
        · rw [if_neg hpi]; exact (g3 p (by omega)).2.2.1
      · simp (disch := omega) only [zup_c, zup_a]
        by_cases hpi : p = i
        · rw [if_pos hpi]
        · rw [if_neg hpi]; exact (g3 p (by omega)).2.2.2.1
      · simp (disch := omega) only [zup_c, zup_a]
        by_cases hpi : p = i
        · rw [if_pos hpi]
        · rw [if_neg hpi]; exact (g3 p (by omega)).2.2.2.2
    · intro m M2 ⟨g1, g2, g3⟩
      show zS (lm_goAll_c30 (m + 1) ((5 : Nat) : Int) M2) _
      rw [lm_goAll_c30]
      refine zS_ie (by omega) ?_
      refine loopI (fun m i M => lm_goAll_c88 m (i : Int) M) (fun i M' => zmI C E T i M') 0 (T + 1) (by omega) ?_ ?_ ?_ zN (zN_gt (by omega))
      · refine ⟨g1, fun n hn => by omega, fun _ => ⟨fun p hp => ?_, fun o ho => g2 o ho⟩, fun e => by omega, fun p hp => ?_⟩
        · obtain ⟨q1, q2, _⟩ := g3 p (by omega)
          obtain ⟨r1, r2⟩ := hH p hp
          rw [show 5 * 0 + p = p by omega, q1, q2]
          exact ⟨r1, r2⟩
        · rw [show min 0 T = 0 by omega]
          exact (g3 p (by omega)).2.2
      · intro m i M3 _ hi hI k
        show zS (lm_goAll_c88 (m + 1) (i : Int) M3) _
        rw [lm_goAll_c88]
        refine zS_b lm_last_eq ?_
        refine zS_ie (by rw [hI.1 107 (by omega)]; omega) ?_
        exact lm_goAll_c98_ok he0 (by omega) hI k
      · intro m M3 hI
        show zS (lm_goAll_c88 (m + 1) ((T + 1 : Nat) : Int) M3) _
        rw [lm_goAll_c88]
        refine zS_b lm_last_eq ?_
        refine zS_it (by rw [hI.1 107 (by omega)]; omega) ?_
        obtain ⟨q1, q2, q3, q4, q5⟩ := hI
        refine zS_r ⟨q1, fun n hn => q2 n (by omega), q4 rfl, fun p hp => ?_⟩
        have q := q5 p hp
        rw [show min (T + 1) T = T by omega] at q
        exact q
