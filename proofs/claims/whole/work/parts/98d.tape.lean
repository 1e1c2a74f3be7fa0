/-! The tape: feed, end, fault. -/
theorem zand_255 {t : Int} : zand t 255 = t % 256 := by
  unfold zand zbi
  have e1 : (Int32.ofInt t &&& Int32.ofInt 255).toBitVec = BitVec.ofNat 32 ((BitVec.ofInt 32 t).toNat % 256) := by
    rw [Int32.toBitVec_and]
    apply BitVec.eq_of_toNat_eq
    rw [BitVec.toNat_and, BitVec.toNat_ofNat]
    show (BitVec.ofInt 32 t).toNat &&& 255 = _
    have e2 : (BitVec.ofInt 32 t).toNat &&& 255 = (BitVec.ofInt 32 t).toNat % 256 := Nat.and_two_pow_sub_one_eq_mod (BitVec.ofInt 32 t).toNat 8
    rw [e2]
    omega
  rw [zi_of_bv (by omega) e1, BitVec.toNat_ofInt, show ((2 ^ 32 : Nat) : Int) = 4294967296 by decide]
  omega
theorem zbyte {t : Int} : 0 ≤ zand t 255 ∧ zand t 255 < 256 ∧ zi2b (zi2b t) = if zand t 255 < 128 then zand t 255 else zand t 255 - 256 := by
  rw [zand_255, zi2b_b, zi2b_b]
  simp only [Int.bmod_def]
  refine ⟨by omega, by omega, ?_⟩
  by_cases c : t % 256 < 128
  · rw [if_pos c]; omega
  · rw [if_neg c]; omega
section ZTA
variable {W : Nat → Int} {M : Nat → Nat → Int} {x : Int}
theorem zInv_tp {M' : Nat → Nat → Int} (h : zInv W M) (hr : zTp M') (hc : ∀ c, c ≠ 1 → c ≠ 2 → c ≠ 106 → c ≠ 110 → c ≠ 111 → M' c = M c) : zInv W M' := by
  obtain ⟨h1, h2, h3, h4, h5, h6, h7, h8⟩ := h
  exact ⟨(hc 107 (by omega) (by omega) (by omega) (by omega) (by omega)).trans h1, h2, zTold_cg h3 (fun i hi => hc _ (by omega) (by omega) (by omega) (by omega) (by omega)), zActs_cg h4 (fun i hi => hc _ (by omega) (by omega) (by omega) (by omega) (by omega)), zNw_cg h5 (fun c h => hc c (by omega) (by omega) (by omega) (by omega) (by omega)), hr, zRw_cg h7 (fun c h => hc c (by omega) (by omega) (by omega) (by omega) (by omega)), zIg_cg h8 (fun c h => hc c (by omega) (by omega) (by omega) (by omega) (by omega)) (hc 108 (by omega) (by omega) (by omega) (by omega) (by omega)) (hc 109 (by omega) (by omega) (by omega) (by omega) (by omega))⟩
theorem q_fault (h : zInv W M) : zQ0 (lX_fault x M) (lm_fault x M) := by
  obtain ⟨_, _, _, _, e2, e3⟩ := h.2.2.2.2.2.1
  unfold lX_fault lm_fault
  rw [e2, e3]
  by_cases c0 : x = 0
  · rw [if_pos c0]; exact ⟨_, zS_r rfl, zS_r rfl⟩
  rw [if_neg c0]
  by_cases c1 : x = 1
  · rw [if_pos c1]; exact ⟨_, zS_r rfl, zS_r rfl⟩
  rw [if_neg c1]
  exact ⟨_, zS_r rfl, zS_r rfl⟩
theorem q_end (h : zInv W M) : zQ4 (lX_end x) (lm_end x) M := by
  obtain ⟨t1, t2, t3, t4, t5, t6⟩ := h.2.2.2.2.2.1
  show zS (lX_end x M) (fun r => zS (lm_end x r.2) (fun s => s.1 = r.1 ∧ ∃ W', zInv W' s.2))
  have hbad : ¬ (0 ≤ x ∧ x ≤ M 106 5) → zS (lm_end x M) (fun s => s.1 = -1 ∧ ∃ W', zInv W' s.2) := fun hb => by
    unfold lm_end
    exact zG_m lm_in_eq (fun c => absurd c hb) (fun _ => ⟨rfl, W, h⟩)
  unfold lX_end
  refine zS_if (fun q => zS_r (hbad (by omega))) (fun q1 => ?_)
  refine zS_if (fun q => zS_r (hbad (by omega))) (fun q2 => ?_)
  refine zS_b rfl ?_
  refine zS_r ?_
  show zS (lm_end x (zup M 1 1 x)) (fun s => s.1 = x ∧ _)
  have m0 : ∀ c, c ≠ 1 → zup M 1 1 x c = M c := fun c hc => zup_c hc
  have m1 : zup M 1 1 x 1 1 = x := zup_s
  have m2 : ∀ j, j ≠ 1 → zup M 1 1 x 1 j = M 1 j := fun j hj => zup_i hj
  generalize zup M 1 1 x = N at m0 m1 m2 ⊢
  unfold lm_end
  rw [m0 106 (by omega)]
  refine zG_m lm_in_eq (fun _ => ?_) (fun q => absurd (⟨by omega, by omega⟩ : 0 ≤ x ∧ x ≤ M 106 5) q)
  refine zS_b rfl ?_
  refine zS_r ⟨rfl, W, zInv_tp h ?_ (fun c c1 _ c3 _ _ => (zup_c c3).trans (m0 c c1))⟩
  show zTp (zup N 106 5 x)
  unfold zTp
  rw [zup_c (show 1 ≠ 106 by omega), zup_c (show 2 ≠ 106 by omega), zup_c (show 110 ≠ 106 by omega), zup_s, zup_i (show 12 ≠ 5 by omega), zup_i (show 13 ≠ 5 by omega), m0 2 (by omega), m0 110 (by omega), m0 106 (by omega), m1, m2 2 (by omega), m2 3 (by omega)]
  exact ⟨by omega, by omega, rfl, fun i hi => t4 i (by omega), t5, t6⟩
/-- what the class holds when some numbers have been added -/
def zFd (X : Nat → Int) (M : Nat → Nat → Int) (n k : Nat) (N : Nat → Nat → Int) : Prop := N 1 1 = ((n + k : Nat) : Int) ∧ (∀ j, j < k → N 2 (n + j) = zand (zshr (X (j / 4)) ((24 - 8 * (j % 4) : Nat) : Int)) 255) ∧ (∀ i, i < n → N 2 i = M 2 i) ∧ (∀ c, c ≠ 1 → c ≠ 2 → N c = M c) ∧ ∀ f, f ≠ 1 → N 1 f = M 1 f
theorem lR_addNumber_ok {X : Nat → Int} {n k : Nat} {N : Nat → Nat → Int} (hn : n ≤ 880) (hk : k < 5) (h : zFd X M n (4 * k) N) : zS (lR_addNumber (X k) N) (zFd X M n (4 * (k + 1))) := by
  unfold lR_addNumber
  refine loopI (fun m i N' => lR_addNumber_c3 (X k) m (24 - 8 * (i : Int)) N') (fun i N' => zFd X M n (4 * k + i) N') 0 4 (by omega) h ?_ ?_ zN (zN_gt (by omega))
  · intro m i N' _ hi ⟨b1, b2, b3, b4, b5⟩ kk
    show zS (lR_addNumber_c3 (X k) (m + 1) (24 - 8 * (i : Int)) N') _
    rw [lR_addNumber_c3]
    refine zS_ie (by omega) ?_
    refine zS_it (by omega) ?_
    rw [b1]
    refine zS_b (wrI_n sh_2 (by omega)) ?_
    refine zS_b rfl ?_
    rw [zup_c (show 1 ≠ 2 by omega), b1, w1 (by omega), show w32 (24 - 8 * (i : Int) + -8) = 24 - 8 * ((i + 1 : Nat) : Int) by rw [w32_eq (by omega) (by omega)]; omega]
    refine kk _ ⟨zup_s, fun j hj => ?_, fun j hj => ?_, fun c c1 c2 => ?_, fun f hf => ?_⟩
    · rw [zup_c (by omega), zup_a]
      by_cases e : j = 4 * k + i
      · rw [if_pos (by omega), e, show (4 * k + i) / 4 = k by omega, show ((24 - 8 * ((4 * k + i) % 4) : Nat) : Int) = 24 - 8 * (i : Int) by omega]
      · rw [if_neg (by omega)]; exact b2 j (by omega)
    · rw [zup_c (by omega), zup_i (by omega)]; exact b3 j hj
    · rw [zup_c c1, zup_c c2]; exact b4 c c1 c2
    · rw [zup_i hf, zup_c (by omega)]; exact b5 f hf
  · intro m N' hI
    show zS (lR_addNumber_c3 (X k) (m + 1) (24 - 8 * ((4 : Nat) : Int)) N') _
    rw [lR_addNumber_c3]
    refine zS_it (by omega) ?_
    exact zS_r hI
theorem lm_feed_c55_ok {X : Nat → Int} {n : Nat} {x1 x2 x3 x4 x5 : Int} {N : Nat → Nat → Int} (hn : n ≤ 880) (h5 : N 106 5 = (n : Int)) (hX : ∀ j, j < 5 → N 111 j = X j) : zS (lm_feed_c55 x1 x2 x3 x4 x5 zN 0 N) (fun r => r.1 = ((n + 20 : Nat) : Int) ∧ (∀ c, c ≠ 110 → c ≠ 106 → r.2 c = N c) ∧ (∀ f, f ≠ 5 → r.2 106 f = N 106 f) ∧ r.2 106 5 = ((n + 20 : Nat) : Int) ∧ (∀ j, j < 20 → r.2 110 (n + j) = zi2b (zi2b (zshr (X (j / 4)) ((24 - 8 * (j % 4) : Nat) : Int)))) ∧ ∀ i, i < n → r.2 110 i = N 110 i) := by
  refine loopI (fun m i N' => lm_feed_c55 x1 x2 x3 x4 x5 m (i : Int) N') (fun i N' => (∀ c, c ≠ 110 → N' c = N c) ∧ (∀ j, j < i → N' 110 (n + j) = zi2b (zi2b (zshr (X (j / 4)) ((24 - 8 * (j % 4) : Nat) : Int)))) ∧ ∀ i, i < n → N' 110 i = N 110 i) 0 20 (by omega) ⟨fun _ _ => rfl, fun j hj => by omega, fun _ _ => rfl⟩ ?_ ?_ zN (zN_gt (by omega))
  · intro m i N' _ hi ⟨b1, b2, b3⟩ kk
    show zS (lm_feed_c55 x1 x2 x3 x4 x5 (m + 1) (i : Int) N') _
    rw [lm_feed_c55]
    refine zS_it (by omega) ?_
    have ed : zdiv (i : Int) 4 = ((i / 4 : Nat) : Int) := zdiv_nat (b := 4) (by omega) (by omega)
    have er : zrem (i : Int) 4 = ((i % 4 : Nat) : Int) := zrem_nat (b := 4) (by omega) (by omega)
    rw [ed, er]
    refine zS_b (rdI_n sh_111 (by omega)) ?_
    have es : w32 (24 - w32 (8 * ((i % 4 : Nat) : Int))) = ((24 - 8 * (i % 4) : Nat) : Int) := by
      simp (disch := omega) only [w32_eq]
      omega
    have ep : w32 (N' 106 5 + (i : Int)) = ((n + i : Nat) : Int) := by
      rw [b1 106 (by omega), h5, w32_eq (by omega) (by omega)]
      omega
    rw [es, ep, b1 111 (by omega), hX _ (by omega), w1 (by omega)]
    refine zS_b (wrB_110 (by omega) (by omega)) ?_
    rw [Int.toNat_natCast]
    refine kk _ ⟨fun c hc => (zup_c hc).trans (b1 c hc), fun j hj => ?_, fun j hj => ?_⟩
    · rw [zup_a]
      by_cases e : j = i
      · rw [if_pos (by omega), e]
      · rw [if_neg (by omega)]; exact b2 j (by omega)
    · rw [zup_i (by omega)]; exact b3 j hj
  · intro m N' ⟨b1, b2, b3⟩
    show zS (lm_feed_c55 x1 x2 x3 x4 x5 (m + 1) ((20 : Nat) : Int) N') _
    rw [lm_feed_c55]
    refine zS_ie (by omega) ?_
    refine zS_b rfl ?_
    have e : w32 (N' 106 5 + 20) = ((n + 20 : Nat) : Int) := by
      rw [b1 106 (by omega), h5, w32_eq (by omega) (by omega)]
      omega
    rw [e]
    refine zS_r ⟨?_, fun c c1 c2 => (zup_c c2).trans (b1 c c1), fun f hf => ?_, ?_, fun j hj => ?_, fun j hj => ?_⟩
    · exact zup_s (M := N') (a := 106) (i := 5) (v := ((n + 20 : Nat) : Int))
    · show zup N' 106 5 ((n + 20 : Nat) : Int) 106 f = _
      rw [zup_i hf, b1 106 (by omega)]
    · exact zup_s (M := N') (a := 106) (i := 5) (v := ((n + 20 : Nat) : Int))
    · show zup N' 106 5 ((n + 20 : Nat) : Int) 110 (n + j) = _
      rw [zup_c (by omega)]; exact b2 j hj
    · show zup N' 106 5 ((n + 20 : Nat) : Int) 110 j = _
      rw [zup_c (by omega)]; exact b3 j hj
theorem q_feed {x1 x2 x3 x4 x5 : Int} (h : zInv W M) : zQ4 (lX_feed x1 x2 x3 x4 x5) (lm_feed x1 x2 x3 x4 x5) M := by
  obtain ⟨t1, t2, t3, t4, t5, t6⟩ := h.2.2.2.2.2.1
  show zS (lX_feed x1 x2 x3 x4 x5 M) (fun r => zS (lm_feed x1 x2 x3 x4 x5 r.2) (fun s => s.1 = r.1 ∧ ∃ W', zInv W' s.2))
  obtain ⟨n, hn⟩ : ∃ n : Nat, M 1 1 = (n : Int) := ⟨(M 1 1).toNat, by omega⟩
  unfold lX_feed
  rw [hn, w32_eq (by omega) (by omega)]
  by_cases c : 900 < (n : Int) + 20
  · rw [if_pos c]
    refine zS_r ?_
    show zS (lm_feed x1 x2 x3 x4 x5 M) (fun s => s.1 = -1 ∧ _)
    unfold lm_feed
    rw [t3, hn, w32_eq (by omega) (by omega), if_pos c]
    exact zS_r ⟨rfl, W, h⟩
  · rw [if_neg c]
    have hn8 : n ≤ 880 := by omega
    let X : Nat → Int := fun j => if j = 0 then x1 else if j = 1 then x2 else if j = 2 then x3 else if j = 3 then x4 else x5
    have i0 : zFd X M n (4 * 0) M := ⟨hn, fun j hj => by omega, fun _ _ => rfl, fun _ _ _ => rfl, fun _ _ => rfl⟩
    refine zS_m (lR_addNumber_ok (X := X) (k := 0) hn8 (by omega) i0) ?_
    intro N1 i1
    refine zS_m (lR_addNumber_ok (X := X) (k := 1) hn8 (by omega) i1) ?_
    intro N2 i2
    refine zS_m (lR_addNumber_ok (X := X) (k := 2) hn8 (by omega) i2) ?_
    intro N3 i3
    refine zS_m (lR_addNumber_ok (X := X) (k := 3) hn8 (by omega) i3) ?_
    intro N4 i4
    refine zS_m (lR_addNumber_ok (X := X) (k := 4) hn8 (by omega) i4) ?_
    intro N ⟨b1, b2, b3, b4, b5⟩
    refine zS_r ?_
    show zS (lm_feed x1 x2 x3 x4 x5 N) (fun s => s.1 = N 1 1 ∧ _)
    rw [b1]
    unfold lm_feed
    rw [b4 106 (by omega) (by omega), t3, hn, w32_eq (by omega) (by omega), if_neg c]
    refine zS_b (wrI_n (i := 0) sh_111 (by omega)) ?_
    refine zS_b (wrI_n (i := 1) sh_111 (by omega)) ?_
    refine zS_b (wrI_n (i := 2) sh_111 (by omega)) ?_
    refine zS_b (wrI_n (i := 3) sh_111 (by omega)) ?_
    refine zS_b (wrI_n (i := 4) sh_111 (by omega)) ?_
    have k0 : ∀ c, c ≠ 111 → zup (zup (zup (zup (zup N 111 0 x1) 111 1 x2) 111 2 x3) 111 3 x4) 111 4 x5 c = N c := fun c hc => by
      rw [zup_c hc, zup_c hc, zup_c hc, zup_c hc, zup_c hc]
    have kX : ∀ j, j < 5 → zup (zup (zup (zup (zup N 111 0 x1) 111 1 x2) 111 2 x3) 111 3 x4) 111 4 x5 111 j = X j := fun j hj => by
      have q : j = 0 ∨ j = 1 ∨ j = 2 ∨ j = 3 ∨ j = 4 := by omega
      rcases q with rfl | rfl | rfl | rfl | rfl <;> rfl
    generalize zup (zup (zup (zup (zup N 111 0 x1) 111 1 x2) 111 2 x3) 111 3 x4) 111 4 x5 = N' at k0 kX ⊢
    refine zS_mono (lm_feed_c55_ok (X := X) hn8 (by rw [k0 106 (by omega), b4 106 (by omega) (by omega), t3, hn]) kX) ?_
    intro r ⟨s0, s1, s2, s3, s4, s5⟩
    refine ⟨s0, W, zInv_tp h ?_ (fun c c1 c2 c3 c4 c5 => by rw [s1 c c4 c3, k0 c c5, b4 c c1 c2])⟩
    have e1 : ∀ f, r.2 1 f = N 1 f := fun f => by rw [s1 1 (by omega) (by omega), k0 1 (by omega)]
    have e106 : ∀ f, f ≠ 5 → r.2 106 f = M 106 f := fun f hf => by rw [s2 f hf, k0 106 (by omega), b4 106 (by omega) (by omega)]
    have e2 : r.2 2 = N 2 := by rw [s1 2 (by omega) (by omega), k0 2 (by omega)]
    unfold zTp
    rw [e1, e1, e1, e106 12 (by omega), e106 13 (by omega), b1, s3, b5 2 (by omega), b5 3 (by omega), e2]
    refine ⟨by omega, by omega, rfl, fun i hi => ?_, t5, t6⟩
    by_cases c : i < n
    · rw [b3 i c, s5 i c, k0 110 (by omega), b4 110 (by omega) (by omega)]
      exact t4 i (by omega)
    · obtain ⟨j, rfl⟩ : ∃ j, i = n + j := ⟨i - n, by omega⟩
      rw [b2 j (by omega), s4 j (by omega)]
      exact zbyte
end ZTA
