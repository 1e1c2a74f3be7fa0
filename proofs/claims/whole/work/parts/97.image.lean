/-! image, back. -/
section ZIM
variable {W : Nat → Int} {M : Nat → Nat → Int} {x : Int}
theorem zMid_go {W' : Nat → Int} {M2 : Nat → Nat → Int} (h : zInv W M) (hw : wOk W') (ht : zTold 3 M2 W') (ha : zActs 23 M2 W') (hn : zNw M2 W') (hc : ∀ c, c < 3 ∨ (12 < c ∧ c < 23) ∨ 36 < c → M2 c = M c) : zMid W W' M2 := by
  have hM : ∀ c, c ≠ 107 → c < 3 ∨ (12 < c ∧ c < 23) ∨ 36 < c → zWd W' M2 c = M c := fun c h1 h2 => (zWd_n h1).trans (hc c h2)
  obtain ⟨h1, h2, h3, h4, h5, h6, h7, h8⟩ := h
  refine ⟨(hc 107 (by omega)).trans h1, rfl, hw, zTold_cg ht (fun i hi => zWd_n (by omega)), zActs_cg ha (fun i hi => zWd_n (by omega)), zNw_cg hn (fun c h => zWd_n (by omega)), ?_, zRw_cg h7 (fun c h => hM c (by omega) (by omega)), zIg_cg h8 (fun c h => hM c (by omega) (by omega)) (hM 108 (by omega) (by omega)) (hM 109 (by omega) (by omega))⟩
  exact zTp_cg h6 (by rw [hM 1 (by omega) (by omega)]) (by rw [hM 1 (by omega) (by omega)]) (by rw [hM 1 (by omega) (by omega)]) (hM 2 (by omega) (by omega)) (hM 110 (by omega) (by omega)) (by rw [hM 106 (by omega) (by omega)]) (by rw [hM 106 (by omega) (by omega)]) (by rw [hM 106 (by omega) (by omega)])
theorem rdA_45 {k : Nat} (hk : k < 3) : rdA 45 (k : Int) = some (46 + 17 * k) ∧ zis 2 (46 + 17 * k) = true ∧ zis 6 (46 + 17 * k + 1) = true ∧ zis 0 (46 + 17 * k + 11) = true := by
  have h : k = 0 ∨ k = 1 ∨ k = 2 := by omega
  rcases h with rfl | rfl | rfl <;> decide +kernel
def zI1 (k : Nat) (M : Nat → Nat → Int) : Prop := M 109 k = M (46 + 17 * k) 0 ∧ (M 109 k = 0 ∨ (M 109 k = 1 ∧ wOk (fun i => M 108 (138 * k + i)) ∧ zTold (46 + 17 * k + 1) M (fun i => M 108 (138 * k + i)) ∧ M (46 + 17 * k + 11) 0 = M 108 (138 * k + 8) ∧ ∀ i, i < (M 108 (138 * k + 8)).toNat → zAct (46 + 17 * k + 11) M (fun i => M 108 (138 * k + i)) i))
theorem zI1_cg {k : Nat} {M' : Nat → Nat → Int} (h : zI1 k M) (h1 : ∀ c, 46 + 17 * k ≤ c → c ≤ 46 + 17 * k + 16 → M' c = M c) (h2 : ∀ i, i < 138 → M' 108 (138 * k + i) = M 108 (138 * k + i)) (h3 : M' 109 k = M 109 k) : zI1 k M' := by
  obtain ⟨a, b⟩ := h
  unfold zI1
  rw [h3, h1 (46 + 17 * k) (by omega) (by omega), h1 (46 + 17 * k + 11) (by omega) (by omega), h2 8 (by omega)]
  refine ⟨a, ?_⟩
  rcases b with b | ⟨b, c, d, e, f⟩
  · exact Or.inl b
  · have h8 : 0 ≤ M 108 (138 * k + 8) ∧ M 108 (138 * k + 8) ≤ 30 := c.2.2.2.2.2.2.2.2.1
    refine Or.inr ⟨b, wrow_ok c h2, wrow_told c h2 (zTold_cg d (fun i hi => h1 _ (by omega) (by omega))), e, fun i hi => wrow_act h2 (by omega) (zAct_cg (f i hi) (fun j hj => h1 _ (by omega) (by omega)))⟩
theorem lm_image_ok {k : Nat} {N : Nat → Nat → Int} (hk : k < 3) (hN : N 107 = W) : zS (lm_image (k : Int) N) (fun r => r.1 = 0 ∧ (∀ c, c ≠ 108 → c ≠ 109 → r.2 c = N c) ∧ (∀ i, i < 138 → r.2 108 (138 * k + i) = W i) ∧ (∀ j, j < 138 * k ∨ 138 * k + 138 ≤ j → r.2 108 j = N 108 j) ∧ r.2 109 k = 1 ∧ ∀ j, j ≠ k → r.2 109 j = N 109 j) := by
  unfold lm_image
  refine zG_m lm_in_eq (fun _ => ?_) (fun q => absurd (⟨by omega, by omega⟩ : (0 : Int) ≤ (k : Int) ∧ (k : Int) ≤ 2) q)
  refine loopI (fun m i N' => lm_image_c17 (k : Int) m (i : Int) N') (fun i N' => (∀ c, c ≠ 108 → N' c = N c) ∧ (∀ j, j < i → N' 108 (138 * k + j) = W j) ∧ (∀ j, j < 138 * k ∨ 138 * k + 138 ≤ j → N' 108 j = N 108 j)) 0 138 (by omega) ⟨fun _ _ => rfl, fun j hj => by omega, fun _ _ => rfl⟩ ?_ ?_ zN (zN_gt (by omega))
  · intro m i N' _ hi ⟨b1, b2, b3⟩ kk
    show zS (lm_image_c17 (k : Int) (m + 1) (i : Int) N') _
    rw [lm_image_c17]
    refine zS_it (by omega) ?_
    refine zS_b (rdI_n sh_107 hi) ?_
    rw [show w32 (w32 (138 * (k : Int)) + (i : Int)) = ((138 * k + i : Nat) : Int) by
      simp (disch := omega) only [w32_eq]
      omega, w1 (by omega)]
    refine zS_b (wrI_n sh_108 (by omega)) ?_
    refine kk _ ⟨fun c hc => ?_, fun j hj => ?_, fun j hj => ?_⟩
    · rw [zup_c hc]; exact b1 c hc
    · rw [zup_a]
      by_cases e : j = i
      · rw [if_pos (by omega), e, b1 107 (by omega), hN]
      · rw [if_neg (by omega)]; exact b2 j (by omega)
    · rw [zup_i (by omega)]; exact b3 j hj
  · intro m N' ⟨b1, b2, b3⟩
    show zS (lm_image_c17 (k : Int) (m + 1) ((138 : Nat) : Int) N') _
    rw [lm_image_c17]
    refine zS_ie (by omega) ?_
    refine zS_b (wrB_109 (by omega) (by omega) (Or.inr rfl)) ?_
    refine zS_r ⟨rfl, fun c c1 c2 => ?_, fun i hi => ?_, fun j hj => ?_, zup_s, fun j hj => ?_⟩
    · show zup N' 109 k 1 c = N c
      rw [zup_c c2]; exact b1 c c1
    · show zup N' 109 k 1 108 (138 * k + i) = W i
      rw [zup_c (by omega)]; exact b2 i hi
    · show zup N' 109 k 1 108 j = N 108 j
      rw [zup_c (by omega)]; exact b3 j hj
    · show zup N' 109 k 1 109 j = N 109 j
      rw [zup_i hj, b1 109 (by omega)]
theorem q_image (h : zInv W M) : zQ4 (lX_image x) (lm_image x) M := by
  have hbad : ¬ (0 ≤ x ∧ x ≤ 2) → zS (lm_image x M) (fun s => s.1 = -2 ∧ ∃ W', zInv W' s.2) := fun hb => by
    unfold lm_image
    exact zG_m lm_in_eq (fun c => absurd c hb) (fun _ => ⟨rfl, W, h⟩)
  show zS (lX_image x M) (fun r => zS (lm_image x r.2) (fun s => s.1 = r.1 ∧ ∃ W', zInv W' s.2))
  unfold lX_image
  refine zS_if (fun q => zS_r (hbad (by omega))) (fun q1 => ?_)
  refine zS_if (fun q2 => ?_) (fun q => zS_r (hbad (by omega)))
  obtain ⟨k, rfl⟩ : ∃ p : Nat, x = (p : Int) := ⟨x.toNat, by omega⟩
  have hk : k < 3 := by omega
  clear hbad
  obtain ⟨r1, r2, r3, r4⟩ := rdA_45 hk
  refine zS_b r1 ?_
  rw [if_pos r2]
  have h0 := h
  obtain ⟨h1, h2, h3, h4, h5, h6, h7, h8⟩ := h
  refine zS_m (lT_takeFrom_ok r3 rfl (by omega) h2 h3) ?_
  intro M1 ⟨a1, a2⟩
  refine zS_b r1 ?_
  rw [if_pos r2]
  refine zS_m (lA_takeFrom_ok (W := W) (b := 23) r4 rfl (by omega) h2 ?_ (fun i hi => ?_)) ?_
  · rw [a2 23 (by omega)]; exact h4.1
  · exact zAct_cg (h4.2.2.1 i hi) (fun j hj => a2 _ (by omega))
  intro M2 ⟨b1, b2⟩
  refine zS_b r1 ?_
  rw [if_pos r2]
  refine zS_b rfl ?_
  refine zS_r ?_
  show zS (lm_image (k : Int) (zup M2 (46 + 17 * k) 0 1)) (fun s => s.1 = 0 ∧ _)
  have g0 : zup M2 (46 + 17 * k) 0 1 (46 + 17 * k) 0 = 1 := zup_s
  have gc : ∀ c, c ≠ 46 + 17 * k → zup M2 (46 + 17 * k) 0 1 c = M2 c := fun c hc => zup_c hc
  generalize zup M2 (46 + 17 * k) 0 1 = N at g0 gc ⊢
  have hN : ∀ c, c < 46 + 17 * k ∨ 46 + 17 * k + 16 < c → N c = M c := fun c hc => by
    rw [gc c (by omega), b2 c (by omega), a2 c (by omega)]
  have ht : zTold (46 + 17 * k + 1) N W := zTold_cg a1 (fun i hi => by rw [gc _ (by omega), b2 _ (by omega)])
  have ha : zActs (46 + 17 * k + 11) N W := zActs_cg b1 (fun i hi => gc _ (by omega))
  refine zS_mono (lm_image_ok hk ((hN 107 (by omega)).trans h1)) ?_
  intro r ⟨s0, s1, s2, s3, s4, s5⟩
  have hr : ∀ c, c < 46 + 17 * k ∨ 46 + 17 * k + 16 < c → c ≠ 108 → c ≠ 109 → r.2 c = M c := fun c c1 c2 c3 => (s1 c c2 c3).trans (hN c c1)
  have h8w := h2.2.2.2.2.2.2.2.2.1
  refine ⟨s0, W, (hr 107 (by omega) (by omega) (by omega)).trans h1, h2, zTold_cg h3 (fun i hi => hr _ (by omega) (by omega) (by omega)), zActs_cg h4 (fun i hi => hr _ (by omega) (by omega) (by omega)), zNw_cg h5 (fun c h => hr _ (by omega) (by omega) (by omega)), ?_, zRw_cg h7 (fun c h => hr _ (by omega) (by omega) (by omega)), fun k2 hk2 => ?_⟩
  · exact zTp_cg h6 (by rw [hr 1 (by omega) (by omega) (by omega)]) (by rw [hr 1 (by omega) (by omega) (by omega)]) (by rw [hr 1 (by omega) (by omega) (by omega)]) (hr 2 (by omega) (by omega) (by omega)) (hr 110 (by omega) (by omega) (by omega)) (by rw [hr 106 (by omega) (by omega) (by omega)]) (by rw [hr 106 (by omega) (by omega) (by omega)]) (by rw [hr 106 (by omega) (by omega) (by omega)])
  · by_cases e : k2 = k
    · subst e
      have e8 : r.2 108 (138 * k2 + 8) = W 8 := s2 8 (by omega)
      show zI1 k2 r.2
      unfold zI1
      rw [s4, s1 (46 + 17 * k2) (by omega) (by omega), g0, s1 (46 + 17 * k2 + 11) (by omega) (by omega), e8]
      refine ⟨rfl, Or.inr ⟨rfl, wrow_ok h2 s2, wrow_told h2 s2 (zTold_cg ht (fun i hi => s1 _ (by omega) (by omega))), ha.1, fun i hi => wrow_act s2 (by omega) (zAct_cg (ha.2.2.1 i hi) (fun j hj => s1 _ (by omega) (by omega)))⟩⟩
    · exact zI1_cg (M := M) (h8 k2 hk2) (fun c c1 c2 => hr c (by omega) (by omega) (by omega)) (fun i hi => by rw [s3 _ (by omega), hN 108 (by omega)]) (by rw [s5 k2 e, hN 109 (by omega)])
/-- a row that is brought back -/
def wbk (M : Nat → Nat → Int) (W : Nat → Int) (k : Nat) : Nat → Int := fun i => if i < 138 then M 108 (138 * k + i) else W i
theorem lm_back_ok {k : Nat} {N : Nat → Nat → Int} (hk : k < 3) (hN : N 107 = W) (h9 : N 109 k = 1) : zS (lm_back (k : Int) N) (fun r => r.1 = 0 ∧ r.2 107 = wbk N W k ∧ ∀ c, c ≠ 107 → r.2 c = N c) := by
  unfold lm_back
  refine zG_m lm_in_eq (fun _ => ?_) (fun q => absurd (⟨by omega, by omega⟩ : (0 : Int) ≤ (k : Int) ∧ (k : Int) ≤ 2) q)
  refine zS_b (rdB_109 (by omega) (by omega)) ?_
  rw [Int.toNat_natCast, h9, if_neg (by decide)]
  refine loopI (fun m i N' => lm_back_c29 (k : Int) m (i : Int) N') (fun i N' => (∀ c, c ≠ 107 → N' c = N c) ∧ (∀ j, N' 107 j = if j < i then N 108 (138 * k + j) else W j)) 0 138 (by omega) ⟨fun _ _ => rfl, fun j => by rw [if_neg (by omega), hN]⟩ ?_ ?_ zN (zN_gt (by omega))
  · intro m i N' _ hi ⟨b1, b2⟩ kk
    show zS (lm_back_c29 (k : Int) (m + 1) (i : Int) N') _
    rw [lm_back_c29]
    refine zS_it (by omega) ?_
    rw [show w32 (w32 (138 * (k : Int)) + (i : Int)) = ((138 * k + i : Nat) : Int) by
      simp (disch := omega) only [w32_eq]
      omega, w1 (by omega)]
    refine zS_b (rdI_n sh_108 (by omega)) ?_
    refine zS_b (wrI_n sh_107 hi) ?_
    refine kk _ ⟨fun c hc => ?_, fun j => ?_⟩
    · rw [zup_c hc]; exact b1 c hc
    · rw [zup_a]
      by_cases e : j = i
      · rw [if_pos e, if_pos (by omega), b1 108 (by omega), e]
      · rw [if_neg e, b2 j]
        by_cases e2 : j < i
        · rw [if_pos e2, if_pos (by omega)]
        · rw [if_neg e2, if_neg (by omega)]
  · intro m N' ⟨b1, b2⟩
    show zS (lm_back_c29 (k : Int) (m + 1) ((138 : Nat) : Int) N') _
    rw [lm_back_c29]
    refine zS_ie (by omega) ?_
    exact zS_r ⟨rfl, funext (fun j => b2 j), b1⟩
theorem q_back (h : zInv W M) : zQ4 (lX_back x) (lm_back x) M := by
  have hbad : ¬ (0 ≤ x ∧ x ≤ 2) → zS (lm_back x M) (fun s => s.1 = -2 ∧ ∃ W', zInv W' s.2) := fun hb => by
    unfold lm_back
    exact zG_m lm_in_eq (fun c => absurd c hb) (fun _ => ⟨rfl, W, h⟩)
  show zS (lX_back x M) (fun r => zS (lm_back x r.2) (fun s => s.1 = r.1 ∧ ∃ W', zInv W' s.2))
  unfold lX_back
  refine zS_if (fun q => zS_r (hbad (by omega))) (fun q1 => ?_)
  refine zS_if (fun q2 => ?_) (fun q => zS_r (hbad (by omega)))
  obtain ⟨k, rfl⟩ : ∃ p : Nat, x = (p : Int) := ⟨x.toNat, by omega⟩
  have hk : k < 3 := by omega
  clear hbad
  obtain ⟨r1, r2, r3, r4⟩ := rdA_45 hk
  refine zS_b r1 ?_
  rw [if_pos r2]
  have h0 := h
  obtain ⟨h1, h2, h3, h4, h5, h6, h7, h8⟩ := h
  obtain ⟨i1, i2⟩ := h8 k hk
  by_cases c0 : M (46 + 17 * k) 0 = 0
  · rw [if_pos c0]
    refine zS_r ?_
    show zS (lm_back (k : Int) M) (fun s => s.1 = -6 ∧ _)
    unfold lm_back
    refine zG_m lm_in_eq (fun _ => ?_) (fun q => absurd (⟨by omega, by omega⟩ : (0 : Int) ≤ (k : Int) ∧ (k : Int) ≤ 2) q)
    refine zS_b (rdB_109 (by omega) (by omega)) ?_
    rw [Int.toNat_natCast, i1, if_pos c0]
    exact zS_r ⟨rfl, W, h0⟩
  · rw [if_neg c0]
    rcases i2 with i2 | ⟨i2, iw, it, ia, ii⟩
    · exact absurd (i1.symm.trans i2) c0
    · refine zS_b r1 ?_
      rw [if_pos r2]
      have he : ∀ i, i < 138 → wbk M W k i = M 108 (138 * k + i) := fun i hi => if_pos hi
      have hw' : wOk (wbk M W k) := wrow_ok iw he
      have ht' := wrow_told iw he it
      have h8' : M 108 (138 * k + 8) = wbk M W k 8 := (he 8 (by omega)).symm
      have h8w := hw'.2.2.2.2.2.2.2.2.1
      have ha' : ∀ i, i < (wbk M W k 8).toNat → zAct (46 + 17 * k + 11) M (wbk M W k) i := fun i hi => wrow_act he (by omega) (ii i (by rw [h8']; exact hi))
      rw [h8'] at ia
      have hbk : ∀ N : Nat → Nat → Int, N 108 = M 108 → wbk N W k = wbk M W k := fun N hN => by
        unfold wbk
        rw [hN]
      generalize wbk M W k = W' at he hw' ht' h8' h8w ha' ia hbk ⊢
      refine zS_m (lT_takeFrom_ok (t := 3) rfl r3 (by omega) hw' ht') ?_
      intro M1 ⟨a1, a2⟩
      refine zS_b r1 ?_
      rw [if_pos r2]
      refine zS_m (lA_takeFrom_ok (a := 23) (W := W') rfl r4 (by omega) hw' ?_ (fun i hi => ?_)) ?_
      · rw [a2 (46 + 17 * k + 11) (by omega)]; exact ia
      · exact zAct_cg (ha' i hi) (fun j hj => a2 _ (by omega))
      intro M2 ⟨b1, b2⟩
      have ht2 : zTold 3 M2 W' := zTold_cg a1 (fun i hi => b2 _ (by omega))
      refine zS_m (lX_settle_ok hw' ht2 b1) ?_
      intro M3 ⟨d1, d2⟩
      have hm : zMid W W' M3 := zMid_go h0 hw' (zTold_cg ht2 (fun i hi => d2 _ (by omega))) (zActs_cg b1 (fun i hi => d2 _ (by omega))) d1 (fun c hc => by rw [d2 c (by omega), b2 c (by omega), a2 c (by omega)])
      refine zS_r ?_
      show zS (lm_back (k : Int) M3) (fun s => s.1 = 0 ∧ _)
      have e108 : M3 108 = M 108 := by rw [d2 108 (by omega), b2 108 (by omega), a2 108 (by omega)]
      have e109 : M3 109 = M 109 := by rw [d2 109 (by omega), b2 109 (by omega), a2 109 (by omega)]
      refine zS_mono (lm_back_ok hk hm.1 (by rw [e109]; exact i2)) ?_
      intro r ⟨s0, s1, s2⟩
      rw [hbk M3 e108] at s1
      exact ⟨s0, W', zMid_inv hm s1 s2⟩
end ZIM
