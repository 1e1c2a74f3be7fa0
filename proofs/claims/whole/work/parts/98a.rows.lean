/-! row, write, paste. -/
theorem lY_fill_ok {c n : Nat} {v : Int} {M : Nat → Nat → Int} (h : zSH[c]? = some (2, n)) (hn : n ≤ 1000) : zS (lY_fill c v M) (fun M' => (∀ e, e ≠ c → M' e = M e) ∧ ∀ i, i < n → M' c i = v) := by
  have hl : lnA c = some (n : Int) := by
    unfold lnA
    rw [h]
    show (if 2 < 6 then some (w32 (n : Int)) else none) = _
    rw [if_pos (by decide), w32_eq (by omega) (by omega)]
  unfold lY_fill
  refine zS_b hl ?_
  refine loopI (fun m i M => lY_fill_c6 c v m (i : Int) (n : Int) M) (fun i M' => (∀ e, e ≠ c → M' e = M e) ∧ ∀ j, j < i → M' c j = v) 0 n (by omega) ?_ ?_ ?_ zN (zN_gt (by omega))
  · exact ⟨fun _ _ => rfl, fun i hi => by omega⟩
  · intro m i M1 _ hi ⟨h1, h2⟩ k
    show zS (lY_fill_c6 c v (m + 1) (i : Int) (n : Int) M1) _
    rw [lY_fill_c6]
    refine zS_it (by omega) ?_
    rw [w1 (by omega)]
    refine zS_b (wrL_n h hi) ?_
    refine k _ ⟨fun e he => (zup_c he).trans (h1 e he), fun j hj => ?_⟩
    rw [zup_a]
    by_cases hji : j = i
    · rw [if_pos hji]
    · rw [if_neg hji]; exact h2 j (by omega)
  · intro m M1 hI
    show zS (lY_fill_c6 c v (m + 1) (n : Int) (n : Int) M1) _
    rw [lY_fill_c6]
    refine zS_ie (by omega) ?_
    exact zS_r hI
section ZRO
variable {W : Nat → Int} {M : Nat → Nat → Int} {x y z : Int}
def zR1 (s : Nat) (M : Nat → Nat → Int) : Prop := (M 98 s = -1 ∧ M 126 s = -1) ∨ (0 ≤ M 98 s ∧ M 98 s ≤ 3 ∧ M 127 s = M 98 s ∧ 0 ≤ M 126 s ∧ M 126 s ≤ 60 ∧ M 99 s = M 126 s ∧ ∀ i, i < 60 → M (101 + s) i = M 128 (60 * s + i) ∧ -9223372036854775808 ≤ M (101 + s) i ∧ M (101 + s) i ≤ 9223372036854775807)
theorem zR1_cg {s : Nat} {M' : Nat → Nat → Int} (h : zR1 s M) (h1 : M' 98 s = M 98 s) (h2 : M' 126 s = M 126 s) (h3 : M' 127 s = M 127 s) (h4 : M' 99 s = M 99 s) (h5 : ∀ i, i < 60 → M' (101 + s) i = M (101 + s) i) (h6 : ∀ i, i < 60 → M' 128 (60 * s + i) = M 128 (60 * s + i)) : zR1 s M' := by
  unfold zR1 at h ⊢
  rw [h1, h2, h3, h4]
  rcases h with h | ⟨a, b, c, d, e, f, g⟩
  · exact Or.inl h
  · exact Or.inr ⟨a, b, c, d, e, f, fun i hi => by rw [h5 i hi, h6 i hi]; exact g i hi⟩
theorem zInv_rw {M' : Nat → Nat → Int} (h : zInv W M) (hr : zRw M') (hc : ∀ c, c < 98 ∨ (104 < c ∧ c < 126) → M' c = M c) : zInv W M' := by
  obtain ⟨h1, h2, h3, h4, h5, h6, h7, h8⟩ := h
  exact ⟨(hc 107 (by omega)).trans h1, h2, zTold_cg h3 (fun i hi => hc _ (by omega)), zActs_cg h4 (fun i hi => hc _ (by omega)), zNw_cg h5 (fun c h => hc c (by omega)), zTp_cg h6 (by rw [hc 1 (by omega)]) (by rw [hc 1 (by omega)]) (by rw [hc 1 (by omega)]) (hc 2 (by omega)) (hc 110 (by omega)) (by rw [hc 106 (by omega)]) (by rw [hc 106 (by omega)]) (by rw [hc 106 (by omega)]), hr, zIg_cg h8 (fun c h => hc c (by omega)) (hc 108 (by omega)) (hc 109 (by omega))⟩
theorem lm_row_c52_ok {s : Nat} {y z : Int} {N : Nat → Nat → Int} (hs : s < 4) : zS (lm_row_c52 (s : Int) y z zN 0 N) (fun r => r.1 = 0 ∧ (∀ c, c ≠ 128 → r.2 c = N c) ∧ (∀ i, i < 60 → r.2 128 (60 * s + i) = 0) ∧ ∀ j, j < 60 * s ∨ 60 * s + 60 ≤ j → r.2 128 j = N 128 j) := by
  refine loopI (fun m i N' => lm_row_c52 (s : Int) y z m (i : Int) N') (fun i N' => (∀ c, c ≠ 128 → N' c = N c) ∧ (∀ j, j < i → N' 128 (60 * s + j) = 0) ∧ ∀ j, j < 60 * s ∨ 60 * s + 60 ≤ j → N' 128 j = N 128 j) 0 60 (by omega) ⟨fun _ _ => rfl, fun j hj => by omega, fun _ _ => rfl⟩ ?_ ?_ zN (zN_gt (by omega))
  · intro m i N' _ hi ⟨b1, b2, b3⟩ kk
    show zS (lm_row_c52 (s : Int) y z (m + 1) (i : Int) N') _
    rw [lm_row_c52]
    refine zS_it (by omega) ?_
    rw [w60 (by omega) (by omega), w1 (by omega)]
    refine zS_b (wrL_n sh_128 (by omega)) ?_
    refine kk _ ⟨fun c hc => (zup_c hc).trans (b1 c hc), fun j hj => ?_, fun j hj => ?_⟩
    · rw [zup_a]
      by_cases e : j = i
      · rw [if_pos (by omega)]
      · rw [if_neg (by omega)]; exact b2 j (by omega)
    · rw [zup_i (by omega)]; exact b3 j hj
  · intro m N' ⟨b1, b2, b3⟩
    show zS (lm_row_c52 (s : Int) y z (m + 1) ((60 : Nat) : Int) N') _
    rw [lm_row_c52]
    refine zS_ie (by omega) ?_
    exact zS_r ⟨rfl, b1, b2, b3⟩
theorem q_row (h : zInv W M) : zQ4 (lX_row x y z) (lm_row x y z) M := by
  show zS (lX_row x y z M) (fun r => zS (lm_row x y z r.2) (fun s => s.1 = r.1 ∧ ∃ W', zInv W' s.2))
  have hbad : ¬ ((0 ≤ x ∧ x ≤ 3) ∧ (0 ≤ y ∧ y ≤ 3) ∧ z ≤ 60) → zS (lm_row x y z M) (fun s => s.1 = -2 ∧ ∃ W', zInv W' s.2) := fun hb => by
    unfold lm_row
    refine zG_m mSlot (fun c1 => zG_m lm_in_eq (fun c2 => ?_) (fun _ => ⟨rfl, W, h⟩)) (fun _ => ⟨rfl, W, h⟩)
    rw [if_pos (show 60 < z by omega)]
    exact zS_r ⟨rfl, W, h⟩
  unfold lX_row
  refine zG_m xSlot (fun c1 => ?_) (fun c => hbad (fun q => c q.1))
  refine zS_if (fun q => zS_r (hbad (by omega))) (fun q1 => ?_)
  refine zS_if (fun q => zS_r (hbad (by omega))) (fun q2 => ?_)
  refine zS_if (fun q => zS_r (hbad (by omega))) (fun q3 => ?_)
  clear hbad
  have c2 : 0 ≤ y ∧ y ≤ 3 := by omega
  obtain ⟨s, rfl⟩ : ∃ p : Nat, x = (p : Int) := ⟨x.toNat, by omega⟩
  have hs : s < 4 := by omega
  refine zS_if (fun q4 => zS_r ?_) (fun q4 => ?_)
  · show zS (lm_row (s : Int) y z M) (fun s => s.1 = -3 ∧ _)
    unfold lm_row
    refine zG_m mSlot (fun _ => zG_m lm_in_eq (fun _ => ?_) (fun q => absurd c2 q)) (fun q => absurd c1 q)
    rw [if_neg q3, if_pos q4]
    exact zS_r ⟨rfl, W, h⟩
  · unfold lW_make
    have hmk : zS ((wrI 98 (s : Int) y M).bind (fun M6 => (wrI 99 (s : Int) z M6).bind (fun M13 => (rdA 100 (s : Int)).bind (fun v19 => (lY_fill v19 0 M13).bind (fun M21 => some M21))))) (fun M' => M' 98 s = y ∧ M' 99 s = z ∧ (∀ i, i < 60 → M' (101 + s) i = 0) ∧ (∀ j, j ≠ s → M' 98 j = M 98 j ∧ M' 99 j = M 99 j) ∧ ∀ c, c ≠ 98 → c ≠ 99 → c ≠ 101 + s → M' c = M c) := by
      refine zS_b (wrI_n sh_98 hs) ?_
      refine zS_b (wrI_n sh_99 hs) ?_
      refine zS_b (rdA_100 hs) ?_
      refine zS_m (lY_fill_ok (sh_row hs) (by omega)) ?_
      intro M1 ⟨a1, a2⟩
      refine zS_r ⟨?_, ?_, a2, fun j hj => ⟨?_, ?_⟩, fun c c1 c2 c3 => ?_⟩
      · rw [a1 98 (by omega), zup_c (by omega), zup_s]
      · rw [a1 99 (by omega), zup_s]
      · rw [a1 98 (by omega), zup_c (by omega), zup_i hj]
      · rw [a1 99 (by omega), zup_i hj, zup_c (by omega)]
      · rw [a1 c c3, zup_c c2, zup_c c1]
    refine zS_m hmk ?_
    intro M1 ⟨a1, a2, a3, a4, a5⟩
    refine zS_r ?_
    show zS (lm_row (s : Int) y z M1) (fun s => s.1 = 0 ∧ _)
    unfold lm_row
    refine zG_m mSlot (fun _ => zG_m lm_in_eq (fun _ => ?_) (fun q => absurd c2 q)) (fun q => absurd c1 q)
    rw [if_neg q3, if_neg q4]
    refine zS_b (wrI_n sh_126 hs) ?_
    refine zS_b (wrI_n sh_127 hs) ?_
    refine zS_mono (lm_row_c52_ok hs) ?_
    intro r ⟨s0, s1, s2, s3⟩
    have hr : ∀ c, c ≠ 126 → c ≠ 127 → c ≠ 128 → r.2 c = M1 c := fun c c1 c2 c3 => by
      rw [s1 c c3, zup_c c2, zup_c c1]
    refine ⟨s0, W, zInv_rw h (fun t ht => ?_) (fun c hc => by rw [hr c (by omega) (by omega) (by omega), a5 c (by omega) (by omega) (by omega)])⟩
    show zR1 t r.2
    by_cases e : t = s
    · subst e
      right
      rw [hr 98 (by omega) (by omega) (by omega), hr 99 (by omega) (by omega) (by omega), a1, a2, s1 126 (by omega), s1 127 (by omega), zup_c (show 126 ≠ 127 by omega), zup_s, zup_s]
      refine ⟨c2.1, c2.2, rfl, by omega, by omega, rfl, fun i hi => ?_⟩
      rw [hr (101 + t) (by omega) (by omega) (by omega), a3 i hi, s2 i hi]
      omega
    · refine zR1_cg (M := M) (h.2.2.2.2.2.2.1 t ht) ?_ ?_ ?_ ?_ (fun i hi => ?_) (fun i hi => ?_)
      · rw [hr 98 (by omega) (by omega) (by omega)]; exact (a4 t e).1
      · rw [s1 126 (by omega), zup_c (by omega), zup_i e, a5 126 (by omega) (by omega) (by omega)]
      · rw [s1 127 (by omega), zup_i e, zup_c (by omega), a5 127 (by omega) (by omega) (by omega)]
      · rw [hr 99 (by omega) (by omega) (by omega)]; exact (a4 t e).2
      · rw [hr (101 + t) (by omega) (by omega) (by omega), a5 (101 + t) (by omega) (by omega) (by omega)]
      · rw [s3 _ (by omega), zup_c (by omega), zup_c (by omega), a5 128 (by omega) (by omega) (by omega)]
end ZRO
