/-! paste. -/
theorem zcpy_b {M : Nat → Nat → Int} {a b sp dp n j : Nat} : zcpy M a sp b dp n b j = if dp ≤ j ∧ j < dp + n then M a (sp + (j - dp)) else M b j := by
  show (if b = b ∧ dp ≤ j ∧ j < dp + n then M a (sp + (j - dp)) else M b j) = _
  by_cases h : dp ≤ j ∧ j < dp + n
  · rw [if_pos h, if_pos ⟨rfl, h⟩]
  · rw [if_neg h, if_neg (fun q => h q.2)]
section ZPA
variable {W : Nat → Int} {M : Nat → Nat → Int} {x y z u v : Int}
theorem lW_holds_eq {s : Nat} (hs : s < 4) (h99 : 0 ≤ M 99 s ∧ M 99 s ≤ 60) (hv : v ≤ 2147483647) : lW_holds (s : Int) y v M = some (zbo (0 ≤ y ∧ 0 ≤ v ∧ y + v ≤ M 99 s)) := by
  refine zS_eq ?_
  unfold lW_holds
  refine zS_if (fun q => zS_r (zbo_f (by omega)).symm) (fun q1 => ?_)
  refine zS_if (fun q => zS_r (zbo_f (by omega)).symm) (fun q2 => ?_)
  refine zS_b (rdI_n sh_99 hs) ?_
  rw [w32_eq (by omega) (by omega)]
  refine zS_if (fun q => zS_r (zbo_f (by omega)).symm) (fun q3 => ?_)
  exact zS_r (zbo_t (by omega)).symm
theorem lm_paste_c150_ok {a b f t n : Nat} {N : Nat → Nat → Int} (hb : b < 4) (ht : t + n ≤ 60) : zS (lm_paste_c150 (a : Int) (f : Int) (b : Int) (t : Int) (n : Int) zN 0 N) (fun r => r.1 = 0 ∧ (∀ c, c ≠ 128 → r.2 c = N c) ∧ ∀ j, r.2 128 j = if 60 * b + t ≤ j ∧ j < 60 * b + t + n then N 129 (j - (60 * b + t)) else N 128 j) := by
  refine loopI (fun m i N' => lm_paste_c150 (a : Int) (f : Int) (b : Int) (t : Int) (n : Int) m (i : Int) N') (fun i N' => (∀ c, c ≠ 128 → N' c = N c) ∧ ∀ j, N' 128 j = if 60 * b + t ≤ j ∧ j < 60 * b + t + i then N 129 (j - (60 * b + t)) else N 128 j) 0 n (by omega) ⟨fun _ _ => rfl, fun j => by rw [if_neg (by omega)]⟩ ?_ ?_ zN (zN_gt (by omega))
  · intro m i N' _ hi ⟨b1, b2⟩ kk
    show zS (lm_paste_c150 (a : Int) (f : Int) (b : Int) (t : Int) (n : Int) (m + 1) (i : Int) N') _
    rw [lm_paste_c150]
    refine zS_it (by omega) ?_
    refine zS_b (rdL_n sh_129 (by omega)) ?_
    rw [show w32 (w32 (w32 (60 * (b : Int)) + (t : Int)) + (i : Int)) = ((60 * b + t + i : Nat) : Int) by
      simp (disch := omega) only [w32_eq]
      omega, w1 (by omega)]
    refine zS_b (wrL_n sh_128 (by omega)) ?_
    refine kk _ ⟨fun c hc => (zup_c hc).trans (b1 c hc), fun j => ?_⟩
    rw [zup_a]
    by_cases e : j = 60 * b + t + i
    · rw [if_pos e, if_pos (by omega), b1 129 (by omega), show j - (60 * b + t) = i by omega]
    · rw [if_neg e, b2 j]
      by_cases e2 : 60 * b + t ≤ j ∧ j < 60 * b + t + i
      · rw [if_pos e2, if_pos (by omega)]
      · rw [if_neg e2, if_neg (by omega)]
  · intro m N' ⟨b1, b2⟩
    show zS (lm_paste_c150 (a : Int) (f : Int) (b : Int) (t : Int) (n : Int) (m + 1) (n : Int) N') _
    rw [lm_paste_c150]
    refine zS_ie (by omega) ?_
    exact zS_r ⟨rfl, b1, b2⟩
theorem lm_paste_c113_ok {a b f t n : Nat} {N : Nat → Nat → Int} (ha : a < 4) (hb : b < 4) (hf : f + n ≤ 60) (ht : t + n ≤ 60) : zS (lm_paste_c113 (a : Int) (f : Int) (b : Int) (t : Int) (n : Int) zN 0 N) (fun r => r.1 = 0 ∧ (∀ c, c ≠ 128 → c ≠ 129 → r.2 c = N c) ∧ ∀ j, r.2 128 j = if 60 * b + t ≤ j ∧ j < 60 * b + t + n then N 128 (60 * a + f + (j - (60 * b + t))) else N 128 j) := by
  refine loopI (fun m i N' => lm_paste_c113 (a : Int) (f : Int) (b : Int) (t : Int) (n : Int) m (i : Int) N') (fun i N' => (∀ c, c ≠ 129 → N' c = N c) ∧ ∀ j, j < i → N' 129 j = N 128 (60 * a + f + j)) 0 n (by omega) ⟨fun _ _ => rfl, fun j hj => by omega⟩ ?_ ?_ zN (zN_gt (by omega))
  · intro m i N' _ hi ⟨b1, b2⟩ kk
    show zS (lm_paste_c113 (a : Int) (f : Int) (b : Int) (t : Int) (n : Int) (m + 1) (i : Int) N') _
    rw [lm_paste_c113]
    refine zS_it (by omega) ?_
    rw [show w32 (w32 (w32 (60 * (a : Int)) + (f : Int)) + (i : Int)) = ((60 * a + f + i : Nat) : Int) by
      simp (disch := omega) only [w32_eq]
      omega, w1 (by omega)]
    refine zS_b (rdL_n sh_128 (by omega)) ?_
    refine zS_b (wrL_n sh_129 (by omega)) ?_
    refine kk _ ⟨fun c hc => (zup_c hc).trans (b1 c hc), fun j hj => ?_⟩
    rw [zup_a]
    by_cases e : j = i
    · rw [if_pos e, b1 128 (by omega), e]
    · rw [if_neg e]; exact b2 j (by omega)
  · intro m N' ⟨b1, b2⟩
    show zS (lm_paste_c113 (a : Int) (f : Int) (b : Int) (t : Int) (n : Int) (m + 1) (n : Int) N') _
    rw [lm_paste_c113]
    refine zS_ie (by omega) ?_
    refine zS_mono (lm_paste_c150_ok hb ht) ?_
    intro r ⟨s0, s1, s2⟩
    refine ⟨s0, fun c c1 c2 => (s1 c c1).trans (b1 c c2), fun j => ?_⟩
    rw [s2 j]
    by_cases e2 : 60 * b + t ≤ j ∧ j < 60 * b + t + n
    · rw [if_pos e2, if_pos e2, b2 _ (by omega)]
    · rw [if_neg e2, if_neg e2, b1 128 (by omega)]
theorem q_paste (h : zInv W M) (hy : -2147483648 ≤ y ∧ y ≤ 2147483647) (hu : -2147483648 ≤ u ∧ u ≤ 2147483647) (hv : -2147483648 ≤ v ∧ v ≤ 2147483647) : zQ4 (lX_paste x y z u v) (lm_paste x y z u v) M := by
  show zS (lX_paste x y z u v M) (fun r => zS (lm_paste x y z u v r.2) (fun s => s.1 = r.1 ∧ ∃ W', zInv W' s.2))
  unfold lX_paste
  refine zG_m xSlot (fun c1 => zG_m xSlot (fun c2 => ?_) (fun c => ?_)) (fun c => ?_)
  · obtain ⟨a, rfl⟩ : ∃ p : Nat, x = (p : Int) := ⟨x.toNat, by omega⟩
    obtain ⟨b, rfl⟩ : ∃ p : Nat, z = (p : Int) := ⟨z.toNat, by omega⟩
    have ha : a < 4 := by omega
    have hb : b < 4 := by omega
    obtain ⟨f1, f2⟩ := rFull h ha
    obtain ⟨g1, g2⟩ := rFull h hb
    refine zG_m (xFill ha) (fun c3 => zG_m (xFill hb) (fun c4 => ?_) (fun c4 => ?_)) (fun c3 => ?_)
    · have n3 : M 126 a ≠ -1 := fun q => c3 (f1.mpr q)
      have n4 : M 126 b ≠ -1 := fun q => c4 (g1.mpr q)
      obtain ⟨p1, p2, p3, p4, p5, p6, p7⟩ := f2 n3
      obtain ⟨q1, q2, q3, q4, q5, q6, q7⟩ := g2 n4
      refine zS_b (rdI_n sh_98 ha) ?_
      refine zS_b (rdI_n sh_98 hb) ?_
      by_cases c5 : M 98 a = M 98 b
      · rw [if_pos c5]
        have hbad : ¬ ((0 ≤ y ∧ 0 ≤ v ∧ y + v ≤ M 99 a) ∧ (0 ≤ u ∧ 0 ≤ v ∧ u + v ≤ M 99 b)) → zS (lm_paste (a : Int) y (b : Int) u v M) (fun s => s.1 = -7 ∧ ∃ W', zInv W' s.2) := fun hbd => by
          unfold lm_paste
          refine zG_m mSlot (fun _ => zG_m mSlot (fun _ => ?_) (fun q => absurd c2 q)) (fun q => absurd c1 q)
          refine zS_b (rdI_n sh_126 ha) ?_
          rw [if_neg n3]
          refine zS_b (rdI_n sh_126 hb) ?_
          rw [if_neg n4]
          refine zS_b (rdI_n sh_127 ha) ?_
          refine zS_b (rdI_n sh_127 hb) ?_
          rw [p3, q3, if_pos c5]
          refine zS_if (fun _ => zS_r ⟨rfl, W, h⟩) (fun d1 => ?_)
          refine zS_if (fun _ => zS_r ⟨rfl, W, h⟩) (fun d2 => ?_)
          refine zS_if (fun _ => zS_r ⟨rfl, W, h⟩) (fun d3 => ?_)
          refine zS_b (rdI_n sh_126 ha) ?_
          rw [w64_eq (by omega) (by omega)]
          refine zS_if (fun _ => zS_r ⟨rfl, W, h⟩) (fun d4 => ?_)
          refine zS_b (rdI_n sh_126 hb) ?_
          rw [w64_eq (by omega) (by omega)]
          refine zS_it (by omega) ?_
          exact zS_r ⟨rfl, W, h⟩
        refine zG_m (lW_holds_eq ha (by omega) hv.2) (fun c6 => zG_m (lW_holds_eq hb (by omega) hv.2) (fun c7 => ?_) (fun c => hbad (fun q => c q.2))) (fun c => hbad (fun q => c q.1))
        clear hbad
        obtain ⟨f, rfl⟩ : ∃ p : Nat, y = (p : Int) := ⟨y.toNat, by omega⟩
        obtain ⟨t, rfl⟩ : ∃ p : Nat, u = (p : Int) := ⟨u.toNat, by omega⟩
        obtain ⟨n, rfl⟩ : ∃ p : Nat, v = (p : Int) := ⟨v.toNat, by omega⟩
        have hf : f + n ≤ 60 := by omega
        have ht : t + n ≤ 60 := by omega
        refine zS_b (rdA_100 ha) ?_
        refine zS_b (rdA_100 hb) ?_
        refine zS_b (cpA_n (sh_row ha) (sh_row hb) (Or.inr rfl) hf ht) ?_
        refine zS_r ?_
        show zS (lm_paste (a : Int) (f : Int) (b : Int) (t : Int) (n : Int) (zcpy M (101 + a) f (101 + b) t n)) (fun s => s.1 = 0 ∧ _)
        have m0 : ∀ c, c ≠ 101 + b → zcpy M (101 + a) f (101 + b) t n c = M c := fun c hc => zcpy_c hc
        have m1 : ∀ j, zcpy M (101 + a) f (101 + b) t n (101 + b) j = if t ≤ j ∧ j < t + n then M (101 + a) (f + (j - t)) else M (101 + b) j := fun j => zcpy_b
        generalize zcpy M (101 + a) f (101 + b) t n = N at m0 m1 ⊢
        unfold lm_paste
        refine zG_m mSlot (fun _ => zG_m mSlot (fun _ => ?_) (fun q => absurd c2 q)) (fun q => absurd c1 q)
        refine zS_b (rdI_n sh_126 ha) ?_
        rw [m0 126 (by omega), if_neg n3]
        refine zS_b (rdI_n sh_126 hb) ?_
        rw [m0 126 (by omega), if_neg n4]
        refine zS_b (rdI_n sh_127 ha) ?_
        refine zS_b (rdI_n sh_127 hb) ?_
        rw [m0 127 (by omega), p3, q3, if_pos c5]
        refine zS_ie (by omega) ?_
        refine zS_ie (by omega) ?_
        refine zS_ie (by omega) ?_
        refine zS_b (rdI_n sh_126 ha) ?_
        rw [m0 126 (by omega), w64_eq (by omega) (by omega)]
        refine zS_ie (by omega) ?_
        refine zS_b (rdI_n sh_126 hb) ?_
        rw [m0 126 (by omega), w64_eq (by omega) (by omega)]
        refine zS_ie (by omega) ?_
        refine zS_mono (lm_paste_c113_ok ha hb hf ht) ?_
        intro r ⟨s0, s1, s2⟩
        have hr : ∀ c, c ≠ 128 → c ≠ 129 → c ≠ 101 + b → r.2 c = M c := fun c d1 d2 d3 => (s1 c d1 d2).trans (m0 c d3)
        refine ⟨s0, W, zInv_rw h (fun k hk => ?_) (fun c hc => hr c (by omega) (by omega) (by omega))⟩
        show zR1 k r.2
        by_cases e : k = b
        · subst e
          right
          rw [hr 98 (by omega) (by omega) (by omega), hr 99 (by omega) (by omega) (by omega), hr 126 (by omega) (by omega) (by omega), hr 127 (by omega) (by omega) (by omega)]
          refine ⟨q1, q2, q3, q4, q5, q6, fun j hj => ?_⟩
          rw [s1 (101 + k) (by omega) (by omega), m1, s2, m0 128 (by omega)]
          by_cases ej : t ≤ j ∧ j < t + n
          · rw [if_pos ej, if_pos (by omega), show 60 * a + f + (60 * k + j - (60 * k + t)) = 60 * a + (f + (j - t)) by omega]
            exact p7 _ (by omega)
          · rw [if_neg ej, if_neg (by omega)]
            exact q7 j hj
        · refine zR1_cg (M := M) (h.2.2.2.2.2.2.1 k hk) ?_ ?_ ?_ ?_ (fun j hj => ?_) (fun j hj => ?_)
          · rw [hr 98 (by omega) (by omega) (by omega)]
          · rw [hr 126 (by omega) (by omega) (by omega)]
          · rw [hr 127 (by omega) (by omega) (by omega)]
          · rw [hr 99 (by omega) (by omega) (by omega)]
          · rw [hr (101 + k) (by omega) (by omega) (by omega)]
          · rw [s2, if_neg (by omega), m0 128 (by omega)]
      · rw [if_neg c5]
        refine zS_r ?_
        show zS (lm_paste (a : Int) y (b : Int) u v M) (fun s => s.1 = -8 ∧ _)
        unfold lm_paste
        refine zG_m mSlot (fun _ => zG_m mSlot (fun _ => ?_) (fun q => absurd c2 q)) (fun q => absurd c1 q)
        refine zS_b (rdI_n sh_126 ha) ?_
        rw [if_neg n3]
        refine zS_b (rdI_n sh_126 hb) ?_
        rw [if_neg n4]
        refine zS_b (rdI_n sh_127 ha) ?_
        refine zS_b (rdI_n sh_127 hb) ?_
        rw [p3, q3, if_neg c5]
        exact zS_r ⟨rfl, W, h⟩
    · have n3 : M 126 a ≠ -1 := fun q => c3 (f1.mpr q)
      have n4 : M 126 b = -1 := by
        by_cases q : M 98 b = -1
        · exact g1.mp q
        · exact absurd q c4
      show zS (lm_paste (a : Int) y (b : Int) u v M) (fun s => s.1 = -6 ∧ _)
      unfold lm_paste
      refine zG_m mSlot (fun _ => zG_m mSlot (fun _ => ?_) (fun q => absurd c2 q)) (fun q => absurd c1 q)
      refine zS_b (rdI_n sh_126 ha) ?_
      rw [if_neg n3]
      refine zS_b (rdI_n sh_126 hb) ?_
      rw [if_pos n4]
      exact zS_r ⟨rfl, W, h⟩
    · have n3 : M 126 a = -1 := by
        by_cases q : M 98 a = -1
        · exact f1.mp q
        · exact absurd q c3
      show zS (lm_paste (a : Int) y (b : Int) u v M) (fun s => s.1 = -6 ∧ _)
      unfold lm_paste
      refine zG_m mSlot (fun _ => zG_m mSlot (fun _ => ?_) (fun q => absurd c2 q)) (fun q => absurd c1 q)
      refine zS_b (rdI_n sh_126 ha) ?_
      rw [if_pos n3]
      exact zS_r ⟨rfl, W, h⟩
  · show zS (lm_paste x y z u v M) (fun s => s.1 = -2 ∧ _)
    unfold lm_paste
    exact zG_m mSlot (fun _ => zG_m mSlot (fun q => absurd q c) (fun _ => ⟨rfl, W, h⟩)) (fun _ => ⟨rfl, W, h⟩)
  · show zS (lm_paste x y z u v M) (fun s => s.1 = -2 ∧ _)
    unfold lm_paste
    exact zG_m mSlot (fun q => absurd q c) (fun _ => ⟨rfl, W, h⟩)
end ZPA
