/-! write, paste. -/
def zcv (w z : Int) : Int := if w = 0 then zi2b (w32 z) else if w = 1 then zi2s (w32 z) else if w = 2 then w32 z else z
theorem zcv_b {w z : Int} (h0 : -9223372036854775808 ≤ z) (h1 : z ≤ 9223372036854775807) : -9223372036854775808 ≤ zcv w z ∧ zcv w z ≤ 9223372036854775807 := by
  unfold zcv
  simp only [zi2b_b, zi2s_b, w32_b, Int.bmod_def]
  by_cases c0 : w = 0
  · rw [if_pos c0]; omega
  rw [if_neg c0]
  by_cases c1 : w = 1
  · rw [if_pos c1]; omega
  rw [if_neg c1]
  by_cases c2 : w = 2
  · rw [if_pos c2]; omega
  rw [if_neg c2]
  omega
theorem lW_cutTo_eq {w z : Int} {M : Nat → Nat → Int} : lW_cutTo w z M = some (zcv w z) := by
  unfold lW_cutTo zcv
  by_cases c0 : w = 0
  · rw [if_pos c0, if_pos c0]
  rw [if_neg c0, if_neg c0]
  by_cases c1 : w = 1
  · rw [if_pos c1, if_pos c1]
  rw [if_neg c1, if_neg c1]
  by_cases c2 : w = 2
  · rw [if_pos c2, if_pos c2]
  rw [if_neg c2, if_neg c2]
theorem lm_cut_317_eq {w z : Int} {M : Nat → Nat → Int} (hw : 0 ≤ w ∧ w ≤ 3) (h0 : -9223372036854775808 ≤ z) (h1 : z ≤ 9223372036854775807) : lm_cut_317 z w M = some (zcv w z) := by
  unfold lm_cut_317 zcv
  have h : w = 0 ∨ w = 1 ∨ w = 2 ∨ w = 3 := by omega
  rcases h with rfl | rfl | rfl | rfl
  · rw [show w32 (64 - zshl 8 0) = 56 by decide, zcut_0, if_pos rfl]
  · rw [show w32 (64 - zshl 8 1) = 48 by decide, zcut_1, if_neg (by decide), if_pos rfl]
  · rw [show w32 (64 - zshl 8 2) = 32 by decide, zcut_2, if_neg (by decide), if_neg (by decide), if_pos rfl]
  · rw [show w32 (64 - zshl 8 3) = 0 by decide, zcut_3 h0 h1, if_neg (by decide), if_neg (by decide), if_neg (by decide)]
section ZWR
variable {W : Nat → Int} {M : Nat → Nat → Int} {x y z u v : Int}
theorem rFull (h : zInv W M) {s : Nat} (hs : s < 4) : (M 98 s = -1 ↔ M 126 s = -1) ∧ (M 126 s ≠ -1 → 0 ≤ M 98 s ∧ M 98 s ≤ 3 ∧ M 127 s = M 98 s ∧ 0 ≤ M 126 s ∧ M 126 s ≤ 60 ∧ M 99 s = M 126 s ∧ ∀ i, i < 60 → M (101 + s) i = M 128 (60 * s + i) ∧ -9223372036854775808 ≤ M (101 + s) i ∧ M (101 + s) i ≤ 9223372036854775807) := by
  rcases h.2.2.2.2.2.2.1 s hs with ⟨a, b⟩ | h1
  · exact ⟨⟨fun _ => b, fun _ => a⟩, fun c => absurd b c⟩
  · exact ⟨⟨fun q => by omega, fun q => by omega⟩, fun _ => h1⟩
theorem q_write (h : zInv W M) (h0 : -9223372036854775808 ≤ z) (h1 : z ≤ 9223372036854775807) : zQ4 (lX_write x y z) (lm_write x y z) M := by
  show zS (lX_write x y z M) (fun r => zS (lm_write x y z r.2) (fun s => s.1 = r.1 ∧ ∃ W', zInv W' s.2))
  unfold lX_write
  refine zG_m xSlot (fun c1 => ?_) (fun c => ?_)
  · obtain ⟨s, rfl⟩ : ∃ p : Nat, x = (p : Int) := ⟨x.toNat, by omega⟩
    have hs : s < 4 := by omega
    obtain ⟨f1, f2⟩ := rFull h hs
    refine zG_m (xFill hs) (fun c2 => ?_) (fun c2 => ?_)
    · have c3 : M 126 s ≠ -1 := fun q => c2 (f1.mpr q)
      obtain ⟨g1, g2, g3, g4, g5, g6, g7⟩ := f2 c3
      have ein : w32 (M 126 s - 1) = M 126 s - 1 := w32_eq (by omega) (by omega)
      have hbad : ¬ (0 ≤ y ∧ y ≤ M 126 s - 1) → zS (lm_write (s : Int) y z M) (fun s => s.1 = -7 ∧ ∃ W', zInv W' s.2) := fun hb => by
        unfold lm_write
        refine zG_m mSlot (fun _ => ?_) (fun q => absurd c1 q)
        refine zS_b (rdI_n sh_126 hs) ?_
        rw [if_neg c3]
        refine zS_b (rdI_n sh_126 hs) ?_
        rw [ein]
        exact zG_m lm_in_eq (fun c => absurd c hb) (fun _ => ⟨rfl, W, h⟩)
      refine zS_if (fun q => zS_r (hbad (by omega))) (fun q1 => ?_)
      refine zS_b (rdI_n sh_99 hs) ?_
      rw [g6]
      refine zS_if (fun q2 => ?_) (fun q => zS_r (hbad (by omega)))
      clear hbad
      obtain ⟨i, rfl⟩ : ∃ p : Nat, y = (p : Int) := ⟨y.toNat, by omega⟩
      refine zS_b (rdA_100 hs) ?_
      refine zS_b (rdI_n sh_98 hs) ?_
      refine zS_b lW_cutTo_eq ?_
      refine zS_b (wrL_n (sh_row hs) (by omega)) ?_
      refine zS_r ?_
      have hb := zcv_b (w := M 98 s) h0 h1
      have hc : ∀ N : Nat → Nat → Int, lm_cut_317 z (M 98 s) N = some (zcv (M 98 s) z) := fun N => lm_cut_317_eq ⟨g1, g2⟩ h0 h1
      generalize zcv (M 98 s) z = V at hb hc ⊢
      show zS (lm_write (s : Int) (i : Int) z (zup M (101 + s) i V)) (fun s => s.1 = 0 ∧ _)
      have m0 : ∀ c, c ≠ 101 + s → zup M (101 + s) i V c = M c := fun c hc => zup_c hc
      have m1 : ∀ j, zup M (101 + s) i V (101 + s) j = if j = i then V else M (101 + s) j := fun j => zup_a
      generalize zup M (101 + s) i V = N at m0 m1 ⊢
      unfold lm_write
      refine zG_m mSlot (fun _ => ?_) (fun q => absurd c1 q)
      refine zS_b (rdI_n sh_126 hs) ?_
      rw [m0 126 (by omega), if_neg c3]
      refine zS_b (rdI_n sh_126 hs) ?_
      rw [m0 126 (by omega), ein]
      refine zG_m lm_in_eq (fun _ => ?_) (fun q => absurd (⟨by omega, by omega⟩ : (0 : Int) ≤ (i : Int) ∧ (i : Int) ≤ M 126 s - 1) q)
      refine zS_b (rdI_n sh_127 hs) ?_
      rw [m0 127 (by omega), g3]
      refine zS_b (hc N) ?_
      rw [w60 (by omega) (by omega)]
      refine zS_b (wrL_n sh_128 (by omega)) ?_
      have k0 : ∀ c, c ≠ 128 → zup N 128 (60 * s + i) V c = N c := fun c hc => zup_c hc
      have k1 : ∀ j, zup N 128 (60 * s + i) V 128 j = if j = 60 * s + i then V else M 128 j := fun j => by rw [zup_a, m0 128 (by omega)]
      generalize zup N 128 (60 * s + i) V = N2 at k0 k1 ⊢
      refine zS_r ⟨rfl, W, zInv_rw h (fun t ht => ?_) (fun c hc => by show N2 c = M c; rw [k0 c (by omega), m0 c (by omega)])⟩
      show zR1 t N2
      by_cases e : t = s
      · subst e
        right
        rw [k0 98 (by omega), m0 98 (by omega), k0 126 (by omega), m0 126 (by omega), k0 127 (by omega), m0 127 (by omega), k0 99 (by omega), m0 99 (by omega)]
        refine ⟨g1, g2, g3, g4, g5, g6, fun j hj => ?_⟩
        rw [k0 (101 + t) (by omega), m1, k1]
        by_cases ej : j = i
        · rw [if_pos ej, if_pos (by omega)]; exact ⟨rfl, hb⟩
        · rw [if_neg ej, if_neg (by omega)]; exact g7 j hj
      · refine zR1_cg (M := M) (h.2.2.2.2.2.2.1 t ht) ?_ ?_ ?_ ?_ (fun j hj => ?_) (fun j hj => ?_)
        · rw [k0 98 (by omega), m0 98 (by omega)]
        · rw [k0 126 (by omega), m0 126 (by omega)]
        · rw [k0 127 (by omega), m0 127 (by omega)]
        · rw [k0 99 (by omega), m0 99 (by omega)]
        · rw [k0 (101 + t) (by omega), m0 (101 + t) (by omega)]
        · rw [k1, if_neg (by omega)]
    · have c3 : M 126 s = -1 := by
        by_cases q : M 98 s = -1
        · exact f1.mp q
        · exact absurd q c2
      show zS (lm_write (s : Int) y z M) (fun s => s.1 = -6 ∧ _)
      unfold lm_write
      refine zG_m mSlot (fun _ => ?_) (fun q => absurd c1 q)
      refine zS_b (rdI_n sh_126 hs) ?_
      rw [if_pos c3]
      exact zS_r ⟨rfl, W, h⟩
  · show zS (lm_write x y z M) (fun s => s.1 = -2 ∧ _)
    unfold lm_write
    exact zG_m mSlot (fun q => absurd q c) (fun _ => ⟨rfl, W, h⟩)
end ZWR
