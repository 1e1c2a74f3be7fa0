/-! The loop of the law (written by wip/whole/gencase.py). -/
section ZLO
variable {W : Nat → Int} {M : Nat → Nat → Int} {sc : zSc} {h18 : Int → (Nat → Nat → Int) → Option (Int × (Nat → Nat → Int))} {y3 : Int}
theorem zcase_state (hst : ∀ W M, zInv W M → zQ4 lX_state lm_state M) (h : zInv W M) (hk : zHrest h18 y3) : zS (lQ_law_c406 sc h18 y3 M) (fun r => r.1 = 1) := by
  have q := hst W M h
  unfold lQ_law_c406
  refine zS_m q (fun v hv => ?_)
  refine zS_m hv (fun s hs => ?_)
  obtain ⟨s1, W2, s2⟩ := hs
  rw [s1, if_pos rfl]
  exact hk W2 _ s2
theorem zlaw_loop (hst : ∀ W M, zInv W M → zQ4 lX_state lm_state M) {L : Nat} {X : Nat → Int} (hL : L ≤ 3072) (hX : ∀ i, -2147483648 ≤ X i ∧ X i ≤ 2147483647) : ∀ (n y : Nat) (W : Nat → Int) (M : Nat → Nat → Int), zInv W M → y ≤ L → L < y + 6 * n → zS (lQ_law_c18 (L + 1, X) n (y : Int) M) (fun r => r.1 = 1) := by
  intro n
  induction n with
  | zero => intro y W M _ h1 h2; omega
  | succ n ih =>
    intro y W M h h1 h2
    rw [lQ_law_c18]
    have hl : lnX (L + 1, X) = some (L : Int) := by
      unfold lnX
      rw [if_pos (show 0 < L + 1 by omega)]
      show some (w32 ((L + 1 - 1 : Nat) : Int)) = _
      rw [w32_eq (by omega) (by omega)]
      rfl
    refine zS_b hl ?_
    rw [w32_eq (by omega) (by omega)]
    refine zS_if (fun _ => zS_r rfl) (fun c => ?_)
    have hrd : ∀ i : Nat, i < L → rdX (L + 1, X) (i : Int) = some (X i) := fun i hi => by
      unfold rdX
      rw [if_pos (show 0 ≤ (i : Int) ∧ (i : Int) + 1 < ((L + 1 : Nat) : Int) by omega)]
      rfl
    refine zS_b (hrd y (by omega)) ?_
    have hr : zHreads (L + 1, X) (y : Int) := fun k k1 k2 => by
      refine ⟨X (y + k), ?_, hX _⟩
      rw [show w32 ((y : Int) + (k : Int)) = ((y + k : Nat) : Int) by rw [w32_eq (by omega) (by omega)]; omega]
      exact hrd _ (by omega)
    have hk : zHrest (lQ_law_c18 (L + 1, X) n) (y : Int) := fun W M h => by
      rw [show w32 ((y : Int) + 6) = ((y + 6 : Nat) : Int) by rw [w32_eq (by omega) (by omega)]; omega]
      exact ih (y + 6) W M h (by omega) (by omega)
    refine zS_if (fun _ => zcase_feed h hr hk) (fun _ => ?_)
    refine zS_if (fun _ => zcase_end h hr hk) (fun _ => ?_)
    refine zS_if (fun _ => zcase_state hst h hk) (fun _ => ?_)
    refine zS_if (fun _ => zcase_fault h hr hk) (fun _ => ?_)
    refine zS_if (fun _ => zcase_street h hr hk) (fun _ => ?_)
    refine zS_if (fun _ => zcase_well h hr hk) (fun _ => ?_)
    refine zS_if (fun _ => zcase_name h hr hk) (fun _ => ?_)
    refine zS_if (fun _ => zcase_walk h hr hk) (fun _ => ?_)
    refine zS_if (fun _ => zcase_contract h hr hk) (fun _ => ?_)
    refine zS_if (fun _ => zcase_at h hr hk) (fun _ => ?_)
    refine zS_if (fun _ => zcase_ink h hr hk) (fun _ => ?_)
    refine zS_if (fun _ => zcase_awake h hr hk) (fun _ => ?_)
    refine zS_if (fun _ => zcase_here h hr hk) (fun _ => ?_)
    refine zS_if (fun _ => zcase_sleeps h hr hk) (fun _ => ?_)
    refine zS_if (fun _ => zcase_goes h hr hk) (fun _ => ?_)
    refine zS_if (fun _ => zcase_stuck h hr hk) (fun _ => ?_)
    refine zS_if (fun _ => zcase_sees h hr hk) (fun _ => ?_)
    refine zS_if (fun _ => zcase_drinks h hr hk) (fun _ => ?_)
    refine zS_if (fun _ => zcase_signed h hr hk) (fun _ => ?_)
    refine zS_if (fun _ => zcase_where h hr hk) (fun _ => ?_)
    refine zS_if (fun _ => zcase_signs h hr hk) (fun _ => ?_)
    refine zS_if (fun _ => zcase_deeds h hr hk) (fun _ => ?_)
    refine zS_if (fun _ => zcase_meets h hr hk) (fun _ => ?_)
    refine zS_if (fun _ => zcase_often h hr hk) (fun _ => ?_)
    refine zS_if (fun _ => zcase_pack h hr hk) (fun _ => ?_)
    refine zS_if (fun _ => zcase_busy h hr hk) (fun _ => ?_)
    refine zS_if (fun _ => zcase_lone h hr hk) (fun _ => ?_)
    refine zS_if (fun _ => zcase_total h hr hk) (fun _ => ?_)
    refine zS_if (fun _ => zcase_first h hr hk) (fun _ => ?_)
    refine zS_if (fun _ => zcase_lies h hr hk) (fun _ => ?_)
    refine zS_if (fun _ => zcase_thirst h hr hk) (fun _ => ?_)
    refine zS_if (fun _ => zcase_way h hr hk) (fun _ => ?_)
    refine zS_if (fun _ => zcase_reach h hr hk) (fun _ => ?_)
    refine zS_if (fun _ => zcase_soon h hr hk) (fun _ => ?_)
    refine zS_if (fun _ => zcase_gather h hr hk) (fun _ => ?_)
    refine zS_if (fun _ => zcase_hall h hr hk) (fun _ => ?_)
    refine zS_if (fun _ => zcase_cut h hr hk) (fun _ => ?_)
    refine zS_if (fun _ => zcase_cuts h hr hk) (fun _ => ?_)
    refine zS_if (fun _ => zcase_by h hr hk) (fun _ => ?_)
    refine zS_if (fun _ => zcase_law h hr hk) (fun _ => ?_)
    refine zS_if (fun _ => zcase_needs h hr hk) (fun _ => ?_)
    refine zS_if (fun _ => zcase_lives h hr hk) (fun _ => ?_)
    refine zS_if (fun _ => zcase_dig h hr hk) (fun _ => ?_)
    refine zS_if (fun _ => zcase_shut h hr hk) (fun _ => ?_)
    refine zS_if (fun _ => zcase_homes h hr hk) (fun _ => ?_)
    refine zS_if (fun _ => zcase_ask h hr hk) (fun _ => ?_)
    refine zS_if (fun _ => zcase_leaves h hr hk) (fun _ => ?_)
    refine zS_if (fun _ => zcase_sniffs h hr hk) (fun _ => ?_)
    refine zS_if (fun _ => zcase_next h hr hk) (fun _ => ?_)
    refine zS_if (fun _ => zcase_worth h hr hk) (fun _ => ?_)
    refine zS_if (fun _ => zcase_share h hr hk) (fun _ => ?_)
    refine zS_if (fun _ => zcase_rests h hr hk) (fun _ => ?_)
    refine zS_if (fun _ => zcase_gets h hr hk) (fun _ => ?_)
    refine zS_if (fun _ => zcase_chance h hr hk) (fun _ => ?_)
    refine zS_if (fun _ => zcase_mean h hr hk) (fun _ => ?_)
    refine zS_if (fun _ => zcase_send h hr hk) (fun _ => ?_)
    refine zS_if (fun _ => zcase_close h hr hk) (fun _ => ?_)
    refine zS_if (fun _ => zcase_undo h hr hk) (fun _ => ?_)
    refine zS_if (fun _ => zcase_anew h hr hk) (fun _ => ?_)
    refine zS_if (fun _ => zcase_drawn h hr hk) (fun _ => ?_)
    refine zS_if (fun _ => zcase_luck h hr hk) (fun _ => ?_)
    refine zS_if (fun _ => zcase_rate h hr hk) (fun _ => ?_)
    refine zS_if (fun _ => zcase_count h hr hk) (fun _ => ?_)
    refine zS_if (fun _ => zcase_image h hr hk) (fun _ => ?_)
    refine zS_if (fun _ => zcase_back h hr hk) (fun _ => ?_)
    refine zS_if (fun _ => zcase_row h hr hk) (fun _ => ?_)
    refine zS_if (fun _ => zcase_write h hr hk) (fun _ => ?_)
    refine zS_if (fun _ => zcase_paste h hr hk) (fun _ => ?_)
    exact hk W M h
end ZLO
