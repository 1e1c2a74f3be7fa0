/-! close, undo, anew, rate. -/
section ZUN
variable {W : Nat → Int} {M : Nat → Nat → Int} {x y : Int}
theorem q_close (h : zInv W M) : zQ4 (lX_close x y) (lm_close x y) M := by
  have hw := h.2.1
  obtain ⟨u0, u1, _, _, u4, _, u6, u7, u8, u9, u90, _⟩ := h.2.1
  have e0 : M 23 0 = W 8 := h.2.2.2.1.1
  have hcl : zset 12 (M 23 1) (wcls W) := h.2.2.2.1.2.1
  have hbad : ¬ ((0 ≤ x ∧ x < W 4) ∧ (0 ≤ y ∧ y ≤ 1)) → zS (lm_close x y M) (fun s => s.1 = -2 ∧ ∃ W', zInv W' s.2) := fun hb => by
    unfold lm_close
    refine zG_m (mStreet hw h.1) (fun c1 => zG_m lm_in_eq (fun c2 => absurd ⟨c1, c2⟩ hb) (fun _ => ⟨rfl, W, h⟩)) (fun _ => ⟨rfl, W, h⟩)
  show zS (lX_close x y M) (fun r => zS (lm_close x y r.2) (fun s => s.1 = r.1 ∧ ∃ W', zInv W' s.2))
  unfold lX_close
  refine zG_m (xStreet h) (fun c1 => ?_) (fun c => hbad (fun q => c q.1))
  refine zS_if (fun q => zS_r (hbad (fun p => by omega))) (fun q1 => ?_)
  refine zS_if (fun q => zS_r (hbad (fun p => by omega))) (fun q2 => ?_)
  obtain ⟨k, rfl⟩ : ∃ p : Nat, x = (p : Int) := ⟨x.toNat, by omega⟩
  obtain ⟨o, rfl⟩ : ∃ p : Nat, y = (p : Int) := ⟨y.toNat, by omega⟩
  have ev : w32 (w32 (2 * (k : Int)) + (o : Int)) = ((2 * k + o : Nat) : Int) := by
    simp (disch := omega) only [w32_eq]
    omega
  rw [e0]
  have hbit : ∀ (z : Int) (N : Nat → Nat → Int), zset 12 z (wcls W) → lm_bit z (k : Int) N = some (if wcls W k = true then 1 else 0) := fun z N hz => by
    unfold lm_bit
    rw [zset_bit hz (by omega) (by omega)]
  by_cases c4 : W 8 < 30
  · rw [if_pos c4]
    have hNa : zNa W 1 (k : Int) (o : Int) 0 ((2 * k + o : Nat) : Int) := Or.inr ⟨rfl, k, o, by omega, by omega, rfl, rfl, rfl⟩
    have hw' := wadd_ok hw c4 (by omega) hNa
    refine zS_m (lA_add_ok rfl hw c4 h.2.2.2.1 hNa) ?_
    intro M1 ⟨a1, a2⟩
    have hk : ∀ N : Nat → Nat → Int, N 107 = W → zS (lm_keepAct (w32 (w32 (2 * (k : Int)) + (o : Int))) N) (fun r => r.1 = 0 ∧ r.2 107 = wadd W ((2 * k + o : Nat) : Int) ∧ ∀ c, c ≠ 107 → r.2 c = N c) := fun N hN => by
      rw [ev]
      exact lm_keepAct_ok hN (by omega)
    have he : ∀ i, i ≠ 8 → i < 108 → wadd W ((2 * k + o : Nat) : Int) i = W i := fun i h1 h2 => wadd_n h1 (by omega)
    generalize wadd W ((2 * k + o : Nat) : Int) = W' at hw' a1 hk he ⊢
    refine zS_m (zMid_settle h hw' he a1 a2) ?_
    intro M2 hm
    refine zS_r ?_
    show zS (lm_close (k : Int) (o : Int) M2) (fun s => s.1 = zand (zshr (M 23 1) (k : Int)) 1 ∧ _)
    rw [zset_bit hcl (by omega) (by omega)]
    unfold lm_close
    refine zG_m (mStreet hw hm.1) (fun _ => zG_m lm_in_eq (fun _ => ?_) (fun q => absurd (⟨by omega, by omega⟩ : (0 : Int) ≤ (o : Int) ∧ (o : Int) ≤ 1) q)) (fun q => absurd c1 q)
    refine zS_m (lm_asItIs_ok hw hm.1) ?_
    intro M3 ha
    have hm3 := zMid_keep hm (zAs_keep ha)
    refine zS_b (hbit _ _ ha.2.1) ?_
    refine zS_m (hk M3 hm3.1) ?_
    intro r ⟨r1, r2, r3⟩
    rw [r1, if_neg (by omega)]
    exact zS_r ⟨rfl, W', zMid_inv hm3 r2 r3⟩
  · rw [if_neg c4]
    refine zS_r ?_
    show zS (lm_close (k : Int) (o : Int) M) (fun s => s.1 = -5 ∧ _)
    unfold lm_close
    refine zG_m (mStreet hw h.1) (fun _ => zG_m lm_in_eq (fun _ => ?_) (fun q => absurd (⟨by omega, by omega⟩ : (0 : Int) ≤ (o : Int) ∧ (o : Int) ≤ 1) q)) (fun q => absurd c1 q)
    refine zS_m (lm_asItIs_ok hw h.1) ?_
    intro M3 ha
    have h3 := zInv_keep h (zAs_keep ha)
    refine zS_b (hbit _ _ ha.2.1) ?_
    refine zS_b (lm_keepAct_no h3.1 (by omega)) ?_
    rw [if_pos (show (-5 : Int) < 0 by decide)]
    exact zS_r ⟨rfl, W, h3⟩
theorem zMid_few {n : Nat} (h : zInv W M) (hn : (n : Int) ≤ W 8) {M1 : Nat → Nat → Int} (a1 : zActs 23 M1 (wfew W n)) (a2 : ∀ c, c < 23 ∨ 23 + 5 < c → M1 c = M c) : zS (lX_settle M1) (fun M2 => zMid W (wfew W n) M2 ∧ M2 23 0 = (n : Int)) := by
  refine zS_mono (zMid_settle h (wfew_ok h.2.1 hn) (fun i h1 _ => wfew_n h1) a1 a2) ?_
  intro M2 hm
  refine ⟨hm, ?_⟩
  have e : M2 23 0 = wfew W n 8 := hm.2.2.2.2.1.1
  rw [e, wfew_8]
theorem wr8_ok {n : Nat} {M : Nat → Nat → Int} (hM : M 107 = W) : wrI 107 8 (n : Int) M = some (zup M 107 8 (n : Int)) ∧ zup M 107 8 (n : Int) 107 = wfew W n ∧ ∀ c, c ≠ 107 → zup M 107 8 (n : Int) c = M c := by
  refine ⟨wrI_n (i := 8) sh_107 (by omega), ?_, fun c hc => zup_c hc⟩
  rw [zup_w, hM]
  rfl
theorem q_undo (h : zInv W M) : zQ4 lX_undo lm_undo M := by
  have hw := h.2.1
  have u8 := h.2.1.2.2.2.2.2.2.2.2.1
  have hA := h.2.2.2.1.2.2.1
  have e0 : M 23 0 = W 8 := h.2.2.2.1.1
  have hst : ∀ N : Nat → Nat → Int, N 107 = W → lm_isState N = some (zbo (0 < W 9)) := fun N hN => by rw [lm_isState_eq, hN]
  have hrd : ∀ N : Nat → Nat → Int, N 107 = W → rdI 107 8 N = some (W 8) := fun N hN => by
    rw [w107 (by omega) (by omega), hN]
    rfl
  show zS (lX_undo M) (fun r => zS (lm_undo r.2) (fun s => s.1 = r.1 ∧ ∃ W', zInv W' s.2))
  unfold lX_undo
  refine zG_m (xThere h) (fun c1 => ?_) (fun c => ?_)
  · rw [e0]
    by_cases c2 : W 8 = 0
    · rw [if_pos c2]
      refine zS_r ?_
      show zS (lm_undo M) (fun s => s.1 = -5 ∧ _)
      unfold lm_undo
      refine zG_m (hst M h.1) (fun _ => ?_) (fun q => absurd c1 q)
      refine zS_b (hrd M h.1) ?_
      rw [if_pos c2]
      exact zS_r ⟨rfl, W, h⟩
    · rw [if_neg c2]
      obtain ⟨n, hn⟩ : ∃ n : Nat, W 8 = ((n + 1 : Nat) : Int) := ⟨(W 8).toNat - 1, by omega⟩
      have e1 : w32 (((n + 1 : Nat) : Int) - 1) = (n : Int) := by rw [w32_eq (by omega) (by omega)]; omega
      have hrl : zS (lA_removeLast 23 M) (fun M' => zActs 23 M' (wfew W n) ∧ (∀ c, c < 23 ∨ 23 + 5 < c → M' c = M c)) := by
        unfold lA_removeLast
        rw [if_pos (show zis 0 23 = true from rfl), e0, hn, if_pos (by omega), e1]
        refine zS_b rfl ?_
        refine zS_m (zfew_ok (n := n) (M := zup M 23 0 (n : Int)) rfl hw (by omega) zup_s (fun i hi => zAct_cg1 (hA i hi) ?_ ?_ ?_ ?_)) ?_
        · rw [zup_c (by omega)]
        · rw [zup_c (by omega)]
        · rw [zup_c (by omega)]
        · rw [zup_c (by omega)]
        · intro M' ⟨q1, q2⟩
          exact zS_r ⟨q1, fun c hc => (q2 c hc).trans (zup_c (by omega))⟩
      refine zS_m hrl ?_
      intro M1 ⟨a1, a2⟩
      refine zS_m (zMid_few h (by omega) a1 a2) ?_
      intro M2 ⟨hm, h8⟩
      refine zS_r ?_
      show zS (lm_undo M2) (fun s => s.1 = M2 23 0 ∧ _)
      rw [h8]
      unfold lm_undo
      refine zG_m (hst M2 hm.1) (fun _ => ?_) (fun q => absurd c1 q)
      refine zS_b (hrd M2 hm.1) ?_
      rw [if_neg c2]
      refine zS_b (hrd M2 hm.1) ?_
      rw [hn, e1]
      obtain ⟨k1, k2, k3⟩ := wr8_ok (n := n) hm.1
      refine zS_b k1 ?_
      have e8 : rdI 107 8 (zup M2 107 8 (n : Int)) = some (n : Int) := by
        rw [w107 (by omega) (by omega)]
        rfl
      refine zS_b e8 ?_
      exact zS_r ⟨rfl, _, zMid_inv hm k2 k3⟩
  · show zS (lm_undo M) (fun s => s.1 = -2 ∧ _)
    unfold lm_undo
    exact zG_m (hst M h.1) (fun q => absurd q c) (fun _ => ⟨rfl, W, h⟩)
theorem q_anew (h : zInv W M) : zQ4 lX_anew lm_anew M := by
  have hw := h.2.1
  have u8 := h.2.1.2.2.2.2.2.2.2.2.1
  have hA := h.2.2.2.1.2.2.1
  have e0 : M 23 0 = W 8 := h.2.2.2.1.1
  have hst : ∀ N : Nat → Nat → Int, N 107 = W → lm_isState N = some (zbo (0 < W 9)) := fun N hN => by rw [lm_isState_eq, hN]
  have hrd : ∀ N : Nat → Nat → Int, N 107 = W → rdI 107 8 N = some (W 8) := fun N hN => by
    rw [w107 (by omega) (by omega), hN]
    rfl
  show zS (lX_anew M) (fun r => zS (lm_anew r.2) (fun s => s.1 = r.1 ∧ ∃ W', zInv W' s.2))
  unfold lX_anew
  refine zG_m (xThere h) (fun c1 => ?_) (fun c => ?_)
  · have hrl : zS (lA_removeAll 23 M) (fun M' => zActs 23 M' (wfew W 0) ∧ (∀ c, c < 23 ∨ 23 + 5 < c → M' c = M c)) := by
      unfold lA_removeAll
      rw [if_pos (show zis 0 23 = true from rfl)]
      refine zS_b rfl ?_
      refine zS_m (zfew_ok (n := 0) (M := zup M 23 0 0) rfl hw (by omega) zup_s (fun i hi => zAct_cg1 (hA i hi) ?_ ?_ ?_ ?_)) ?_
      · rw [zup_c (by omega)]
      · rw [zup_c (by omega)]
      · rw [zup_c (by omega)]
      · rw [zup_c (by omega)]
      · intro M' ⟨q1, q2⟩
        exact zS_r ⟨q1, fun c hc => (q2 c hc).trans (zup_c (by omega))⟩
    refine zS_m hrl ?_
    intro M1 ⟨a1, a2⟩
    refine zS_m (zMid_few h (by omega) a1 a2) ?_
    intro M2 ⟨hm, h8⟩
    refine zS_r ?_
    show zS (lm_anew M2) (fun s => s.1 = M 23 0 ∧ _)
    rw [e0]
    unfold lm_anew
    refine zG_m (hst M2 hm.1) (fun _ => ?_) (fun q => absurd c1 q)
    refine zS_b (hrd M2 hm.1) ?_
    obtain ⟨k1, k2, k3⟩ := wr8_ok (n := 0) hm.1
    refine zS_b k1 ?_
    exact zS_r ⟨rfl, _, zMid_inv hm k2 k3⟩
  · show zS (lm_anew M) (fun s => s.1 = -2 ∧ _)
    unfold lm_anew
    exact zG_m (hst M h.1) (fun q => absurd q c) (fun _ => ⟨rfl, W, h⟩)
end ZUN
