/-! What the reference's day rests on, from the world's row. -/
def zaF (M M' : Nat → Nat → Int) (W : Nat → Int) : Prop := (∀ c, c ≠ 106 → c ≠ 113 → c ≠ 114 → c ≠ 115 → c ≠ 116 → M' c = M c) ∧ (∀ f, f < 15 ∨ 18 < f → M' 106 f = M 106 f) ∧ M' 106 16 = W 2 ∧ M' 106 17 = 0 ∧ M' 106 18 = 0
theorem zaF_up {M M' : Nat → Nat → Int} {W : Nat → Int} {c i : Nat} {v : Int} (h : zaF M M' W) (hc : 113 ≤ c ∧ c ≤ 116) : zaF M (zup M' c i v) W := by
  obtain ⟨h1, h2, h3, h4, h5⟩ := h
  refine ⟨fun e e1 e2 e3 e4 e5 => ?_, fun f hf => ?_, ?_, ?_, ?_⟩
  · rw [zup_c (by omega)]; exact h1 e e1 e2 e3 e4 e5
  · rw [zup_c (by omega)]; exact h2 f hf
  · rw [zup_c (by omega)]; exact h3
  · rw [zup_c (by omega)]; exact h4
  · rw [zup_c (by omega)]; exact h5
theorem zaF_15 {M M' : Nat → Nat → Int} {W : Nat → Int} {v : Int} (h : zaF M M' W) : zaF M (zup M' 106 15 v) W := by
  obtain ⟨h1, h2, h3, h4, h5⟩ := h
  refine ⟨fun e e1 e2 e3 e4 e5 => ?_, fun f hf => ?_, ?_, ?_, ?_⟩
  · rw [zup_c (by omega)]; exact h1 e e1 e2 e3 e4 e5
  · rw [zup_i (by omega)]; exact h2 f hf
  · rw [zup_i (by omega)]; exact h3
  · rw [zup_i (by omega)]; exact h4
  · rw [zup_i (by omega)]; exact h5
def zaA (M' : Nat → Nat → Int) (W : Nat → Int) : Prop := (∀ p, p < 5 → M' 113 p = W (42 + 12 * p) ∧ M' 114 p = W (42 + 12 * p + 1)) ∧ (∀ x : Nat, x < 8 → M' 115 x = wfd W (x : Int))
def zAs (M M' : Nat → Nat → Int) (W : Nat → Int) : Prop := zaF M M' W ∧ zset 12 (M' 106 15) (wcls W) ∧ zaA M' W ∧ (∀ p n, p < 5 → n < 20 → M' 116 (20 * p + n) = wsent W p n)
theorem w20 {n p : Nat} (h : n < 1000) (h2 : p < 1000) : w32 (w32 (20 * (n : Int)) + (p : Int)) = ((20 * n + p : Nat) : Int) := by simp (disch := omega) only [w32_eq]; omega
set_option maxHeartbeats 4000000 in
theorem lm_asItIs_ok {M : Nat → Nat → Int} {W : Nat → Int} (hw : wOk W) (hW : M 107 = W) : zS (lm_asItIs M) (fun M' => zAs M M' W) := by
  have hw0 := hw
  obtain ⟨h0, _, _, _, _, h5, h6, _, h8, _, _, _, _, hwel, _, _, hact⟩ := hw
  refine zS_gen (fun Q hQ => ?_)
  unfold lm_asItIs
  refine zS_b rfl ?_
  refine zS_b (w107 (by omega) (by omega)) ?_
  refine zS_b rfl ?_
  refine zS_b rfl ?_
  refine zS_b rfl ?_
  have hF0 : zaF M (zup (zup (zup (zup M 106 15 0) 106 16 (zup M 106 15 0 107 (Int.toNat 2))) 106 17 0) 106 18 0) W := by
    refine ⟨fun c c1 c2 c3 c4 c5 => ?_, fun f hf => ?_, ?_, ?_, ?_⟩
    · simp (disch := omega) only [zup_c]
    · simp (disch := omega) only [zup_i]
    · simp (disch := omega) only [zup_i, zup_s, zup_c]
      rw [hW]
      rfl
    · simp (disch := omega) only [zup_i, zup_s, zup_c]
    · simp (disch := omega) only [zup_i, zup_s, zup_c]
  have h150 : (zup (zup (zup (zup M 106 15 0) 106 16 (zup M 106 15 0 107 (Int.toNat 2))) 106 17 0) 106 18 0) 106 15 = 0 := by simp (disch := omega) only [zup_i, zup_s]
  generalize (zup (zup (zup (zup M 106 15 0) 106 16 (zup M 106 15 0 107 (Int.toNat 2))) 106 17 0) 106 18 0) = M0 at hF0 h150 ⊢
  -- acts
  have h161 : ∀ M1, zaF M M1 W → zset 12 (M1 106 15) (wcl W 0) → zaA M1 W → (∀ p n, p < 5 → n < 20 → M1 116 (20 * p + n) = -1) → zS (lm_asItIs_c161 zN 0 M1) Q := fun M1 a1 a2 a3 a4 => by
    refine loopI (fun m i M => lm_asItIs_c161 m (i : Int) M) (fun i M' => zaF M M' W ∧ zset 12 (M' 106 15) (wcl W i) ∧ zaA M' W ∧ (∀ p n, p < 5 → n < 20 → M' 116 (20 * p + n) = wsn W i p n)) 0 (W 8).toNat (by omega) ?_ ?_ ?_ zN (zN_gt (by omega))
    · exact ⟨a1, a2, a3, a4⟩
    · intro m i M2 _ hi ⟨b1, b2, b3, b4⟩ k
      have hM : M2 107 = W := (b1.1 107 (by omega) (by omega) (by omega) (by omega) (by omega)).trans hW
      have e8 : w32 (108 + (i : Int)) = ((108 + i : Nat) : Int) := by simp (disch := omega) only [w32_eq]; omega
      show zS (lm_asItIs_c161 (m + 1) (i : Int) M2) _
      rw [lm_asItIs_c161]
      refine zS_b (w107 (by omega) (by omega)) ?_
      refine zS_it (by rw [hM]; show (i : Int) < W 8; omega) ?_
      rw [e8, w1 (by omega)]
      refine zS_b (rdI_n sh_107 (by omega)) ?_
      rw [hM]
      have hcS : wcl W (i + 1) = wclS W i (wcl W i) := rfl
      have hsS : wsn W (i + 1) = wsnS W i (wsn W i) := rfl
      rcases hact i hi with ⟨p, c, n, hp, hc, hn, ha⟩ | ⟨u, o, hu, ho, ha⟩
      · have hp5 : p < 5 := by omega
        have hc8 : c < 8 := by omega
        have hn20 : n < 20 := by omega
        have hge : ¬ (W (108 + i) < 10000) := by omega
        rw [if_neg hge]
        have e1 : zdiv (W (108 + i)) 10000 = ((p + 1 : Nat) : Int) := by
          rw [ha]
          refine (zdiv_nat (b := 10000) (by omega) (by omega)).trans (congrArg _ ?_)
          omega
        have e2 : zrem (W (108 + i)) 100 = (n : Int) := by
          rw [ha]
          refine (zrem_nat (b := 100) (by omega) (by omega)).trans (congrArg _ ?_)
          omega
        have e3 : zdiv (W (108 + i)) 100 = ((100 * (p + 1) + c : Nat) : Int) := by
          rw [ha]
          refine (zdiv_nat (b := 100) (by omega) (by omega)).trans (congrArg _ ?_)
          omega
        have e4 : zrem ((100 * (p + 1) + c : Nat) : Int) 100 = (c : Int) := by
          refine (zrem_nat (b := 100) (by omega) (by omega)).trans (congrArg _ ?_)
          omega
        have e5 : w32 (((p + 1 : Nat) : Int) - 1) = (p : Int) := by simp (disch := omega) only [w32_eq]; omega
        rw [e1, e2, e3, e4, e5, w20 (by omega) (by omega)]
        refine zS_b (wrI_n sh_116 (by omega)) ?_
        refine k _ ⟨zaF_up b1 (by omega), ?_, ⟨fun q hq => ?_, fun x hx => ?_⟩, fun q j hq hj => ?_⟩
        · rw [zup_c (by omega), hcS]
          unfold wclS
          rw [if_neg hge]
          exact b2
        · rw [zup_c (by omega), zup_c (by omega)]; exact b3.1 q hq
        · rw [zup_c (by omega)]; exact b3.2 x hx
        · rw [zup_a, hsS]
          unfold wsnS
          rw [if_neg hge, b4 q j hq hj]
          show _ = if q + 1 = (W (108 + i)).toNat / 10000 ∧ j = (W (108 + i)).toNat % 100 then W (108 + i) / 100 % 100 else wsn W i q j
          by_cases hqj : q = p ∧ j = n
          · rw [if_pos (by omega), if_pos (by omega)]
            omega
          · rw [if_neg (by omega), if_neg (by omega)]
      · have hu12 : u < 12 := by omega
        have hlt : W (108 + i) < 10000 := by omega
        rw [if_pos hlt]
        have e1 : zdiv (W (108 + i)) 2 = (u : Int) := by
          rw [ha]
          refine (zdiv_nat (b := 2) (by omega) (by omega)).trans (congrArg _ ?_)
          omega
        have e2 : zrem (W (108 + i)) 2 = (o : Int) := by
          rw [ha]
          refine (zrem_nat (b := 2) (by omega) (by omega)).trans (congrArg _ ?_)
          omega
        rw [e1, e2]
        have hs4 : ∀ q j, wsn W (i + 1) q j = wsn W i q j := fun q j => by
          rw [hsS]
          unfold wsnS
          rw [if_pos hlt]
        have hc4 : ∀ x, wcl W (i + 1) x = if x = u then decide (o = 1) else wcl W i x := fun x => by
          rw [hcS]
          unfold wclS
          rw [if_pos hlt]
          show (if x = (W (108 + i)).toNat / 2 then decide (W (108 + i) % 2 = 1) else wcl W i x) = _
          rw [show (W (108 + i)).toNat / 2 = u by omega]
          have : (W (108 + i) % 2 = 1) ↔ o = 1 := by omega
          simp only [this]
        by_cases ho1 : o = 1
        · rw [if_pos (show (o : Int) = 1 by omega)]
          refine zS_b rfl ?_
          refine k _ ⟨zaF_15 b1, ?_, ⟨fun q hq => ?_, fun x hx => ?_⟩, fun q j hq hj => ?_⟩
          · rw [zup_s]
            refine zset_cg (zset_up b2 (by omega) (by omega)) (fun x _ => ?_)
            rw [hc4]
            by_cases hx : x = u
            · rw [if_pos hx, decide_eq_true hx, decide_eq_true ho1]
              rfl
            · rw [if_neg hx, decide_eq_false hx]
              rfl
          · rw [zup_c (by omega), zup_c (by omega)]; exact b3.1 q hq
          · rw [zup_c (by omega)]; exact b3.2 x hx
          · rw [zup_c (by omega), hs4]; exact b4 q j hq hj
        · rw [if_neg (show ¬ (o : Int) = 1 by omega)]
          refine zS_b rfl ?_
          refine k _ ⟨zaF_15 b1, ?_, ⟨fun q hq => ?_, fun x hx => ?_⟩, fun q j hq hj => ?_⟩
          · rw [zup_s]
            refine zset_cg (zset_down b2 (by omega) (by omega)) (fun x _ => ?_)
            rw [hc4]
            by_cases hx : x = u
            · rw [if_pos hx, decide_eq_true hx, decide_eq_false ho1]
              rfl
            · rw [if_neg hx, decide_eq_false hx]
              rfl
          · rw [zup_c (by omega), zup_c (by omega)]; exact b3.1 q hq
          · rw [zup_c (by omega)]; exact b3.2 x hx
          · rw [zup_c (by omega), hs4]; exact b4 q j hq hj
    · intro m M2 ⟨b1, b2, b3, b4⟩
      have hM : M2 107 = W := (b1.1 107 (by omega) (by omega) (by omega) (by omega) (by omega)).trans hW
      show zS (lm_asItIs_c161 (m + 1) ((W 8).toNat : Int) M2) _
      rw [lm_asItIs_c161]
      refine zS_b (w107 (by omega) (by omega)) ?_
      refine zS_ie (by rw [hM]; show ¬ (((W 8).toNat : Int) < W 8); omega) ?_
      exact zS_r (hQ _ ⟨b1, b2, b3, b4⟩)
  -- names
  have h98 : ∀ M1, zaF M M1 W → M1 106 15 = 0 → (∀ x : Nat, x < 8 → M1 115 x = wfd W (x : Int)) → zS (lm_asItIs_c98 zN 0 M1) Q := fun M1 a1 a2 a3 => by
    refine loopI (fun m i M => lm_asItIs_c98 m (i : Int) M) (fun i M' => zaF M M' W ∧ M' 106 15 = 0 ∧ (∀ p, p < i → M' 113 p = W (42 + 12 * p) ∧ M' 114 p = W (42 + 12 * p + 1)) ∧ (∀ x : Nat, x < 8 → M' 115 x = wfd W (x : Int)) ∧ (∀ p n, p < i → n < 20 → M' 116 (20 * p + n) = -1)) 0 5 (by omega) ?_ ?_ ?_ zN (zN_gt (by omega))
    · exact ⟨a1, a2, fun p hp => by omega, a3, fun p n hp => by omega⟩
    · intro m i M2 _ hi ⟨b1, b2, b3, b4, b5⟩ k
      have hM : M2 107 = W := (b1.1 107 (by omega) (by omega) (by omega) (by omega) (by omega)).trans hW
      show zS (lm_asItIs_c98 (m + 1) (i : Int) M2) _
      rw [lm_asItIs_c98]
      refine zS_it (by omega) ?_
      refine zS_b (lm_of_eq (w := 0) (by omega) (by omega)) ?_
      refine zS_b (wrI_n sh_113 (by omega)) ?_
      refine zS_b (lm_of_eq (w := 1) (by omega) (by omega)) ?_
      refine zS_b (wrI_n sh_114 (by omega)) ?_
      rw [zup_c (show 107 ≠ 113 by decide), hM]
      refine loopI (fun m' j M' => lm_asItIs_c129 (lm_asItIs_c98 m) m' (i : Int) (j : Int) M') (fun j M' => zaF M M' W ∧ M' 106 15 = 0 ∧ (∀ p, p < i + 1 → M' 113 p = W (42 + 12 * p) ∧ M' 114 p = W (42 + 12 * p + 1)) ∧ (∀ x : Nat, x < 8 → M' 115 x = wfd W (x : Int)) ∧ (∀ p n, p < i → n < 20 → M' 116 (20 * p + n) = -1) ∧ (∀ n, n < j → M' 116 (20 * i + n) = -1)) 0 20 (by omega) ?_ ?_ ?_ zN (zN_gt (by omega))
      · refine ⟨zaF_up (zaF_up b1 (by omega)) (by omega), ?_, fun p hp => ⟨?_, ?_⟩, fun x hx => ?_, fun p n hp hn => ?_, fun n hn => by omega⟩
        · rw [zup_c (by omega), zup_c (by omega)]; exact b2
        · rw [zup_c (by omega), zup_a]
          by_cases hpi : p = i
          · rw [if_pos hpi, hpi]; rfl
          · rw [if_neg hpi]; exact (b3 p (by omega)).1
        · rw [zup_a]
          by_cases hpi : p = i
          · rw [if_pos hpi, hpi]
          · rw [if_neg hpi, zup_c (by omega)]; exact (b3 p (by omega)).2
        · rw [zup_c (by omega), zup_c (by omega)]; exact b4 x hx
        · rw [zup_c (by omega), zup_c (by omega)]; exact b5 p n hp hn
      · intro m' j M3 _ hj ⟨c1, c2, c3, c4, c5, c6⟩ kk
        show zS (lm_asItIs_c129 (lm_asItIs_c98 m) (m' + 1) (i : Int) (j : Int) M3) _
        rw [lm_asItIs_c129]
        refine zS_it (by omega) ?_
        rw [w20 (by omega) (by omega), w1 (by omega)]
        refine zS_b (wrI_n sh_116 (by omega)) ?_
        refine kk _ ⟨zaF_up c1 (by omega), ?_, fun p hp => ?_, fun x hx => ?_, fun p n hp hn => ?_, fun n hn => ?_⟩
        · rw [zup_c (by omega)]; exact c2
        · rw [zup_c (by omega), zup_c (by omega)]; exact c3 p hp
        · rw [zup_c (by omega)]; exact c4 x hx
        · rw [zup_i (by omega)]; exact c5 p n hp hn
        · rw [zup_a]
          by_cases hnj : n = j
          · rw [if_pos (by omega)]
          · rw [if_neg (by omega)]; exact c6 n (by omega)
      · intro m' M3 ⟨c1, c2, c3, c4, c5, c6⟩
        show zS (lm_asItIs_c129 (lm_asItIs_c98 m) (m' + 1) (i : Int) ((20 : Nat) : Int) M3) _
        rw [lm_asItIs_c129]
        refine zS_ie (by omega) ?_
        rw [w1 (by omega)]
        refine k M3 ⟨c1, c2, c3, c4, fun p n hp hn => ?_⟩
        by_cases hpi : p = i
        · rw [hpi]; exact c6 n hn
        · exact c5 p n (by omega) hn
    · intro m M2 ⟨b1, b2, b3, b4, b5⟩
      show zS (lm_asItIs_c98 (m + 1) ((5 : Nat) : Int) M2) _
      rw [lm_asItIs_c98]
      refine zS_ie (by omega) ?_
      exact h161 M2 b1 (by rw [b2]; exact zset_0) ⟨b3, b4⟩ b5
  refine loopI (fun m i M => lm_asItIs_c27 m (i : Int) M) (fun i M' => zaF M M' W ∧ M' 106 15 = 0 ∧ (∀ x : Nat, x < i → M' 115 x = 0)) 0 8 (by omega) ?_ ?_ ?_ zN (zN_gt (by omega))
  · exact ⟨hF0, h150, fun x hx => by omega⟩
  · intro m i M1 _ hi ⟨a1, a2, a3⟩ k
    show zS (lm_asItIs_c27 (m + 1) (i : Int) M1) _
    rw [lm_asItIs_c27]
    refine zS_it (by omega) ?_
    rw [w1 (by omega)]
    refine zS_b (wrI_n sh_115 (by omega)) ?_
    refine k _ ⟨zaF_up a1 (by omega), ?_, fun x hx => ?_⟩
    · rw [zup_c (by omega)]; exact a2
    · rw [zup_a]
      by_cases hxi : x = i
      · rw [if_pos hxi]
      · rw [if_neg hxi]; exact a3 x (by omega)
  · intro m M1 ⟨a1, a2, a3⟩
    show zS (lm_asItIs_c27 (m + 1) ((8 : Nat) : Int) M1) _
    rw [lm_asItIs_c27]
    refine zS_ie (by omega) ?_
    refine loopI (fun m i M => lm_asItIs_c48 m (i : Int) M) (fun i M' => zaF M M' W ∧ M' 106 15 = 0 ∧ (∀ x : Nat, x < 8 → M' 115 x = zsum i (fun k => if W (34 + 2 * k) = (x : Int) then W (34 + 2 * k + 1) else 0))) 0 (W 5).toNat (by omega) ?_ ?_ ?_ zN (zN_gt (by omega))
    · exact ⟨a1, a2, fun x hx => a3 x hx⟩
    · intro m i M2 _ hi ⟨b1, b2, b3⟩ k
      have hM : M2 107 = W := (b1.1 107 (by omega) (by omega) (by omega) (by omega) (by omega)).trans hW
      have q := hwel i hi
      obtain ⟨X, hX⟩ : ∃ X : Nat, W (34 + 2 * i) = (X : Int) := ⟨(W (34 + 2 * i)).toNat, by omega⟩
      have hX8 : X < 8 := by omega
      have e1 : w32 (34 + w32 (2 * (i : Int))) = ((34 + 2 * i : Nat) : Int) := by simp (disch := omega) only [w32_eq]; omega
      have e2 : w32 (((34 + 2 * i : Nat) : Int) + 1) = ((34 + 2 * i + 1 : Nat) : Int) := by simp (disch := omega) only [w32_eq]; omega
      show zS (lm_asItIs_c48 (m + 1) (i : Int) M2) _
      rw [lm_asItIs_c48]
      refine zS_b (w107 (by omega) (by omega)) ?_
      refine zS_it (by rw [hM]; show (i : Int) < W 5; omega) ?_
      rw [e1, e2, w1 (by omega)]
      refine zS_b (rdI_n sh_107 (by omega)) ?_
      rw [hM, hX]
      refine zS_b (rdI_n sh_115 (by omega)) ?_
      refine zS_b (rdI_n sh_107 (by omega)) ?_
      rw [hM, b3 X hX8]
      have hz := zsum_le (n := (W 5).toNat) (f := fun k => if W (34 + 2 * k) = (X : Int) then W (34 + 2 * k + 1) else 0) (B := 20) (fun k hk => by
        have q := hwel k hk
        show 0 ≤ (if W (34 + 2 * k) = (X : Int) then W (34 + 2 * k + 1) else 0) ∧ (if W (34 + 2 * k) = (X : Int) then W (34 + 2 * k + 1) else 0) ≤ 20
        split <;> omega) (by decide) i (by omega)
      refine zS_b (wrI_n sh_115 (by omega)) ?_
      rw [w32_eq (by omega) (by omega)]
      refine k _ ⟨zaF_up b1 (by omega), ?_, fun x hx => ?_⟩
      · rw [zup_c (by omega)]; exact b2
      · have e : zsum (i + 1) (fun k => if W (34 + 2 * k) = (x : Int) then W (34 + 2 * k + 1) else 0) = zsum i (fun k => if W (34 + 2 * k) = (x : Int) then W (34 + 2 * k + 1) else 0) + (if W (34 + 2 * i) = (x : Int) then W (34 + 2 * i + 1) else 0) := rfl
        rw [zup_a, e]
        by_cases hxX : x = X
        · rw [if_pos hxX, hxX, if_pos hX]
        · rw [if_neg hxX, if_neg (by omega), b3 x hx]
          omega
    · intro m M2 ⟨b1, b2, b3⟩
      have hM : M2 107 = W := (b1.1 107 (by omega) (by omega) (by omega) (by omega) (by omega)).trans hW
      show zS (lm_asItIs_c48 (m + 1) ((W 5).toNat : Int) M2) _
      rw [lm_asItIs_c48]
      refine zS_b (w107 (by omega) (by omega)) ?_
      refine zS_ie (by rw [hM]; show ¬ (((W 5).toNat : Int) < W 5); omega) ?_
      exact h98 M2 b1 b2 b3
