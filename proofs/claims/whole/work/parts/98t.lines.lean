/-! Both read line after line. -/
def zLn (T : Nat → Int) (s b n : Nat) (A B A' B' : Nat → Nat → Int) : Prop := zLx T s b A' B' ∧ (A' 1 2 = 0 → (b : Int) + 1 ≤ A' 1 5) ∧ (∀ e, e ≠ 1 → ¬ (13 ≤ e ∧ e ≤ 22) → A' e = A e) ∧ (∀ e, e ≠ 106 → e ≠ 112 → B' e = B e) ∧ B' 106 5 = B 106 5 ∧ (A' 1 2 = 0 → A' 13 4 = ((n + 1 : Nat) : Int) ∧ B' 112 9 = ((n + 1 : Nat) : Int) ∧ ∃ a b c d, zK a b c d A' (B' 112))
/-- so far n lines -/
def zSof (n : Nat) (A B : Nat → Nat → Int) : Prop := A 13 4 = (n : Int) ∧ B 112 9 = (n : Int) ∧ ((n = 0 ∧ (∀ j, j < 9 → A 13 j = 0) ∧ (∀ x, x < 8 → A 16 x = 0) ∧ ∀ i, i < 138 → B 112 i = 0) ∨ (1 ≤ n ∧ ∃ a b c d, zK a b c d A (B 112)))
/-- behind the last line -/
def zStd (A B A' : Nat → Nat → Int) (r : Int × (Nat → Nat → Int)) : Prop := A' 1 1 = 0 ∧ r.2 106 12 = A' 1 2 ∧ r.2 106 13 = A' 1 3 ∧ r.2 106 5 = B 106 5 ∧ (∀ e, e ≠ 1 → ¬ (13 ≤ e ∧ e ≤ 22) → A' e = A e) ∧ (∀ e, e ≠ 106 → e ≠ 112 → e ≠ 107 → r.2 e = B e) ∧ (A' 1 2 ≠ 0 → r.1 = -4 ∧ r.2 107 = B 107) ∧ (A' 1 2 = 0 → r.1 = r.2 107 9 ∧ wOk (r.2 107) ∧ zTold 13 A' (r.2 107) ∧ r.2 107 8 = 0)
section ZLL
variable {T : Nat → Int} {s b : Nat} {A B : Nat → Nat → Int}
theorem zY_tail {n : Nat} {A1 B1 : Nat → Nat → Int} (hbd : zBd T s b A B A1 B1) (hn : A 13 4 = (n : Int)) (hn' : B 112 9 = (n : Int)) (hn9 : n ≤ 1000) : zY ((lR_takeStop A1).bind (fun M89 => ((some (zup M89 13 4 (w32 ((M89 13 4) + 1)))).bind (fun M99 => (some M99))))) (lm_readLine_c21 B1) (zLn T s b n A B) := by
  obtain ⟨d1, d2, d3, d4, d5, d6, d7⟩ := hbd
  obtain ⟨A2, B2, ea, eb, B3, p3, hp, hB2⟩ := zY_stop d1
  rw [ea, eb]
  refine zY_l rfl ?_
  refine zY_l rfl ?_
  have e13 : A2 13 = A1 13 := p3.2.1.1 13 (by omega)
  have e112 : B3 112 = B1 112 := p3.2.1.2.1 112 (by omega)
  rw [e13, d5, hn, w1 (by omega)]
  rw [e112, d6, hn', w1 (by omega)] at hB2
  rw [hB2]
  refine zY_r ⟨zLx_cg p3.1 (zup_c (by omega)) (zup_c (by omega)) (zup_c (by omega)) (zup_c (by omega)), fun g => ?_, fun e h1 h2 => ?_, fun e h1 h2 => ?_, ?_, fun g => ⟨zup_s, zup_s, ?_⟩⟩
  · rw [zup_c (by omega)] at g ⊢
    exact hp g
  · rw [zup_c (by omega), p3.2.1.1 e h1, d2 e h1 h2]
  · rw [zup_c h2, p3.2.1.2.1 e h1, d3 e h1 h2]
  · rw [zup_c (by omega), p3.2.1.2.2, d4]
  · rw [zup_c (by omega)] at g
    have e112' : ∀ i, i ≠ 9 → zup B3 112 9 ((n + 1 : Nat) : Int) 112 i = B1 112 i := fun i hi => by rw [zup_i hi, e112]
    have e13' : ∀ j, j ≠ 4 → zup A2 13 4 ((n + 1 : Nat) : Int) 13 j = A1 13 j := fun j hj => by rw [zup_i hj, e13]
    have e14' : ∀ j, 14 ≤ j → zup A2 13 4 ((n + 1 : Nat) : Int) j = A1 j := fun j j1 => by rw [zup_c (by omega), p3.2.1.1 j (by omega)]
    obtain ⟨x1, x2, x3, x4, hk⟩ := d7 (p3.2.2 g)
    exact ⟨x1, x2, x3, x4, zK_cg hk (fun i h1 _ => e112' i h1) e13' (fun j j1 _ => e14' j j1)⟩
theorem zY_line {n : Nat} (h : zLx T s b A B) (c0 : A 1 2 = 0) (hs : zSof n A B) (hn9 : n ≤ 1000) : zY (lR_readLine 13 A) (lm_readLine B) (zLn T s b n A B) := by
  obtain ⟨hn, hn', hd⟩ := hs
  obtain ⟨_, _, _, _, _, e1, e2, e3, e4, _⟩ := zwd_e
  unfold lR_readLine lm_readLine
  rw [if_pos (show zis 6 13 = true from zis_6_13), hn]
  refine zY_k (rdI_n (i := 9) sh_112 (by omega)) ?_
  rw [hn']
  rcases hd with ⟨n0, h1, h2, h3⟩ | ⟨n1, hk⟩
  · refine zY_lt (by omega) (zY_kt (by omega) ?_)
    refine zY_m (zY_head h h1 h2 h3) ?_
    intro A1 B1 q
    exact zY_tail q hn hn' hn9
  · refine zY_le (by omega) (zY_ke (by omega) ?_)
    obtain ⟨x1, x2, x3, x4, hk⟩ := hk
    refine zY_l (lR_isWord_ok h (by omega)) ?_
    by_cases i1 : zwi 5008 A = true
    · rw [zbo_t i1]
      refine zY_le (by decide) ?_
      refine zY_m (zY_street h hk c0 i1) ?_
      intro A1 B1 q
      exact zY_tail q hn hn' hn9
    rw [zbo_f i1]
    refine zY_lt rfl ?_
    refine zY_l (lR_isWord_ok h (by omega)) ?_
    by_cases i2 : zwi 5010 A = true
    · rw [zbo_t i2]
      refine zY_le (by decide) ?_
      refine zY_m (zY_well h hk c0 i2) ?_
      intro A1 B1 q
      exact zY_tail q hn hn' hn9
    rw [zbo_f i2]
    refine zY_lt rfl ?_
    refine zY_l (lR_isWord_ok h (by omega)) ?_
    by_cases i3 : zwi 5012 A = true
    · rw [zbo_t i3]
      refine zY_le (by decide) ?_
      refine zY_m (zY_name h hk c0 i3) ?_
      intro A1 B1 q
      exact zY_tail q hn hn' hn9
    rw [zbo_f i3]
    refine zY_lt rfl ?_
    refine zY_l (lR_isWord_ok h (by omega)) ?_
    by_cases i4 : zwi 5017 A = true
    · rw [zbo_t i4]
      refine zY_le (by decide) ?_
      refine zY_m (zY_contract h hk c0 i4) ?_
      intro A1 B1 q
      exact zY_tail q hn hn' hn9
    rw [zbo_f i4]
    refine zY_lt rfl ?_
    refine zY_m (zY_none h (fun q => ?_)) ?_
    · rcases q with q | q | q | q
      · exact i1 q
      · exact i2 q
      · exact i3 q
      · exact i4 q
    intro A1 B1 ⟨q1, q2⟩
    exact zY_tail (zBd_po q1 q2) hn hn' hn9
theorem lm_state_c87_ok {B : Nat → Nat → Int} : zS (lm_state_c87 zN 0 B) (fun r => r.1 = B 112 9 ∧ (∀ e, e ≠ 107 → r.2 e = B e) ∧ ∀ i, i < 138 → r.2 107 i = B 112 i) := by
  refine loopI (fun m i N => lm_state_c87 m (i : Int) N) (fun i N => (∀ e, e ≠ 107 → N e = B e) ∧ ∀ j, j < i → N 107 j = B 112 j) (a0 := B) 0 138 (by omega) ⟨fun _ _ => rfl, fun j hj => absurd hj (Nat.not_lt_zero j)⟩ ?_ ?_ zN (zN_gt (by omega))
  · intro m i N _ hi ⟨b1, b2⟩ kk
    show zS (lm_state_c87 (m + 1) (i : Int) N) _
    rw [lm_state_c87]
    refine zS_it (by omega) ?_
    refine zS_b (rdI_n sh_112 hi) ?_
    refine zS_b (wrI_n sh_107 hi) ?_
    rw [w1 (by omega), b1 112 (by omega)]
    refine kk _ ⟨fun e he => (zup_c he).trans (b1 e he), fun j hj => ?_⟩
    rw [zup_a]
    by_cases c : j = i
    · rw [if_pos c, c]
    · rw [if_neg c]; exact b2 j (by omega)
  · intro m N ⟨b1, b2⟩
    show zS (lm_state_c87 (m + 1) ((138 : Nat) : Int) N) _
    rw [lm_state_c87]
    refine zS_ie (by omega) ?_
    refine zS_b (rdI_n (i := 9) sh_107 (by omega)) ?_
    exact zS_r ⟨b2 9 (by omega), b1, b2⟩
/-- no line: the empty world -/
theorem zSof_0 {W : Nat → Int} (h1 : ∀ j, j < 9 → A 13 j = 0) (h2 : ∀ x, x < 8 → A 16 x = 0) (h3 : ∀ i, i < 138 → W i = 0) : wOk W ∧ zTold 13 A W ∧ W 8 = 0 := by
  refine ⟨?_, ?_, h3 8 (by omega)⟩
  · unfold wOk
    rw [h3 0 (by omega), h3 1 (by omega), h3 2 (by omega), h3 3 (by omega), h3 4 (by omega), h3 5 (by omega), h3 6 (by omega), h3 7 (by omega), h3 8 (by omega), h3 9 (by omega)]
    refine ⟨by omega, by omega, by omega, by omega, by omega, by omega, by omega, by omega, by omega, by omega, fun _ => by omega, fun _ => by omega, fun k hk => absurd hk (Nat.not_lt_zero k), fun k hk => absurd hk (Nat.not_lt_zero k), fun k hk => absurd hk (Nat.not_lt_zero k), fun k hk => absurd hk (Nat.not_lt_zero k), fun k hk => absurd hk (Nat.not_lt_zero k)⟩
  · unfold zTold
    rw [h3 0 (by omega), h3 1 (by omega), h3 2 (by omega), h3 3 (by omega), h3 4 (by omega), h3 6 (by omega), h3 7 (by omega), h3 9 (by omega), h3 5 (by omega)]
    refine ⟨h1 0 (by omega), h1 1 (by omega), h1 2 (by omega), h1 3 (by omega), h1 4 (by omega), h1 5 (by omega), h1 6 (by omega), h1 7 (by omega), h1 8 (by omega), fun k hk => absurd hk (Nat.not_lt_zero k), fun x hx => ?_, fun k hk => absurd hk (Nat.not_lt_zero k), fun k hk => absurd hk (Nat.not_lt_zero k)⟩
    unfold wfd
    rw [h3 5 (by omega)]
    exact h2 x hx
theorem zY_bad {i f1 f2 : Nat} (h : zLx T s b A B) (c : A 1 2 ≠ 0) : zY (lR_readAll_c25 13 (f1 + 1) (i : Int) A) (lm_state_c54 (f2 + 1) B) (zStd A B) := by
  have h12 : B 106 12 = A 1 2 := h.2.2.2.1
  have h13 : B 106 13 = A 1 3 := h.2.2.2.2.1
  rw [lR_readAll_c25, lm_state_c54]
  refine zY_k lm_good_eq ?_
  rw [zbo_f (fun q => c (h12.symm.trans q))]
  refine zY_kt rfl ?_
  refine zY_k lm_good_eq ?_
  rw [zbo_f (fun q => c (h12.symm.trans q))]
  refine zY_kt rfl ?_
  have hr : zY ((some (zup A 1 1 0)).bind (fun M59 => some M59)) (some ((-4 : Int), B)) (zStd A B) := by
    refine zY_l rfl ?_
    refine zY_r ⟨zup_s, ?_, ?_, rfl, fun e h1 _ => zup_c h1, fun _ _ _ _ => rfl, fun _ => ⟨rfl, rfl⟩, fun g => ?_⟩
    · rw [zup_i (by omega)]; exact h12
    · rw [zup_i (by omega)]; exact h13
    · rw [zup_i (by omega)] at g
      exact absurd g c
  by_cases ci : (i : Int) < 900
  · refine zY_lt ci (zY_le c ?_)
    exact hr
  · refine zY_le ci ?_
    exact hr
theorem zY_end {i f1 f2 n : Nat} (h : zLx T s b A B) (c : A 1 2 = 0) (c4 : A 1 4 = 0) (hs : zSof n A B) (hn9 : n ≤ 1000) : zY (lR_readAll_c25 13 (f1 + 1) (i : Int) A) (lm_state_c54 (f2 + 1) B) (zStd A B) := by
  have h12 : B 106 12 = A 1 2 := h.2.2.2.1
  have h13 : B 106 13 = A 1 3 := h.2.2.2.2.1
  have h10 : B 106 10 = A 1 4 := h.2.2.2.2.2.1
  rw [lR_readAll_c25, lm_state_c54]
  refine zY_k lm_good_eq ?_
  rw [zbo_t (h12.trans c)]
  refine zY_ke (by decide) ?_
  refine zY_kt (h10.trans c4) ?_
  refine zY_k lm_good_eq ?_
  rw [zbo_t (h12.trans c)]
  refine zY_ke (by decide) ?_
  have hr : zY ((some (zup A 1 1 0)).bind (fun M59 => some M59)) (lm_state_c87 zN 0 B) (zStd A B) := by
    refine zY_l rfl ?_
    obtain ⟨r, er, r1, r2, r3⟩ := lm_state_c87_ok (B := B)
    rw [er]
    have hA : ∀ e, e ≠ 1 → zup A 1 1 0 e = A e := fun e he => zup_c he
    have hw : wOk (B 112) ∧ zTold 13 (zup A 1 1 0) (B 112) ∧ B 112 8 = 0 := by
      obtain ⟨hn, hn', hd⟩ := hs
      rcases hd with ⟨n0, a1, a2, a3⟩ | ⟨n1, hk⟩
      · have q := zSof_0 (A := A) (W := B 112) a1 a2 a3
        exact ⟨q.1, zTold_cg q.2.1 (fun i hi => hA _ (by omega)), q.2.2⟩
      · obtain ⟨x1, x2, x3, x4, hk⟩ := hk
        have q := zK_ok hk n1 hn9 hn' hn
        exact ⟨q.1, zTold_cg q.2.1 (fun i hi => hA _ (Nat.ne_of_gt (Nat.lt_of_lt_of_le (by decide) (Nat.le_add_right 13 i)))), q.2.2⟩
    refine zY_r ⟨zup_s, ?_, ?_, ?_, fun e h1 _ => hA e h1, fun e h1 _ h3 => r2 e h3, fun g => ?_, fun _ => ⟨?_, wrow_ok hw.1 r3, wrow_told hw.1 r3 hw.2.1, ?_⟩⟩
    · rw [zup_i (by omega), r2 106 (by omega)]; exact h12
    · rw [zup_i (by omega), r2 106 (by omega)]; exact h13
    · rw [r2 106 (by omega)]
    · rw [zup_i (by omega)] at g
      exact absurd c g
    · rw [r1, r3 9 (by omega)]
    · rw [r3 8 (by omega)]; exact hw.2.2
  by_cases ci : (i : Int) < 900
  · refine zY_lt ci (zY_lt c (zY_lt c4 ?_))
    exact hr
  · refine zY_le ci ?_
    exact hr
theorem zStd_t {A1 B1 A' : Nat → Nat → Int} {r : Int × (Nat → Nat → Int)} (h1 : ∀ e, e ≠ 1 → ¬ (13 ≤ e ∧ e ≤ 22) → A1 e = A e) (h2 : ∀ e, e ≠ 106 → e ≠ 112 → B1 e = B e) (h3 : B1 106 5 = B 106 5) (h : zStd A1 B1 A' r) : zStd A B A' r := by
  obtain ⟨k1, k2, k3, k4, k5, k6, k7, k8⟩ := h
  refine ⟨k1, k2, k3, k4.trans h3, fun e e1 e2 => (k5 e e1 e2).trans (h1 e e1 e2), fun e e1 e2 e3 => (k6 e e1 e2 e3).trans (h2 e e1 e2), fun g => ⟨(k7 g).1, (k7 g).2.trans (h2 107 (by omega) (by omega))⟩, k8⟩
theorem zY_loop : ∀ (m i : Nat) (A B : Nat → Nat → Int) (f1 f2 : Nat), i + m = 900 → zLx T s i A B → A 1 2 = 0 → zSof i A B → zY (lR_readAll_c25 13 (m + 1 + f1) (i : Int) A) (lm_state_c54 (m + 1 + f2) B) (zStd A B) := by
  intro m
  induction m with
  | zero =>
    intro i A B f1 f2 him h c hs
    rw [show 0 + 1 + f1 = f1 + 1 by omega, show 0 + 1 + f2 = f2 + 1 by omega]
    refine zY_end h c ?_ hs (by omega)
    obtain ⟨⟨hs9, _⟩, _, _, _, _, _, _, _, _, h9, h10, h11, h12, _⟩ := h
    apply Decidable.byContradiction
    intro q
    have := h12 q
    omega
  | succ m ih =>
    intro i A B f1 f2 him h c hs
    rw [show m + 1 + 1 + f1 = (m + 1 + f1) + 1 by omega, show m + 1 + 1 + f2 = (m + 1 + f2) + 1 by omega]
    by_cases c4 : A 1 4 = 0
    · exact zY_end h c c4 hs (by omega)
    · have h12 : B 106 12 = A 1 2 := h.2.2.2.1
      have h10 : B 106 10 = A 1 4 := h.2.2.2.2.2.1
      rw [lR_readAll_c25, lm_state_c54]
      refine zY_k lm_good_eq ?_
      rw [zbo_t (h12.trans c)]
      refine zY_ke (by decide) ?_
      refine zY_ke (by rw [h10]; exact c4) ?_
      refine zY_lt (by omega) (zY_lt c (zY_le c4 ?_))
      refine zY_m (zY_line h c hs (by omega)) ?_
      intro A1 B1 ⟨z1, z2, z3, z4, z5, z6⟩
      rw [w1 (by omega)]
      by_cases g : A1 1 2 = 0
      · have hx : zLx T s (i + 1) A1 B1 := by
          obtain ⟨y0, y1, y2, y3, y4, y5, y6, y7, y8, y9, y10⟩ := z1
          exact ⟨y0, y1, y2, y3, y4, y5, y6, y7, y8, by have := z2 g; omega, y10⟩
        obtain ⟨u1, u2, u3⟩ := z6 g
        exact zY_mono (ih (i + 1) A1 B1 f1 f2 (by omega) hx g ⟨u1, u2, Or.inr ⟨Nat.le_add_left 1 i, u3⟩⟩) (fun A' r q => zStd_t z3 z4 z5 q)
      · rw [show m + 1 + f1 = (m + f1) + 1 by omega, show m + 1 + f2 = (m + f2) + 1 by omega]
        exact zY_mono (zY_bad z1 g) (fun A' r q => zStd_t z3 z4 z5 q)
end ZLL
