/-! What has been read so far: the class's and the reference's. -/
def zKh (a b c d : Nat) (A : Nat → Nat → Int) (W : Nat → Int) : Prop := (A 13 0 = W 0 ∧ A 13 1 = W 1 ∧ A 13 2 = W 2 ∧ A 13 3 = W 3 ∧ A 13 5 = (a : Int) ∧ A 13 6 = (b : Int) ∧ A 13 7 = (c : Int) ∧ A 13 8 = (d : Int)) ∧ (W 4 = (a : Int) ∧ W 5 = (b : Int) ∧ W 6 = (c : Int) ∧ W 7 = (d : Int) ∧ W 8 = 0) ∧ (1 ≤ W 0 ∧ W 0 ≤ 8 ∧ 1 ≤ W 1 ∧ W 1 ≤ 20 ∧ 0 ≤ W 2 ∧ W 2 ≤ 3 ∧ 0 ≤ W 3 ∧ W 3 ≤ 10) ∧ a ≤ 12 ∧ b ≤ 4 ∧ c ≤ 5 ∧ d ≤ 6
def zKs (a : Nat) (A : Nat → Nat → Int) (W : Nat → Int) : Prop := ∀ k, k < a → (A 14 k = W (10 + 2 * k) ∧ A 15 k = W (10 + 2 * k + 1)) ∧ 0 ≤ W (10 + 2 * k) ∧ W (10 + 2 * k) < W 0 ∧ 0 ≤ W (10 + 2 * k + 1) ∧ W (10 + 2 * k + 1) < W 0 ∧ W (10 + 2 * k) ≠ W (10 + 2 * k + 1)
def zKw (b : Nat) (A : Nat → Nat → Int) (W : Nat → Int) : Prop := (∀ k, k < b → 0 ≤ W (34 + 2 * k) ∧ W (34 + 2 * k) < W 0 ∧ 1 ≤ W (34 + 2 * k + 1) ∧ W (34 + 2 * k + 1) ≤ 20) ∧ ∀ x : Nat, x < 8 → A 16 x = zsum b (fun k => if W (34 + 2 * k) = (x : Int) then W (34 + 2 * k + 1) else 0)
def zKn (c : Nat) (A : Nat → Nat → Int) (W : Nat → Int) : Prop := (∀ p, p < c → (A 17 p = W (42 + 12 * p) ∧ A 18 p = W (42 + 12 * p + 1) ∧ A 19 p = W (42 + 12 * p + 2) ∧ A 20 p = W (42 + 12 * p + 3)) ∧ (0 ≤ W (42 + 12 * p) ∧ W (42 + 12 * p) < W 0 ∧ 0 ≤ W (42 + 12 * p + 1) ∧ W (42 + 12 * p + 1) ≤ 40 ∧ 0 ≤ W (42 + 12 * p + 2) ∧ W (42 + 12 * p + 2) ≤ 59 ∧ 0 ≤ W (42 + 12 * p + 3) ∧ W (42 + 12 * p + 3) ≤ 8) ∧ ∀ i, i < (W (42 + 12 * p + 3)).toNat → A 21 (8 * p + i) = W (42 + 12 * p + 4 + i) ∧ 0 ≤ W (42 + 12 * p + 4 + i) ∧ W (42 + 12 * p + 4 + i) < W 0) ∧ ∀ p, c ≤ p → p < 5 → W (42 + 12 * p + 3) = 0
def zKc (c d : Nat) (A : Nat → Nat → Int) (W : Nat → Int) : Prop := ∀ k, k < d → A 22 k = W (102 + k) ∧ ∃ t : Nat, W (102 + k) = (t : Int) ∧ t < 2 ^ c ∧ (zpc 12 t = 2 ∨ zpc 12 t = 3)
def zK (a b c d : Nat) (A : Nat → Nat → Int) (W : Nat → Int) : Prop := zKh a b c d A W ∧ zKs a A W ∧ zKw b A W ∧ zKn c A W ∧ zKc c d A W
section ZKK
variable {a b c d : Nat} {A A' : Nat → Nat → Int} {W W' : Nat → Int}
theorem zKs_cg (ha : a ≤ 12) (h : zKs a A W) (e0 : W' 0 = W 0) (e : ∀ i, 10 ≤ i → i < 34 → W' i = W i) (a1 : A' 14 = A 14) (a2 : A' 15 = A 15) : zKs a A' W' := by
  intro k hk
  have q := h k hk
  rw [a1, a2, e0, e (10 + 2 * k) (by omega) (by omega), e (10 + 2 * k + 1) (by omega) (by omega)]
  exact q
theorem zKw_cg (hb : b ≤ 4) (h : zKw b A W) (e0 : W' 0 = W 0) (e : ∀ i, 34 ≤ i → i < 42 → W' i = W i) (a1 : A' 16 = A 16) : zKw b A' W' := by
  refine ⟨fun k hk => ?_, fun x hx => ?_⟩
  · have q := h.1 k hk
    rw [e0, e (34 + 2 * k) (by omega) (by omega), e (34 + 2 * k + 1) (by omega) (by omega)]
    exact q
  · rw [a1, h.2 x hx]
    exact zsum_congr (fun k hk => by rw [e (34 + 2 * k) (by omega) (by omega), e (34 + 2 * k + 1) (by omega) (by omega)])
theorem zKn_cg (hc : c ≤ 5) (h : zKn c A W) (e0 : W' 0 = W 0) (e : ∀ i, 42 ≤ i → i < 102 → W' i = W i) (a1 : ∀ j, 17 ≤ j → j ≤ 21 → A' j = A j) : zKn c A' W' := by
  refine ⟨fun p hp => ?_, fun p h1 h2 => ?_⟩
  · obtain ⟨q1, q2, q3⟩ := h.1 p hp
    rw [a1 17 (by omega) (by omega), a1 18 (by omega) (by omega), a1 19 (by omega) (by omega), a1 20 (by omega) (by omega), a1 21 (by omega) (by omega), e0, e (42 + 12 * p) (by omega) (by omega), e (42 + 12 * p + 1) (by omega) (by omega), e (42 + 12 * p + 2) (by omega) (by omega), e (42 + 12 * p + 3) (by omega) (by omega)]
    refine ⟨q1, q2, fun i hi => ?_⟩
    rw [e (42 + 12 * p + 4 + i) (by omega) (by omega)]
    exact q3 i hi
  · rw [e (42 + 12 * p + 3) (by omega) (by omega)]
    exact h.2 p h1 h2
theorem zKc_cg (hd : d ≤ 6) (h : zKc c d A W) (e : ∀ i, 102 ≤ i → i < 108 → W' i = W i) (a1 : A' 22 = A 22) : zKc c d A' W' := by
  intro k hk
  rw [a1, e (102 + k) (by omega) (by omega)]
  exact h k hk
/-- lines aside -/
theorem zK_cg (h : zK a b c d A W) (e : ∀ i, i ≠ 9 → i < 108 → W' i = W i) (a1 : ∀ j, j ≠ 4 → A' 13 j = A 13 j) (a2 : ∀ j, 14 ≤ j → j ≤ 22 → A' j = A j) : zK a b c d A' W' := by
  obtain ⟨⟨h1, h2, h3, h4, h5, h6, h7⟩, hs, hw, hn, hc⟩ := h
  refine ⟨⟨?_, ?_, ?_, h4, h5, h6, h7⟩, zKs_cg h4 hs (e 0 (by omega) (by omega)) (fun i i1 i2 => e i (by omega) (by omega)) (a2 14 (by omega) (by omega)) (a2 15 (by omega) (by omega)), zKw_cg h5 hw (e 0 (by omega) (by omega)) (fun i i1 i2 => e i (by omega) (by omega)) (a2 16 (by omega) (by omega)), zKn_cg h6 hn (e 0 (by omega) (by omega)) (fun i i1 i2 => e i (by omega) (by omega)) (fun j j1 j2 => a2 j (by omega) (by omega)), zKc_cg h7 hc (fun i i1 i2 => e i (by omega) (by omega)) (a2 22 (by omega) (by omega))⟩
  · rw [a1 0 (by omega), a1 1 (by omega), a1 2 (by omega), a1 3 (by omega), a1 5 (by omega), a1 6 (by omega), a1 7 (by omega), a1 8 (by omega), e 0 (by omega) (by omega), e 1 (by omega) (by omega), e 2 (by omega) (by omega), e 3 (by omega) (by omega)]
    exact h1
  · rw [e 4 (by omega) (by omega), e 5 (by omega) (by omega), e 6 (by omega) (by omega), e 7 (by omega) (by omega), e 8 (by omega) (by omega)]
    exact h2
  · rw [e 0 (by omega) (by omega), e 1 (by omega) (by omega), e 2 (by omega) (by omega), e 3 (by omega) (by omega)]
    exact h3
/-- what has been read is a world -/
theorem zK_ok {n : Nat} (h : zK a b c d A W) (hn : 1 ≤ n) (hn9 : n ≤ 1000) (h9 : W 9 = (n : Int)) (hA : A 13 4 = (n : Int)) : wOk W ∧ zTold 13 A W ∧ W 8 = 0 := by
  obtain ⟨⟨⟨g0, g1, g2, g3, g5, g6, g7, g8⟩, ⟨k4, k5, k6, k7, k8⟩, ⟨b0, b0', b1, b1', b2, b2', b3, b3'⟩, h4, h5, h6, h7⟩, hs, hw, hnn, hc⟩ := h
  refine ⟨?_, ?_, k8⟩
  · unfold wOk
    rw [k4, k5, k6, k7, k8, h9]
    refine ⟨⟨by omega, b0'⟩, ⟨by omega, b1'⟩, ⟨b2, b2'⟩, ⟨b3, b3'⟩, by omega, by omega, by omega, by omega, by omega, by omega, fun q => by omega, fun _ => ⟨b0, b1⟩, fun k hk => (hs k (by omega)).2, fun k hk => hw.1 k (by omega), fun p hp => ?_, fun k hk => ?_, fun i hi => absurd hi (Nat.not_lt_zero i)⟩
    · obtain ⟨q1, ⟨r1, r2, r3, r4, r5, r6, r7, r8⟩, q3⟩ := hnn.1 p (by omega)
      exact ⟨r1, r2, r3, r4, r5, r6, r7, r8, fun i hi => (q3 i hi).2⟩
    · rw [Int.toNat_natCast]
      exact (hc k (by omega)).2
  · unfold zTold
    rw [k4, k5, k6, k7, h9]
    refine ⟨g0, g1, g2, g3, hA, g5, g6, g7, g8, fun k hk => (hs k (by omega)).1, fun x hx => ?_, fun p hp => ?_, fun k hk => (hc k (by omega)).1⟩
    · unfold wfd
      rw [k5, Int.toNat_natCast]
      exact hw.2 x hx
    · obtain ⟨⟨r1, r2, r3, r4⟩, _, q3⟩ := hnn.1 p (by omega)
      exact ⟨r1, r2, r3, r4, fun i hi => (q3 i hi).1⟩
theorem zK_0 (h1 : ∀ j, 5 ≤ j → j < 9 → A 13 j = 0) (h2 : ∀ x, x < 8 → A 16 x = 0) (h3 : ∀ i, 4 ≤ i → i < 108 → W i = 0) (e0 : A 13 0 = W 0) (e1 : A 13 1 = W 1) (e2 : A 13 2 = W 2) (e3 : A 13 3 = W 3) (hb : 1 ≤ W 0 ∧ W 0 ≤ 8 ∧ 1 ≤ W 1 ∧ W 1 ≤ 20 ∧ 0 ≤ W 2 ∧ W 2 ≤ 3 ∧ 0 ≤ W 3 ∧ W 3 ≤ 10) : zK 0 0 0 0 A W :=
  ⟨⟨⟨e0, e1, e2, e3, h1 5 (by omega) (by omega), h1 6 (by omega) (by omega), h1 7 (by omega) (by omega), h1 8 (by omega) (by omega)⟩, ⟨h3 4 (by omega) (by omega), h3 5 (by omega) (by omega), h3 6 (by omega) (by omega), h3 7 (by omega) (by omega), h3 8 (by omega) (by omega)⟩, hb, by omega, by omega, by omega, by omega⟩, fun k hk => absurd hk (Nat.not_lt_zero k), ⟨fun k hk => absurd hk (Nat.not_lt_zero k), fun x hx => h2 x hx⟩, ⟨fun p hp => absurd hp (Nat.not_lt_zero p), fun p _ hp => h3 _ (by omega) (by omega)⟩, fun k hk => absurd hk (Nat.not_lt_zero k)⟩
theorem zK_street {f t : Int} (h : zK a b c d A W) (ha : a < 12) (hf : 0 ≤ f ∧ f < W 0) (ht : 0 ≤ t ∧ t < W 0) (hft : f ≠ t) (e1 : W' (10 + 2 * a) = f) (e2 : W' (10 + 2 * a + 1) = t) (e3 : W' 4 = ((a + 1 : Nat) : Int)) (e : ∀ i, i ≠ 10 + 2 * a → i ≠ 10 + 2 * a + 1 → i ≠ 4 → W' i = W i) (a1 : ∀ j, A' 14 j = if j = a then f else A 14 j) (a2 : ∀ j, A' 15 j = if j = a then t else A 15 j) (a3 : ∀ j, A' 13 j = if j = 5 then ((a + 1 : Nat) : Int) else A 13 j) (a4 : ∀ j, 16 ≤ j → j ≤ 22 → A' j = A j) : zK (a + 1) b c d A' W' := by
  obtain ⟨⟨h1, h2, h3, h4, h5, h6, h7⟩, hs, hw, hn, hc⟩ := h
  have w0 : W' 0 = W 0 := e 0 (by omega) (by omega) (by omega)
  refine ⟨⟨?_, ?_, ?_, by omega, h5, h6, h7⟩, fun k hk => ?_, zKw_cg h5 hw w0 (fun i i1 i2 => e i (by omega) (by omega) (by omega)) (a4 16 (by omega) (by omega)), zKn_cg h6 hn w0 (fun i i1 i2 => e i (by omega) (by omega) (by omega)) (fun j j1 j2 => a4 j (by omega) (by omega)), zKc_cg h7 hc (fun i i1 i2 => e i (by omega) (by omega) (by omega)) (a4 22 (by omega) (by omega))⟩
  · rw [a3 0, a3 1, a3 2, a3 3, a3 5, a3 6, a3 7, a3 8, w0, e 1 (by omega) (by omega) (by omega), e 2 (by omega) (by omega) (by omega), e 3 (by omega) (by omega) (by omega)]
    obtain ⟨g0, g1, g2, g3, g5, g6, g7, g8⟩ := h1
    exact ⟨g0, g1, g2, g3, rfl, g6, g7, g8⟩
  · obtain ⟨g4, g5, g6, g7, g8⟩ := h2
    rw [e3, e 5 (by omega) (by omega) (by omega), e 6 (by omega) (by omega) (by omega), e 7 (by omega) (by omega) (by omega), e 8 (by omega) (by omega) (by omega)]
    exact ⟨rfl, g5, g6, g7, g8⟩
  · rw [w0, e 1 (by omega) (by omega) (by omega), e 2 (by omega) (by omega) (by omega), e 3 (by omega) (by omega) (by omega)]
    exact h3
  · rw [a1, a2, w0]
    by_cases hka : k = a
    · rw [if_pos hka, if_pos hka, hka, e1, e2]
      exact ⟨⟨rfl, rfl⟩, hf.1, hf.2, ht.1, ht.2, hft⟩
    · rw [if_neg hka, if_neg hka, e (10 + 2 * k) (by omega) (by omega) (by omega), e (10 + 2 * k + 1) (by omega) (by omega) (by omega)]
      exact hs k (by omega)
theorem zKw_b {x : Nat} (h : zKw b A W) (hb : b ≤ 4) (hx : x < 8) : 0 ≤ A 16 x ∧ A 16 x ≤ 80 := by
  have q := zsum_le (n := b) (f := fun k => if W (34 + 2 * k) = (x : Int) then W (34 + 2 * k + 1) else 0) (B := 20) (fun k hk => by
    have r := h.1 k hk
    show 0 ≤ (if W (34 + 2 * k) = (x : Int) then W (34 + 2 * k + 1) else 0) ∧ (if W (34 + 2 * k) = (x : Int) then W (34 + 2 * k + 1) else 0) ≤ 20
    split <;> omega) (by decide) b (Nat.le_refl _)
  rw [h.2 x hx]
  omega
theorem zK_well {f : Nat} {v : Int} (h : zK a b c d A W) (hb : b < 4) (hf : (f : Int) < W 0) (hv : 1 ≤ v ∧ v ≤ 20) (e1 : W' (34 + 2 * b) = (f : Int)) (e2 : W' (34 + 2 * b + 1) = v) (e3 : W' 5 = ((b + 1 : Nat) : Int)) (e : ∀ i, i ≠ 34 + 2 * b → i ≠ 34 + 2 * b + 1 → i ≠ 5 → W' i = W i) (a1 : ∀ j, A' 16 j = if j = f then w32 (A 16 f + v) else A 16 j) (a3 : ∀ j, A' 13 j = if j = 6 then ((b + 1 : Nat) : Int) else A 13 j) (a4 : ∀ j, 14 ≤ j → j ≤ 22 → j ≠ 16 → A' j = A j) : zK a (b + 1) c d A' W' := by
  obtain ⟨⟨h1, h2, h3, h4, h5, h6, h7⟩, hs, hw, hn, hc⟩ := h
  have w0 : W' 0 = W 0 := e 0 (by omega) (by omega) (by omega)
  have hf8 : f < 8 := by omega
  have hq := zKw_b hw h5 hf8
  refine ⟨⟨?_, ?_, ?_, h4, by omega, h6, h7⟩, zKs_cg h4 hs w0 (fun i i1 i2 => e i (by omega) (by omega) (by omega)) (a4 14 (by omega) (by omega) (by omega)) (a4 15 (by omega) (by omega) (by omega)), ⟨fun k hk => ?_, fun x hx => ?_⟩, zKn_cg h6 hn w0 (fun i i1 i2 => e i (by omega) (by omega) (by omega)) (fun j j1 j2 => a4 j (by omega) (by omega) (by omega)), zKc_cg h7 hc (fun i i1 i2 => e i (by omega) (by omega) (by omega)) (a4 22 (by omega) (by omega) (by omega))⟩
  · rw [a3 0, a3 1, a3 2, a3 3, a3 5, a3 6, a3 7, a3 8, w0, e 1 (by omega) (by omega) (by omega), e 2 (by omega) (by omega) (by omega), e 3 (by omega) (by omega) (by omega)]
    obtain ⟨g0, g1, g2, g3, g5, g6, g7, g8⟩ := h1
    exact ⟨g0, g1, g2, g3, g5, rfl, g7, g8⟩
  · obtain ⟨g4, g5, g6, g7, g8⟩ := h2
    rw [e3, e 4 (by omega) (by omega) (by omega), e 6 (by omega) (by omega) (by omega), e 7 (by omega) (by omega) (by omega), e 8 (by omega) (by omega) (by omega)]
    exact ⟨g4, rfl, g6, g7, g8⟩
  · rw [w0, e 1 (by omega) (by omega) (by omega), e 2 (by omega) (by omega) (by omega), e 3 (by omega) (by omega) (by omega)]
    exact h3
  · rw [w0]
    by_cases hka : k = b
    · rw [hka, e1, e2]
      exact ⟨by omega, hf, hv.1, hv.2⟩
    · rw [e (34 + 2 * k) (by omega) (by omega) (by omega), e (34 + 2 * k + 1) (by omega) (by omega) (by omega)]
      exact hw.1 k (by omega)
  · have es : zsum (b + 1) (fun k => if W' (34 + 2 * k) = (x : Int) then W' (34 + 2 * k + 1) else 0) = zsum b (fun k => if W' (34 + 2 * k) = (x : Int) then W' (34 + 2 * k + 1) else 0) + (if W' (34 + 2 * b) = (x : Int) then W' (34 + 2 * b + 1) else 0) := rfl
    have es2 : zsum b (fun k => if W' (34 + 2 * k) = (x : Int) then W' (34 + 2 * k + 1) else 0) = zsum b (fun k => if W (34 + 2 * k) = (x : Int) then W (34 + 2 * k + 1) else 0) := zsum_congr (fun k hk => by rw [e (34 + 2 * k) (by omega) (by omega) (by omega), e (34 + 2 * k + 1) (by omega) (by omega) (by omega)])
    rw [es, es2, ← hw.2 x hx, a1, e1, e2]
    by_cases hxf : x = f
    · rw [if_pos hxf, if_pos (by omega), hxf, w32_eq (by omega) (by omega)]
    · rw [if_neg hxf, if_neg (by omega), Int.add_zero]
theorem zK_name {l : Nat} (h : zK a b c d A W) (hc5 : c < 5) (hb : 0 ≤ W' (42 + 12 * c) ∧ W' (42 + 12 * c) < W 0 ∧ 0 ≤ W' (42 + 12 * c + 1) ∧ W' (42 + 12 * c + 1) ≤ 40 ∧ 0 ≤ W' (42 + 12 * c + 2) ∧ W' (42 + 12 * c + 2) ≤ 59) (hl : W' (42 + 12 * c + 3) = (l : Int)) (hl8 : l ≤ 8) (hi : ∀ i, i < l → A' 21 (8 * c + i) = W' (42 + 12 * c + 4 + i) ∧ 0 ≤ W' (42 + 12 * c + 4 + i) ∧ W' (42 + 12 * c + 4 + i) < W 0) (e3 : W' 6 = ((c + 1 : Nat) : Int)) (e : ∀ i, ¬ (42 + 12 * c ≤ i ∧ i < 42 + 12 * c + 12) → i ≠ 6 → W' i = W i) (a1 : A' 17 c = W' (42 + 12 * c) ∧ A' 18 c = W' (42 + 12 * c + 1) ∧ A' 19 c = W' (42 + 12 * c + 2) ∧ A' 20 c = W' (42 + 12 * c + 3)) (a2 : ∀ j, j ≠ c → A' 17 j = A 17 j ∧ A' 18 j = A 18 j ∧ A' 19 j = A 19 j ∧ A' 20 j = A 20 j) (a21 : ∀ j, j < 8 * c → A' 21 j = A 21 j) (a3 : ∀ j, A' 13 j = if j = 7 then ((c + 1 : Nat) : Int) else A 13 j) (a4 : ∀ j, 14 ≤ j → j ≤ 22 → ¬ (17 ≤ j ∧ j ≤ 21) → A' j = A j) : zK a b (c + 1) d A' W' := by
  obtain ⟨⟨h1, h2, h3, h4, h5, h6, h7⟩, hs, hw, hn, hc⟩ := h
  have w0 : W' 0 = W 0 := e 0 (by omega) (by omega)
  refine ⟨⟨?_, ?_, ?_, h4, h5, by omega, h7⟩, zKs_cg h4 hs w0 (fun i i1 i2 => e i (by omega) (by omega)) (a4 14 (by omega) (by omega) (by omega)) (a4 15 (by omega) (by omega) (by omega)), zKw_cg h5 hw w0 (fun i i1 i2 => e i (by omega) (by omega)) (a4 16 (by omega) (by omega) (by omega)), ⟨fun p hp => ?_, fun p p1 p2 => ?_⟩, fun k hk => ?_⟩
  · rw [a3 0, a3 1, a3 2, a3 3, a3 5, a3 6, a3 7, a3 8, w0, e 1 (by omega) (by omega), e 2 (by omega) (by omega), e 3 (by omega) (by omega)]
    obtain ⟨g0, g1, g2, g3, g5, g6, g7, g8⟩ := h1
    exact ⟨g0, g1, g2, g3, g5, g6, rfl, g8⟩
  · obtain ⟨g4, g5, g6, g7, g8⟩ := h2
    rw [e3, e 4 (by omega) (by omega), e 5 (by omega) (by omega), e 7 (by omega) (by omega), e 8 (by omega) (by omega)]
    exact ⟨g4, g5, rfl, g7, g8⟩
  · rw [w0, e 1 (by omega) (by omega), e 2 (by omega) (by omega), e 3 (by omega) (by omega)]
    exact h3
  · by_cases hpc : p = c
    · rw [hpc, w0]
      obtain ⟨b1, b2, b3, b4, b5, b6⟩ := hb
      refine ⟨a1, ⟨b1, b2, b3, b4, b5, b6, by omega, by omega⟩, fun i hi2 => hi i (by omega)⟩
    · obtain ⟨q1, q2, q3⟩ := hn.1 p (by omega)
      obtain ⟨r1, r2, r3, r4⟩ := a2 p hpc
      rw [r1, r2, r3, r4, w0, e (42 + 12 * p) (by omega) (by omega), e (42 + 12 * p + 1) (by omega) (by omega), e (42 + 12 * p + 2) (by omega) (by omega), e (42 + 12 * p + 3) (by omega) (by omega)]
      refine ⟨q1, q2, fun i hi2 => ?_⟩
      rw [a21 _ (by omega), e (42 + 12 * p + 4 + i) (by omega) (by omega)]
      exact q3 i hi2
  · rw [e (42 + 12 * p + 3) (by omega) (by omega)]
    exact hn.2 p (by omega) p2
  · obtain ⟨q1, t, q2, q3, q4⟩ := hc k hk
    rw [a4 22 (by omega) (by omega) (by omega), e (102 + k) (by omega) (by omega)]
    have hp : 2 ^ c ≤ 2 ^ (c + 1) := Nat.pow_le_pow_right (by decide) (by omega)
    exact ⟨q1, t, q2, by omega, q4⟩
theorem zK_contract {t : Nat} (h : zK a b c d A W) (hd : d < 6) (ht : t < 2 ^ c) (hp : zpc 12 t = 2 ∨ zpc 12 t = 3) (e1 : W' (102 + d) = (t : Int)) (e3 : W' 7 = ((d + 1 : Nat) : Int)) (e : ∀ i, i ≠ 102 + d → i ≠ 7 → W' i = W i) (a1 : ∀ j, A' 22 j = if j = d then (t : Int) else A 22 j) (a3 : ∀ j, A' 13 j = if j = 8 then ((d + 1 : Nat) : Int) else A 13 j) (a4 : ∀ j, 14 ≤ j → j < 22 → A' j = A j) : zK a b c (d + 1) A' W' := by
  obtain ⟨⟨h1, h2, h3, h4, h5, h6, h7⟩, hs, hw, hn, hc⟩ := h
  have w0 : W' 0 = W 0 := e 0 (by omega) (by omega)
  refine ⟨⟨?_, ?_, ?_, h4, h5, h6, by omega⟩, zKs_cg h4 hs w0 (fun i i1 i2 => e i (by omega) (by omega)) (a4 14 (by omega) (by omega)) (a4 15 (by omega) (by omega)), zKw_cg h5 hw w0 (fun i i1 i2 => e i (by omega) (by omega)) (a4 16 (by omega) (by omega)), zKn_cg h6 hn w0 (fun i i1 i2 => e i (by omega) (by omega)) (fun j j1 j2 => a4 j (by omega) (by omega)), fun k hk => ?_⟩
  · rw [a3 0, a3 1, a3 2, a3 3, a3 5, a3 6, a3 7, a3 8, w0, e 1 (by omega) (by omega), e 2 (by omega) (by omega), e 3 (by omega) (by omega)]
    obtain ⟨g0, g1, g2, g3, g5, g6, g7, g8⟩ := h1
    exact ⟨g0, g1, g2, g3, g5, g6, g7, rfl⟩
  · obtain ⟨g4, g5, g6, g7, g8⟩ := h2
    rw [e3, e 4 (by omega) (by omega), e 5 (by omega) (by omega), e 6 (by omega) (by omega), e 8 (by omega) (by omega)]
    exact ⟨g4, g5, g6, rfl, g8⟩
  · rw [w0, e 1 (by omega) (by omega), e 2 (by omega) (by omega), e 3 (by omega) (by omega)]
    exact h3
  · rw [a1]
    by_cases hkd : k = d
    · rw [if_pos hkd, hkd, e1]
      exact ⟨rfl, t, rfl, ht, hp⟩
    · rw [if_neg hkd, e (102 + k) (by omega) (by omega)]
      exact hc k (by omega)
end ZKK
