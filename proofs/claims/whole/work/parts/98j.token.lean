/-! Tokens, of both. -/
def zknd (x : Int) : Int := if 97 ≤ x ∧ x ≤ 122 then 1 else if 48 ≤ x ∧ x ≤ 57 then 2 else if x = 59 then 3 else 4
theorem lR_kindOf_ok {x : Int} {M : Nat → Nat → Int} : lR_kindOf x M = some (zknd x) := by
  unfold lR_kindOf lR_kindOf_c14 zknd
  repeat' split
  all_goals first | rfl | (exfalso; omega)
theorem zknd_1 {x : Int} : zknd x = 1 ↔ 97 ≤ x ∧ x ≤ 122 := by
  unfold zknd
  repeat' split
  all_goals omega
theorem zknd_2 {x : Int} : zknd x = 2 ↔ 48 ≤ x ∧ x ≤ 57 := by
  unfold zknd
  repeat' split
  all_goals omega
theorem zknd_b {x : Int} : 1 ≤ zknd x ∧ zknd x ≤ 4 := by
  unfold zknd
  repeat' split
  all_goals omega
theorem zknd_3 {x : Int} (h1 : zknd x ≠ 1) (h2 : zknd x ≠ 2) : zknd x = if x = 59 then 3 else 4 := by
  rw [Ne, zknd_1] at h1
  rw [Ne, zknd_2] at h2
  unfold zknd
  rw [if_neg h1, if_neg h2]
/-- the number told by some signs, none above a million -/
def zvv (T : Nat → Int) (st : Nat) : Nat → Int
  | 0 => 0
  | n + 1 => zmin 1000000 (zvv T st n * 10 + T (st + n) - 48)
theorem zvv_b {T : Nat → Int} {st : Nat} : ∀ {n : Nat}, (∀ j, j < n → 48 ≤ T (st + j) ∧ T (st + j) ≤ 57) → 0 ≤ zvv T st n ∧ zvv T st n ≤ 1000000
  | 0, _ => ⟨Int.le_refl _, by show (0 : Int) ≤ 1000000; omega⟩
  | n + 1, h => by
    have ih := zvv_b (n := n) (fun j hj => h j (by omega))
    have q := h n (by omega)
    show 0 ≤ zmin 1000000 (zvv T st n * 10 + T (st + n) - 48) ∧ zmin 1000000 (zvv T st n * 10 + T (st + n) - 48) ≤ 1000000
    unfold zmin
    split <;> omega
/-- from a token's first sign: kind, end, number -/
def zTe (T : Nat → Int) (s st : Nat) (k : Int) (e : Nat) (v : Int) : Prop := st ≤ e ∧ e ≤ s ∧ ((st = s ∧ k = 0 ∧ e = st ∧ v = 0) ∨ (st < s ∧ st < e ∧ k = zknd (T st) ∧ ((k = 1 ∨ k = 2) → (∀ i, st ≤ i → i < e → zknd (T i) = k) ∧ (e < s → zknd (T e) ≠ k)) ∧ (k ≠ 1 → k ≠ 2 → e = st + 1) ∧ v = if k = 2 then zvv T st (e - st) else 0))
def zTo (T : Nat → Int) (s st : Nat) (M M' : Nat → Nat → Int) : Prop := ∃ (k : Int) (e : Nat) (v : Int), zTe T s st k e v ∧ (∀ c, c ≠ 1 → M' c = M c) ∧ (∀ f, f ≠ 4 → f ≠ 6 → f ≠ 7 → M' 1 f = M 1 f) ∧ M' 1 4 = k ∧ M' 1 6 = (e : Int) ∧ M' 1 7 = v
section ZTK
variable {T : Nat → Int} {s : Nat} {M : Nat → Nat → Int}
theorem lR_takeToken_c188_ok {st e : Nat} {k : Int} (h2 : M 2 = T) (h4 : M 1 4 = k) (h6 : M 1 6 = (e : Int)) (h7 : M 1 7 = 0) (hse : st ≤ e) (he : e ≤ 900) (hd : k = 2 → ∀ i, st ≤ i → i < e → zknd (T i) = 2) : zS (lR_takeToken_c188 zN (st : Int) M) (fun M' => (∀ c, c ≠ 1 → M' c = M c) ∧ (∀ f, f ≠ 7 → M' 1 f = M 1 f) ∧ M' 1 7 = if k = 2 then zvv T st (e - st) else 0) := by
  by_cases hk : k = 2
  · rw [if_pos hk]
    have hd := hd hk
    rw [hk] at h4
    refine loopI (fun m i N => lR_takeToken_c188 m (i : Int) N) (fun i N => (∀ c, c ≠ 1 → N c = M c) ∧ (∀ f, f ≠ 7 → N 1 f = M 1 f) ∧ N 1 7 = zvv T st (i - st)) st e hse ⟨fun _ _ => rfl, fun _ _ => rfl, ?_⟩ ?_ ?_ zN (zN_gt (by omega))
    · rw [h7, show st - st = 0 by omega]; rfl
    · intro m i N h1 hi ⟨b1, b2, b3⟩ kk
      show zS (lR_takeToken_c188 (m + 1) (i : Int) N) _
      rw [lR_takeToken_c188]
      refine zS_it (by rw [b2 6 (by omega), h6]; omega) ?_
      refine zS_it (by rw [b2 4 (by omega), h4]) ?_
      refine zS_b (rdI_n sh_2 (by omega)) ?_
      refine zS_b rfl ?_
      have qb : 0 ≤ zvv T st (i - st) ∧ zvv T st (i - st) ≤ 1000000 := zvv_b (fun j hj => zknd_2.mp (hd _ (by omega) (by omega)))
      have qt := zknd_2.mp (hd i h1 hi)
      have e2 : N 2 i = T i := by rw [b1 2 (by omega), h2]
      rw [w1 (by omega), b3, e2]
      have ew : w32 (w32 (w32 (zvv T st (i - st) * 10) + T i) - 48) = zvv T st (i - st) * 10 + T i - 48 := by
        simp (disch := omega) only [w32_eq]
      rw [ew]
      refine kk _ ⟨fun c hc => (zup_c hc).trans (b1 c hc), fun f hf => (zup_i hf).trans (b2 f hf), ?_⟩
      rw [zup_s, show i + 1 - st = (i - st) + 1 by omega]
      show _ = zmin 1000000 (zvv T st (i - st) * 10 + T (st + (i - st)) - 48)
      rw [show st + (i - st) = i by omega]
    · intro m N hI
      show zS (lR_takeToken_c188 (m + 1) (e : Int) N) _
      rw [lR_takeToken_c188]
      refine zS_ie (by rw [hI.2.1 6 (by omega), h6]; omega) ?_
      exact zS_r hI
  · rw [if_neg hk]
    have hr : zS (some M) (fun M' => (∀ c, c ≠ 1 → M' c = M c) ∧ (∀ f, f ≠ 7 → M' 1 f = M 1 f) ∧ M' 1 7 = 0) := zS_r ⟨fun _ _ => rfl, fun _ _ => rfl, h7⟩
    show zS (lR_takeToken_c188 (9999 + 1) (st : Int) M) _
    rw [lR_takeToken_c188]
    refine zS_if (fun _ => ?_) (fun _ => hr)
    exact zS_ie (by rw [h4]; exact hk) hr
/-- what ends a token -/
theorem lR_takeToken_end {st e : Nat} {k : Int} {M0 : Nat → Nat → Int} (h0 : ∀ c, c ≠ 1 → M c = M0 c) (h1 : ∀ f, f ≠ 4 → f ≠ 6 → f ≠ 7 → M 1 f = M0 1 f) (h2 : M 2 = T) (h4 : M 1 4 = k) (h5 : M 1 5 = (st : Int)) (h6 : M 1 6 = (e : Int)) (hs : s ≤ 900) (hT : ∀ v, v = (if k = 2 then zvv T st (e - st) else 0) → zTe T s st k e v) (hd : k = 2 → ∀ i, st ≤ i → i < e → zknd (T i) = 2) : zS ((some (zup M 1 7 0)).bind (fun M180 => lR_takeToken_c188 zN (M180 1 5) M180)) (zTo T s st M0) := by
  have hte := hT _ rfl
  have hse := hte.1
  have hes := hte.2.1
  refine zS_b rfl ?_
  rw [zup_i (show 5 ≠ 7 by omega), h5]
  refine zS_mono (lR_takeToken_c188_ok (T := T) (k := k) (e := e) (by rw [zup_c (by omega), h2]) (by rw [zup_i (by omega), h4]) (by rw [zup_i (by omega), h6]) zup_s hse (by omega) hd) ?_
  intro M' ⟨a1, a2, a3⟩
  refine ⟨k, e, _, hte, fun c hc => ?_, fun f f1 f2 f3 => ?_, ?_, ?_, a3⟩
  · rw [a1 c hc, zup_c hc, h0 c hc]
  · rw [a2 f f3, zup_i f3, h1 f f1 f2 f3]
  · rw [a2 4 (by omega), zup_i (by omega), h4]
  · rw [a2 6 (by omega), zup_i (by omega), h6]
theorem lR_takeToken_c135_ok {st : Nat} {k : Int} {M0 : Nat → Nat → Int} (h0 : ∀ c, c ≠ 1 → M c = M0 c) (h1 : ∀ f, f ≠ 4 → f ≠ 6 → f ≠ 7 → M 1 f = M0 1 f) (h1' : M 1 1 = (s : Int)) (h2 : M 2 = T) (h4 : M 1 4 = k) (h5 : M 1 5 = (st : Int)) (h6 : M 1 6 = ((st + 1 : Nat) : Int)) (hs : s ≤ 900) (hst : st < s) (hk : k = zknd (T st)) (hk2 : k = 1 ∨ k = 2) : zS (lR_takeToken_c135 zN M) (zTo T s st M0) := by
  have hx : ∀ (i : Nat) (N : Nat → Nat → Int), st < i → i ≤ s → (∀ c, c ≠ 1 → N c = M c) → (∀ f, f ≠ 6 → N 1 f = M 1 f) → N 1 6 = (i : Int) → (∀ j, st ≤ j → j < i → zknd (T j) = k) → (i < s → zknd (T i) ≠ k) → zS ((some (zup N 1 7 0)).bind (fun M180 => lR_takeToken_c188 zN (M180 1 5) M180)) (zTo T s st M0) := fun i N i1 i2 b1 b2 b3 b4 b5 => by
    refine lR_takeToken_end (k := k) (e := i) (fun c hc => (b1 c hc).trans (h0 c hc)) (fun f f1 f2 f3 => (b2 f f2).trans (h1 f f1 f2 f3)) ((b1 2 (by omega)).trans h2) ((b2 4 (by omega)).trans h4) ((b2 5 (by omega)).trans h5) b3 hs (fun v hv => ⟨by omega, i2, Or.inr ⟨hst, i1, hk, fun _ => ⟨b4, b5⟩, fun n1 n2 => ?_, hv⟩⟩) (fun e j j1 j2 => (b4 j j1 j2).trans e)
    rcases hk2 with h | h
    · exact absurd h n1
    · exact absurd h n2
  refine loopI (fun m (_ : Nat) N => lR_takeToken_c135 m N) (fun i N => (∀ c, c ≠ 1 → N c = M c) ∧ (∀ f, f ≠ 6 → N 1 f = M 1 f) ∧ N 1 6 = (i : Int) ∧ ∀ j, st ≤ j → j < i → zknd (T j) = k) (st + 1) s (by omega) ⟨fun _ _ => rfl, fun _ _ => rfl, h6, fun j j1 j2 => ?_⟩ ?_ ?_ zN (zN_gt (by omega))
  · rw [show j = st by omega, hk]
  · intro m i N i1 i2 ⟨b1, b2, b3, b4⟩ kk
    show zS (lR_takeToken_c135 (m + 1) N) _
    rw [lR_takeToken_c135]
    refine zS_it (by rw [b3, b2 1 (by omega), h1']; omega) ?_
    rw [b3]
    refine zS_b (rdI_n sh_2 (by omega)) ?_
    refine zS_b lR_kindOf_ok ?_
    rw [b1 2 (by omega), h2, b2 4 (by omega), h4]
    by_cases c : zknd (T i) = k
    · rw [if_pos c]
      refine zS_b rfl ?_
      rw [w1 (by omega)]
      refine kk _ ⟨fun c hc => (zup_c hc).trans (b1 c hc), fun f hf => (zup_i hf).trans (b2 f hf), zup_s, fun j j1 j2 => ?_⟩
      by_cases e : j = i
      · rw [e, c]
      · exact b4 j j1 (by omega)
    · rw [if_neg c]
      exact hx i N (by omega) (by omega) b1 b2 b3 b4 (fun _ => c)
  · intro m N ⟨b1, b2, b3, b4⟩
    show zS (lR_takeToken_c135 (m + 1) N) _
    rw [lR_takeToken_c135]
    refine zS_ie (by rw [b3, b2 1 (by omega), h1']; omega) ?_
    exact hx s N (by omega) (by omega) b1 b2 b3 b4 (fun q => absurd q (by omega))
theorem lR_takeToken_c60_ok {st : Nat} (h1 : M 1 1 = (s : Int)) (h2 : M 2 = T) (h5 : M 1 5 = (st : Int)) (hs : s ≤ 900) (hst : st ≤ s) : zS (lR_takeToken_c60 M) (zTo T s st M) := by
  have hz : zis 4 1 = true := zis_4_1
  unfold lR_takeToken_c60
  by_cases c : st < s
  · refine zS_it (by rw [h5, h1]; omega) ?_
    rw [h5]
    refine zS_b (rdI_n sh_2 (by omega)) ?_
    refine zS_b lR_kindOf_ok ?_
    rw [h2]
    unfold lR_takeToken_c88
    rw [if_pos hz]
    refine zS_b rfl ?_
    have e5 : zup M 1 4 (zknd (T st)) 1 5 = (st : Int) := by rw [zup_i (by omega), h5]
    have e1 : zup M 1 4 (zknd (T st)) 1 1 = (s : Int) := by rw [zup_i (by omega), h1]
    rw [e5, e1, if_pos (by omega), w1 (by omega)]
    unfold lR_takeToken_c116
    rw [if_pos hz]
    refine zS_b rfl ?_
    have g0 : ∀ c, c ≠ 1 → zup (zup M 1 4 (zknd (T st))) 1 6 ((st + 1 : Nat) : Int) c = M c := fun c hc => (zup_c hc).trans (zup_c hc)
    have g1 : ∀ f, f ≠ 4 → f ≠ 6 → f ≠ 7 → zup (zup M 1 4 (zknd (T st))) 1 6 ((st + 1 : Nat) : Int) 1 f = M 1 f := fun f f1 f2 _ => (zup_i f2).trans (zup_i f1)
    have g4 : zup (zup M 1 4 (zknd (T st))) 1 6 ((st + 1 : Nat) : Int) 1 4 = zknd (T st) := (zup_i (by omega)).trans zup_s
    have g6 : zup (zup M 1 4 (zknd (T st))) 1 6 ((st + 1 : Nat) : Int) 1 6 = ((st + 1 : Nat) : Int) := zup_s
    generalize zup (zup M 1 4 (zknd (T st))) 1 6 ((st + 1 : Nat) : Int) = N at g0 g1 g4 g6 ⊢
    have g5 : N 1 5 = (st : Int) := (g1 5 (by omega) (by omega) (by omega)).trans h5
    have g2 : N 2 = T := (g0 2 (by omega)).trans h2
    by_cases c1 : zknd (T st) = 1
    · rw [if_pos (g4.trans c1)]
      exact lR_takeToken_c135_ok g0 g1 ((g1 1 (by omega) (by omega) (by omega)).trans h1) g2 g4 g5 g6 hs c rfl (Or.inl c1)
    rw [if_neg (fun e => c1 (g4.symm.trans e))]
    by_cases c2 : zknd (T st) = 2
    · rw [if_pos (g4.trans c2)]
      exact lR_takeToken_c135_ok g0 g1 ((g1 1 (by omega) (by omega) (by omega)).trans h1) g2 g4 g5 g6 hs c rfl (Or.inr c2)
    rw [if_neg (fun e => c2 (g4.symm.trans e))]
    refine lR_takeToken_end (k := zknd (T st)) (e := st + 1) g0 g1 g2 g4 g5 g6 hs (fun v hv => ⟨by omega, by omega, Or.inr ⟨c, by omega, rfl, fun q => ?_, fun _ _ => rfl, hv⟩⟩) (fun q => absurd q c2)
    rcases q with q | q
    · exact absurd q c1
    · exact absurd q c2
  · refine zS_ie (by rw [h5, h1]; omega) ?_
    unfold lR_takeToken_c88
    rw [if_pos hz]
    refine zS_b rfl ?_
    have e5 : zup M 1 4 0 1 5 = (st : Int) := by rw [zup_i (by omega), h5]
    have e1 : zup M 1 4 0 1 1 = (s : Int) := by rw [zup_i (by omega), h1]
    rw [e5, e1, if_neg (by omega)]
    unfold lR_takeToken_c116
    rw [if_pos hz]
    refine zS_b rfl ?_
    have g0 : ∀ c, c ≠ 1 → zup (zup M 1 4 0) 1 6 (st : Int) c = M c := fun c hc => (zup_c hc).trans (zup_c hc)
    have g1 : ∀ f, f ≠ 4 → f ≠ 6 → f ≠ 7 → zup (zup M 1 4 0) 1 6 (st : Int) 1 f = M 1 f := fun f f1 f2 _ => (zup_i f2).trans (zup_i f1)
    have g4 : zup (zup M 1 4 0) 1 6 (st : Int) 1 4 = 0 := (zup_i (by omega)).trans zup_s
    have g6 : zup (zup M 1 4 0) 1 6 (st : Int) 1 6 = (st : Int) := zup_s
    generalize zup (zup M 1 4 0) 1 6 (st : Int) = N at g0 g1 g4 g6 ⊢
    have g5 : N 1 5 = (st : Int) := (g1 5 (by omega) (by omega) (by omega)).trans h5
    have g2 : N 2 = T := (g0 2 (by omega)).trans h2
    rw [if_neg (by rw [g4]; decide), if_neg (by rw [g4]; decide)]
    exact lR_takeToken_end (k := 0) (e := st) g0 g1 g2 g4 g5 g6 hs (fun v hv => ⟨by omega, by omega, Or.inl ⟨by omega, rfl, rfl, hv⟩⟩) (fun q => absurd q (by decide))
/-- from the end of the last token -/
def zTf (T : Nat → Int) (s b st : Nat) : Prop := b ≤ st ∧ st ≤ s ∧ (∀ i, b ≤ i → i < st → T i = 32 ∨ T i = 10) ∧ (st < s → T st ≠ 32 ∧ T st ≠ 10)
theorem lR_takeToken_ok {b : Nat} (h1 : M 1 1 = (s : Int)) (h2 : M 2 = T) (h6 : M 1 6 = (b : Int)) (hs : s ≤ 900) (hb : b ≤ s) : zS (lR_takeToken M) (fun M' => ∃ (st : Nat) (k : Int) (e : Nat) (v : Int), zTf T s b st ∧ zTe T s st k e v ∧ (∀ c, c ≠ 1 → M' c = M c) ∧ (∀ f, f < 4 → M' 1 f = M 1 f) ∧ M' 1 4 = k ∧ M' 1 5 = (st : Int) ∧ M' 1 6 = (e : Int) ∧ M' 1 7 = v) := by
  unfold lR_takeToken
  refine zS_b rfl ?_
  rw [h6]
  have hx : ∀ (i : Nat) (N : Nat → Nat → Int), b ≤ i → i ≤ s → (∀ c, c ≠ 1 → N c = M c) → (∀ f, f ≠ 5 → N 1 f = M 1 f) → N 1 5 = (i : Int) → (∀ j, b ≤ j → j < i → T j = 32 ∨ T j = 10) → (i < s → T i ≠ 32 ∧ T i ≠ 10) → zS (lR_takeToken_c60 N) (fun M' => ∃ (st : Nat) (k : Int) (e : Nat) (v : Int), zTf T s b st ∧ zTe T s st k e v ∧ (∀ c, c ≠ 1 → M' c = M c) ∧ (∀ f, f < 4 → M' 1 f = M 1 f) ∧ M' 1 4 = k ∧ M' 1 5 = (st : Int) ∧ M' 1 6 = (e : Int) ∧ M' 1 7 = v) := fun i N i1 i2 b1 b2 b3 b4 b5 => by
    refine zS_mono (lR_takeToken_c60_ok (T := T) (s := s) (st := i) ((b2 1 (by omega)).trans h1) ((b1 2 (by omega)).trans h2) b3 hs i2) ?_
    intro M' ⟨k, e, v, a1, a2, a3, a4, a5, a6⟩
    exact ⟨i, k, e, v, ⟨i1, i2, b4, b5⟩, a1, fun c hc => (a2 c hc).trans (b1 c hc), fun f hf => (a3 f (by omega) (by omega) (by omega)).trans (b2 f (by omega)), a4, (a3 5 (by omega) (by omega) (by omega)).trans b3, a5, a6⟩
  refine loopI (fun m (_ : Nat) N => lR_takeToken_c8 m N) (fun i N => (∀ c, c ≠ 1 → N c = M c) ∧ (∀ f, f ≠ 5 → N 1 f = M 1 f) ∧ N 1 5 = (i : Int) ∧ ∀ j, b ≤ j → j < i → T j = 32 ∨ T j = 10) b s hb ⟨fun c hc => zup_c hc, fun f hf => zup_i hf, zup_s, fun j j1 j2 => by omega⟩ ?_ ?_ zN (zN_gt (by omega))
  · intro m i N i1 i2 ⟨b1, b2, b3, b4⟩ kk
    show zS (lR_takeToken_c8 (m + 1) N) _
    rw [lR_takeToken_c8]
    refine zS_it (by rw [b3, b2 1 (by omega), h1]; omega) ?_
    rw [b3]
    refine zS_b (rdI_n sh_2 (by omega)) ?_
    rw [b1 2 (by omega), h2, w1 (by omega)]
    have hgo : T i = 32 ∨ T i = 10 → zS (lR_takeToken_c8 m (zup N 1 5 ((i + 1 : Nat) : Int))) _ := fun q => kk _ ⟨fun c hc => (zup_c hc).trans (b1 c hc), fun f hf => (zup_i hf).trans (b2 f hf), zup_s, fun j j1 j2 => by
      by_cases e : j = i
      · rw [e]; exact q
      · exact b4 j j1 (by omega)⟩
    refine zS_if (fun c => zS_b rfl (hgo (Or.inl c))) (fun c1 => ?_)
    refine zS_b (rdI_n sh_2 (by omega)) ?_
    rw [b1 2 (by omega), h2]
    refine zS_if (fun c => zS_b rfl (hgo (Or.inr c))) (fun c2 => ?_)
    exact hx i N i1 (by omega) b1 b2 b3 b4 (fun _ => ⟨c1, c2⟩)
  · intro m N ⟨b1, b2, b3, b4⟩
    show zS (lR_takeToken_c8 (m + 1) N) _
    rw [lR_takeToken_c8]
    refine zS_ie (by rw [b3, b2 1 (by omega), h1]; omega) ?_
    exact hx s N hb (by omega) b1 b2 b3 b4 (fun q => absurd q (by omega))
end ZTK
