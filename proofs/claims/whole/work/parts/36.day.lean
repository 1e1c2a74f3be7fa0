/-! The day, told without a memory. -/
abbrev zE := Nat × Nat × (Nat → Int) × (Nat → Int) × (Int → Int) × (Nat → Nat → Int) × (Int → Int → Bool) × (Nat → Bool) × Int × (Nat → Nat)
def zeB (E : zE) : Nat := E.1
def zeC (E : zE) : Nat := E.2.1
def zeH (E : zE) : Nat → Int := E.2.2.1
def zeI (E : zE) : Nat → Int := E.2.2.2.1
def zeF (E : zE) : Int → Int := E.2.2.2.2.1
def zeA (E : zE) : Nat → Nat → Int := E.2.2.2.2.2.1
def zeJ (E : zE) : Int → Int → Bool := E.2.2.2.2.2.2.1
def zeR (E : zE) : Nat → Bool := E.2.2.2.2.2.2.2.1
def zeL (E : zE) : Int := E.2.2.2.2.2.2.2.2.1
def zeP (E : zE) : Nat → Nat := E.2.2.2.2.2.2.2.2.2
/-- places, ink, at which step signed, at which corner -/
abbrev zD := (Nat → Int) × (Nat → Int) × (Nat → Int) × (Nat → Int)
def zdP (s : zD) : Nat → Int := s.1
def zdK (s : zD) : Nat → Int := s.2.1
def zdA (s : zD) : Nat → Int := s.2.2.1
def zdI (s : zD) : Nat → Int := s.2.2.2
def zdMay (E : zE) (n k : Nat) (x : Int) (s : zD) : Bool :=
  (decide (zeL E ≠ 1) || zal (zeB E) (fun p => (zeP E k).testBit p || decide (zdP s p ≠ x) || decide (zdK s p ≤ 0))) && zal k (fun o => decide (zdA s o ≠ (n : Int)) || ((decide (zeL E ≠ 2) || decide (zdI s o ≠ x)) && (decide (zeL E ≠ 3) || decide (zeP E o &&& zeP E k = 0))))
theorem zdMay_1 {E : zE} {n k : Nat} {x : Int} {s : zD} : zdMay E n k x s = true ↔ (zeL E = 1 → ∀ p, p < zeB E → (zeP E k).testBit p = false → zdP s p = x → zdK s p ≤ 0) ∧ (∀ o, o < k → zdA s o = (n : Int) → (zeL E = 2 → zdI s o ≠ x) ∧ (zeL E = 3 → zeP E o &&& zeP E k = 0)) := by
  unfold zdMay
  rw [Bool.and_eq_true, Bool.or_eq_true, decide_eq_true_eq, zal_1, zal_1]
  simp only [Bool.or_eq_true, Bool.and_eq_true, decide_eq_true_eq]
  constructor
  · intro ⟨h1, h2⟩
    refine ⟨fun e p hp hb hx => ?_, fun o ho e => ⟨fun e2 => ?_, fun e3 => ?_⟩⟩
    · rcases h1 with h1 | h1
      · exact absurd e h1
      · rcases h1 p hp with (h | h) | h
        · rw [hb] at h; cases h
        · exact absurd hx h
        · exact h
    · rcases h2 o ho with h | ⟨h, _⟩
      · exact absurd e h
      · rcases h with h | h
        · exact absurd e2 h
        · exact h
    · rcases h2 o ho with h | ⟨_, h⟩
      · exact absurd e h
      · rcases h with h | h
        · exact absurd e3 h
        · exact h
  · intro ⟨h1, h2⟩
    refine ⟨?_, fun o ho => ?_⟩
    · by_cases e : zeL E = 1
      · right
        intro p hp
        by_cases hb : (zeP E k).testBit p = true
        · exact Or.inl (Or.inl hb)
        · have hb : (zeP E k).testBit p = false := by simpa using hb
          by_cases hx : zdP s p = x
          · exact Or.inr (h1 e p hp hb hx)
          · exact Or.inl (Or.inr hx)
      · exact Or.inl e
    · by_cases e : zdA s o = (n : Int)
      · right
        obtain ⟨a, b⟩ := h2 o ho e
        refine ⟨?_, ?_⟩
        · by_cases e2 : zeL E = 2
          · exact Or.inr (a e2)
          · exact Or.inl e2
        · by_cases e3 : zeL E = 3
          · exact Or.inr (b e3)
          · exact Or.inl e3
      · exact Or.inl e
def zdCo (E : zE) (k : Nat) (s : zD) : Int := if zdA s k = -1 then zci (fun p => (zeP E k).testBit p) (zdP s) (zdK s) (zeB E) else -1
def zdS1 (E : zE) (n k : Nat) (s : zD) : zD := if zdCo E k s = -1 ∨ zdMay E n k (zdCo E k s) s = false then s else (zdP s, fun p => zdK s p - (if (zeP E k).testBit p then 1 else 0), fun o => if o = k then (n : Int) else zdA s o, fun o => if o = k then zdCo E k s else zdI s o)
def zdSg (E : zE) (n k : Nat) (s : zD) : zD := zfo (fun k s => zdS1 E n k s) k s
def zdFd (E : zE) (s : zD) : zD := (zdP s, fun p => zmin 60 (zdK s p + zeF E (zdP s p)), zdA s, zdI s)
def zdGo (E : zE) (n : Nat) (r : Bool) (s : zD) : zD := (fun p => if r = false ∧ 0 < zdK s p ∧ zeJ E (zdP s p) (zeA E p n) = true then zeA E p n else zdP s p, fun p => zmax 0 (zdK s p - 1), zdA s, zdI s)
def zd0 (E : zE) : zD := (zeH E, zeI E, fun _ => -1, fun _ => -1)
def zdNx (E : zE) (n : Nat) (r : Bool) (s : zD) : zD := zdSg E (n + 1) (zeC E) (zdFd E (zdGo E n r s))
def zdD (E : zE) : Nat → zD
  | 0 => zdSg E 0 (zeC E) (zdFd E (zd0 E))
  | n + 1 => zdNx E n (zeR E n) (zdD E n)
theorem zdSg_s {E : zE} {n k : Nat} {s : zD} : zdSg E n (k + 1) s = zdS1 E n k (zdSg E n k s) := rfl
def zeOk (E : zE) : Prop := zeB E ≤ 5 ∧ zeC E ≤ 6 ∧ (∀ p, p < zeB E → 0 ≤ zeH E p ∧ zeH E p < 8 ∧ 0 ≤ zeI E p ∧ zeI E p ≤ 60) ∧ (∀ x, 0 ≤ x → x < 8 → 0 ≤ zeF E x ∧ zeF E x ≤ 1000) ∧ (∀ p n, p < zeB E → n < 20 → -1 ≤ zeA E p n ∧ zeA E p n < 8) ∧ (∀ k, k < zeC E → zeP E k < 2 ^ zeB E ∧ zeP E k ≠ 0) ∧ (∀ x y, zeJ E x y = true → 0 ≤ y ∧ x ≠ y)
def zdOk (E : zE) (n : Int) (s : zD) : Prop := (∀ p, p < zeB E → 0 ≤ zdP s p ∧ zdP s p < 8 ∧ 0 ≤ zdK s p ∧ zdK s p ≤ 60) ∧ (∀ o, (zdA s o = -1 ∧ zdI s o = -1) ∨ (o < zeC E ∧ 0 ≤ zdA s o ∧ zdA s o ≤ n ∧ 0 ≤ zdI s o ∧ zdI s o < 8))
theorem zciS_cases {f : Nat → Bool} {pl ik : Nat → Int} : ∀ {b : Nat}, (∀ p, p < b → 0 ≤ pl p) → (zciS f pl ik b = -1 ∧ ∀ p, p < b → f p = false) ∨ (zciS f pl ik b = -2 ∧ ((∃ p, p < b ∧ f p = true ∧ ik p = 0) ∨ (∃ p q, p < b ∧ q < b ∧ f p = true ∧ f q = true ∧ pl p ≠ pl q))) ∨ (0 ≤ zciS f pl ik b ∧ (∃ p, p < b ∧ f p = true) ∧ ∀ p, p < b → f p = true → pl p = zciS f pl ik b ∧ ik p ≠ 0)
  | 0, _ => Or.inl ⟨rfl, fun p hp => by omega⟩
  | b + 1, h => by
    have ih := zciS_cases (f := f) (pl := pl) (ik := ik) (b := b) (fun p hp => h p (by omega))
    have hb := h b (by omega)
    have e : zciS f pl ik (b + 1) = if f b = true then (if ik b = 0 then -2 else if zciS f pl ik b = -1 then pl b else if zciS f pl ik b = pl b then zciS f pl ik b else -2) else zciS f pl ik b := rfl
    rw [e]
    generalize zciS f pl ik b = z at ih
    by_cases hf : f b = true
    · rw [if_pos hf]
      by_cases h0 : ik b = 0
      · rw [if_pos h0]
        exact Or.inr (Or.inl ⟨rfl, Or.inl ⟨b, by omega, hf, h0⟩⟩)
      · rw [if_neg h0]
        rcases ih with ⟨hz, h1⟩ | ⟨hz, h1⟩ | ⟨hz, ⟨q, hq, hqf⟩, h1⟩
        · rw [if_pos hz]
          refine Or.inr (Or.inr ⟨hb, ⟨b, by omega, hf⟩, fun p hp hpf => ?_⟩)
          by_cases hpb : p = b
          · rw [hpb]; exact ⟨rfl, h0⟩
          · rw [h1 p (by omega)] at hpf; cases hpf
        · rw [if_neg (by omega), if_neg (by omega)]
          refine Or.inr (Or.inl ⟨rfl, ?_⟩)
          rcases h1 with ⟨p, hp, h2⟩ | ⟨p, q, hp, hq, h2⟩
          · exact Or.inl ⟨p, by omega, h2⟩
          · exact Or.inr ⟨p, q, by omega, by omega, h2⟩
        · rw [if_neg (by omega)]
          by_cases h2 : z = pl b
          · rw [if_pos h2]
            refine Or.inr (Or.inr ⟨hz, ⟨b, by omega, hf⟩, fun p hp hpf => ?_⟩)
            by_cases hpb : p = b
            · rw [hpb]; exact ⟨h2.symm, h0⟩
            · exact h1 p (by omega) hpf
          · rw [if_neg h2]
            refine Or.inr (Or.inl ⟨rfl, Or.inr ⟨q, b, by omega, by omega, hqf, hf, ?_⟩⟩)
            rw [(h1 q hq hqf).1]
            exact h2
    · rw [if_neg hf]
      have hf : f b = false := by simpa using hf
      rcases ih with ⟨hz, h1⟩ | ⟨hz, h1⟩ | ⟨hz, ⟨q, hq, hqf⟩, h1⟩
      · refine Or.inl ⟨hz, fun p hp => ?_⟩
        by_cases hpb : p = b
        · rw [hpb]; exact hf
        · exact h1 p (by omega)
      · refine Or.inr (Or.inl ⟨hz, ?_⟩)
        rcases h1 with ⟨p, hp, h2⟩ | ⟨p, q, hp, hq, h2⟩
        · exact Or.inl ⟨p, by omega, h2⟩
        · exact Or.inr ⟨p, q, by omega, by omega, h2⟩
      · refine Or.inr (Or.inr ⟨hz, ⟨q, by omega, hqf⟩, fun p hp hpf => ?_⟩)
        by_cases hpb : p = b
        · rw [hpb, hf] at hpf; cases hpf
        · exact h1 p (by omega) hpf
theorem zci_ne {f : Nat → Bool} {pl ik : Nat → Int} {b : Nat} (h : ∀ p, p < b → 0 ≤ pl p) (hz : zci f pl ik b ≠ -1) : 0 ≤ zci f pl ik b ∧ (∃ p, p < b ∧ f p = true) ∧ ∀ p, p < b → f p = true → pl p = zci f pl ik b ∧ ik p ≠ 0 := by
  unfold zci at hz ⊢
  rcases zciS_cases (f := f) (ik := ik) h with ⟨e, h1⟩ | ⟨e, h1⟩ | ⟨e, h1⟩
  · rw [if_neg (by omega)] at hz
    exact absurd e hz
  · rw [if_pos e] at hz
    exact absurd rfl hz
  · rw [if_neg (by omega)]
    exact ⟨e, h1⟩
theorem zci_of {f : Nat → Bool} {pl ik : Nat → Int} {b : Nat} {x : Int} (h : ∀ p, p < b → 0 ≤ pl p) (he : ∃ p, p < b ∧ f p = true) (ha : ∀ p, p < b → f p = true → pl p = x ∧ ik p ≠ 0) : zci f pl ik b = x := by
  unfold zci
  obtain ⟨q, hq, hqf⟩ := he
  rcases zciS_cases (f := f) (ik := ik) h with ⟨e, h1⟩ | ⟨e, h1⟩ | ⟨e, h1, h2⟩
  · rw [h1 q hq] at hqf
    cases hqf
  · rcases h1 with ⟨p, hp, h2, h3⟩ | ⟨p, r, hp, hr, h2, h3, h4⟩
    · exact absurd h3 (ha p hp h2).2
    · exact absurd ((ha p hp h2).1.trans (ha r hr h3).1.symm) h4
  · rw [if_neg (by omega), ← (h2 q hq hqf).1]
    exact (ha q hq hqf).1
theorem zco_ci {f : Nat → Bool} {pl : Nat → Int} {b : Nat} : zco f pl b = zci f pl (fun _ => 1) b := by
  have e : zcoS f pl b = zciS f pl (fun _ => 1) b := by
    unfold zcoS zciS
    refine zfo_congr b (fun i _ => ?_)
    rw [if_neg (show ¬ ((1 : Int) = 0) by decide)]
  unfold zco zci
  rw [e]
theorem zci_congr {f f' : Nat → Bool} {pl pl' ik ik' : Nat → Int} {b : Nat} (h : ∀ p, p < b → f p = f' p ∧ pl p = pl' p ∧ ik p = ik' p) : zci f pl ik b = zci f' pl' ik' b := by
  have e : zciS f pl ik b = zciS f' pl' ik' b := by
    unfold zciS
    refine zfo_congr b (fun i hi => ?_)
    obtain ⟨h1, h2, h3⟩ := h i hi
    rw [h1, h2, h3]
  unfold zci
  rw [e]
theorem zco_congr {f f' : Nat → Bool} {pl pl' : Nat → Int} {b : Nat} (h : ∀ p, p < b → f p = f' p ∧ pl p = pl' p) : zco f pl b = zco f' pl' b := by
  rw [zco_ci, zco_ci]
  exact zci_congr (fun p hp => ⟨(h p hp).1, (h p hp).2, rfl⟩)
theorem zdCo_ne {E : zE} {n : Int} {k : Nat} {s : zD} (hs : zdOk E n s) (hz : zdCo E k s ≠ -1) : zdA s k = -1 ∧ 0 ≤ zdCo E k s ∧ zdCo E k s < 8 ∧ ∀ p, p < zeB E → (zeP E k).testBit p = true → zdP s p = zdCo E k s ∧ zdK s p ≠ 0 := by
  unfold zdCo at hz ⊢
  by_cases h : zdA s k = -1
  · rw [if_pos h] at hz ⊢
    obtain ⟨h1, ⟨q, hq, hqf⟩, h3⟩ := zci_ne (fun p hp => (hs.1 p hp).1) hz
    refine ⟨h, h1, ?_, h3⟩
    have h4 := (h3 q hq hqf).1
    have h5 := hs.1 q hq
    omega
  · rw [if_neg h] at hz
    exact absurd rfl hz
theorem zdS1_ok {E : zE} {n k : Nat} {s : zD} (hk : k < zeC E) (hs : zdOk E n s) : zdOk E n (zdS1 E n k s) := by
  unfold zdS1
  by_cases h : zdCo E k s = -1 ∨ zdMay E n k (zdCo E k s) s = false
  · rw [if_pos h]; exact hs
  · rw [if_neg h]
    obtain ⟨h1, h2, h3, h4⟩ := zdCo_ne hs (fun e => h (Or.inl e))
    refine ⟨fun p hp => ?_, fun o => ?_⟩
    · have h5 := hs.1 p hp
      show 0 ≤ zdP s p ∧ zdP s p < 8 ∧ 0 ≤ zdK s p - (if (zeP E k).testBit p then 1 else 0) ∧ zdK s p - (if (zeP E k).testBit p then 1 else 0) ≤ 60
      by_cases hb : (zeP E k).testBit p = true
      · rw [if_pos hb]
        have h6 := (h4 p hp hb).2
        omega
      · rw [if_neg hb]
        omega
    · show ((if o = k then (n : Int) else zdA s o) = -1 ∧ (if o = k then zdCo E k s else zdI s o) = -1) ∨ (o < zeC E ∧ 0 ≤ (if o = k then (n : Int) else zdA s o) ∧ (if o = k then (n : Int) else zdA s o) ≤ (n : Int) ∧ 0 ≤ (if o = k then zdCo E k s else zdI s o) ∧ (if o = k then zdCo E k s else zdI s o) < 8)
      by_cases ho : o = k
      · rw [if_pos ho, if_pos ho]
        right
        subst ho
        exact ⟨hk, by omega, by omega, h2, h3⟩
      · rw [if_neg ho, if_neg ho]
        exact hs.2 o
theorem zdSg_ok {E : zE} {n : Nat} {s : zD} (hs : zdOk E n s) : ∀ {k : Nat}, k ≤ zeC E → zdOk E n (zdSg E n k s)
  | 0, _ => hs
  | k + 1, hk => zdS1_ok (by omega) (zdSg_ok hs (by omega))
theorem zdOk_mono {E : zE} {n m : Int} {s : zD} (h : n ≤ m) (hs : zdOk E n s) : zdOk E m s := ⟨hs.1, fun o => by
  rcases hs.2 o with h1 | ⟨h1, h2, h3, h4⟩
  · exact Or.inl h1
  · exact Or.inr ⟨h1, h2, by omega, h4⟩⟩
theorem zdFd_ok {E : zE} {n : Int} {s : zD} (he : zeOk E) (hs : zdOk E n s) : zdOk E n (zdFd E s) := ⟨fun p hp => by
  have h5 := hs.1 p hp
  have h6 := he.2.2.2.1 (zdP s p) h5.1 h5.2.1
  show 0 ≤ zdP s p ∧ zdP s p < 8 ∧ 0 ≤ zmin 60 (zdK s p + zeF E (zdP s p)) ∧ zmin 60 (zdK s p + zeF E (zdP s p)) ≤ 60
  unfold zmin
  split <;> omega, hs.2⟩
theorem zdGo_ok {E : zE} {n : Nat} {r : Bool} {s : zD} {m : Int} (he : zeOk E) (hn : n < 20) (hs : zdOk E m s) : zdOk E m (zdGo E n r s) := ⟨fun p hp => by
  have h5 := hs.1 p hp
  have h6 := he.2.2.2.2.1 p n hp hn
  have h7 := he.2.2.2.2.2.2
  show 0 ≤ (if r = false ∧ 0 < zdK s p ∧ zeJ E (zdP s p) (zeA E p n) = true then zeA E p n else zdP s p) ∧ (if r = false ∧ 0 < zdK s p ∧ zeJ E (zdP s p) (zeA E p n) = true then zeA E p n else zdP s p) < 8 ∧ 0 ≤ zmax 0 (zdK s p - 1) ∧ zmax 0 (zdK s p - 1) ≤ 60
  unfold zmax
  by_cases hc : r = false ∧ 0 < zdK s p ∧ zeJ E (zdP s p) (zeA E p n) = true
  · rw [if_pos hc]
    have h8 := h7 _ _ hc.2.2
    split <;> omega
  · rw [if_neg hc]
    split <;> omega, hs.2⟩
theorem zdNx_ok {E : zE} {n : Nat} {r : Bool} {s : zD} (he : zeOk E) (hn : n < 20) (hs : zdOk E n s) : zdOk E ((n + 1 : Nat) : Int) (zdNx E n r s) := zdSg_ok (zdOk_mono (by omega) (zdFd_ok he (zdGo_ok he hn hs))) (Nat.le_refl _)
theorem zd0_ok {E : zE} (he : zeOk E) : zdOk E (-1) (zd0 E) := ⟨fun p hp => he.2.2.1 p hp, fun _ => Or.inl ⟨rfl, rfl⟩⟩
theorem zdD_ok {E : zE} (he : zeOk E) : ∀ {n : Nat}, n ≤ 20 → zdOk E n (zdD E n)
  | 0, _ => zdSg_ok (zdOk_mono (by omega) (zdFd_ok he (zd0_ok he))) (Nat.le_refl _)
  | n + 1, hn => zdNx_ok he (by omega) (zdD_ok he (by omega))
/-- who has not signed up to a contract hasn't signed at this step -/
theorem zdSg_later {E : zE} {n : Nat} {s : zD} : ∀ {k : Nat} {o : Nat}, k ≤ o → zdA (zdSg E n k s) o = zdA s o ∧ zdI (zdSg E n k s) o = zdI s o
  | 0, o, _ => ⟨rfl, rfl⟩
  | k + 1, o, h => by
    obtain ⟨h1, h2⟩ := zdSg_later (E := E) (n := n) (s := s) (k := k) (o := o) (by omega)
    rw [zdSg_s]
    unfold zdS1
    by_cases hc : zdCo E k (zdSg E n k s) = -1 ∨ zdMay E n k (zdCo E k (zdSg E n k s)) (zdSg E n k s) = false
    · rw [if_pos hc]; exact ⟨h1, h2⟩
    · rw [if_neg hc]
      have ho : o ≠ k := by omega
      exact ⟨(if_neg ho).trans h1, (if_neg ho).trans h2⟩
theorem zdSg_P {E : zE} {n : Nat} {s : zD} : ∀ {k : Nat}, zdP (zdSg E n k s) = zdP s
  | 0 => rfl
  | k + 1 => by
    rw [zdSg_s]
    unfold zdS1
    by_cases hc : zdCo E k (zdSg E n k s) = -1 ∨ zdMay E n k (zdCo E k (zdSg E n k s)) (zdSg E n k s) = false
    · rw [if_pos hc]; exact zdSg_P
    · rw [if_neg hc]; exact zdSg_P
