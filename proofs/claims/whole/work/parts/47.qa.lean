/-! Questions of the day: the frame. -/
def zQ1 (M : Nat → Nat → Int) (f : Option Int) (g : Option (Int × (Nat → Nat → Int))) : Prop := ∃ V, zS f (fun v => v = V) ∧ zS g (fun r => r.1 = V ∧ zKeep M r.2)
theorem zsum_congr {n : Nat} {f g : Nat → Int} (h : ∀ i, i < n → f i = g i) : zsum n f = zsum n g := zfo_congr n (fun i hi => by
  show zfo _ i 0 + f i = zfo _ i 0 + g i
  rw [h i hi])
section ZQA
variable {W : Nat → Int} {M : Nat → Nat → Int} {x : Int}
theorem xStep (h : zInv W M) : lT_hasStep 3 x M = some (zbo (0 < W 9 ∧ 0 ≤ x ∧ x ≤ W 1)) := by
  obtain ⟨_, _, ht, _⟩ := h
  rw [lT_hasStep_eq zis_6_3, ht.2.2.2.2.1, ht.2.1]
theorem xName (h : zInv W M) : lT_hasName 3 x M = some (zbo (0 ≤ x ∧ x < W 6)) := by
  obtain ⟨_, _, ht, _⟩ := h
  rw [lT_hasName_eq zis_6_3, ht.2.2.2.2.2.2.2.1]
theorem xCont (h : zInv W M) : lT_hasContract 3 x M = some (zbo (0 ≤ x ∧ x < W 7)) := by
  obtain ⟨_, _, ht, _⟩ := h
  rw [lT_hasContract_eq zis_6_3, ht.2.2.2.2.2.2.2.2.1]
theorem xCorner (h : zInv W M) : lT_hasCorner 3 x M = some (zbo (0 ≤ x ∧ x < W 0)) := by
  obtain ⟨_, _, ht, _⟩ := h
  rw [lT_hasCorner_eq zis_6_3, ht.1]
theorem xStreet (h : zInv W M) : lT_hasStreet 3 x M = some (zbo (0 ≤ x ∧ x < W 4)) := by
  obtain ⟨_, _, ht, _⟩ := h
  rw [lT_hasStreet_eq zis_6_3, ht.2.2.2.2.2.1]
theorem xThere (h : zInv W M) : lT_isThere 3 M = some (zbo (0 < W 9)) := by
  obtain ⟨_, _, ht, _⟩ := h
  rw [lT_isThere_eq zis_6_3, ht.2.2.2.2.1]
theorem mName (hw : wOk W) (hW : M 107 = W) : lm_isName x M = some (zbo (0 ≤ x ∧ x < W 6)) := by
  have h6 := hw.2.2.2.2.2.2.1
  rw [lm_isName_eq (by rw [hW]; omega) (by rw [hW]; omega), hW]
theorem mCont (hw : wOk W) (hW : M 107 = W) : lm_isContract x M = some (zbo (0 ≤ x ∧ x < W 7)) := by
  have h6 := hw.2.2.2.2.2.2.2.1
  rw [lm_isContract_eq (by rw [hW]; omega) (by rw [hW]; omega), hW]
theorem mCorner (hw : wOk W) (hW : M 107 = W) : lm_isCorner x M = some (zbo (0 ≤ x ∧ x < W 0)) := by
  have h6 := hw.1
  rw [lm_isCorner_eq (by rw [hW]; omega) (by rw [hW]; omega), hW]
theorem mStreet (hw : wOk W) (hW : M 107 = W) : lm_isStreet x M = some (zbo (0 ≤ x ∧ x < W 4)) := by
  have h6 := hw.2.2.2.2.1
  rw [lm_isStreet_eq (by rw [hW]; omega) (by rw [hW]; omega), hW]
theorem zX_g {c : Prop} [Decidable c] {f k : Option Int} {b T : Int} (h : f = some (zbo c)) (ht : c → zS k (fun v => v = T)) (hf : ¬ c → b = T) : zS (f.bind (fun v5 => if v5 = 0 then some b else k)) (fun v => v = T) := by
  refine zS_b h ?_
  by_cases hc : c
  · rw [zbo_t hc, if_neg (by decide)]; exact ht hc
  · rw [zbo_f hc, if_pos rfl]; exact zS_r (hf hc)
theorem zM_q {c : Prop} [Decidable c] {f : Option (Int × (Nat → Nat → Int))} {k : Int × (Nat → Nat → Int) → Option (Int × (Nat → Nat → Int))} {b T : Int} (h : zS f (zmQ M W c)) (ht : c → ∀ r : Int × (Nat → Nat → Int), zKeep M r.2 → r.2 107 = W → zmT (W 1).toNat (zE0 W) r.2 → zS (k r) (fun r => r.1 = T ∧ zKeep M r.2)) (hf : ¬ c → b = T) : zS (f.bind (fun r2_ => if r2_.1 = 0 then some (b, r2_.2) else k r2_)) (fun r => r.1 = T ∧ zKeep M r.2) := by
  refine zS_m h ?_
  intro r ⟨a1, a2, a3, a4, a5⟩
  rw [a1]
  by_cases hc : c
  · rw [zbo_t hc, if_neg (by decide)]; exact ht hc r a2 a3 (a5 hc)
  · rw [zbo_f hc, if_pos rfl]; exact zS_r ⟨hf hc, a2⟩
theorem zM_g {c : Prop} [Decidable c] {f : Option Int} {k : Option (Int × (Nat → Nat → Int))} {M1 : Nat → Nat → Int} {b T : Int} (h : f = some (zbo c)) (hM : zKeep M M1) (ht : c → zS k (fun r => r.1 = T ∧ zKeep M r.2)) (hf : ¬ c → b = T) : zS (f.bind (fun v5 => if v5 = 0 then some (b, M1) else k)) (fun r => r.1 = T ∧ zKeep M r.2) := by
  refine zS_b h ?_
  by_cases hc : c
  · rw [zbo_t hc, if_neg (by decide)]; exact ht hc
  · rw [zbo_f hc, if_pos rfl]; exact zS_r ⟨hf hc, hM⟩
/-- the first step at which -/
def zfs (b : Nat) (f : Nat → Bool) : Int := match zfi (fun n => if f n = true then some (n : Int) else none) b with
  | some n => n
  | none => -1
theorem zfs_at {b i : Nat} {f : Nat → Bool} (hi : i < b) (h : f i = true) (hj : ∀ j, j < i → f j = false) : zfs b f = (i : Int) := by
  have up : ∀ k, i + 1 + k ≤ b → zfi (fun n => if f n = true then some (n : Int) else none) (i + 1 + k) = some (i : Int) := by
    intro k
    induction k with
    | zero =>
      intro _
      have e := zfi_n ((zfi_none (p := fun n => if f n = true then some (n : Int) else none) i).mpr (fun j hji => by rw [hj j hji]; rfl))
      exact e.trans (by rw [h]; rfl)
    | succ k ih => intro hk; exact zfi_s (ih (by omega))
  have e := up (b - i - 1) (by omega)
  rw [show i + 1 + (b - i - 1) = b by omega] at e
  unfold zfs
  rw [e]
theorem zfs_no {b : Nat} {f : Nat → Bool} (hj : ∀ j, j < b → f j = false) : zfs b f = -1 := by
  unfold zfs
  rw [(zfi_none b).mpr (fun j hji => by rw [hj j hji]; rfl)]
theorem zfs_cg {b : Nat} {f g : Nat → Bool} (h : ∀ j, j < b → f j = g j) : zfs b f = zfs b g := by
  unfold zfs
  rw [zfi_congr b (fun j hj => by rw [h j hj])]
theorem zfs_cases {b : Nat} {f : Nat → Bool} : (zfs b f = -1 ∧ ∀ j, j < b → f j = false) ∨ (∃ i, i < b ∧ zfs b f = (i : Int) ∧ f i = true ∧ ∀ j, j < i → f j = false) := by
  induction b with
  | zero => exact Or.inl ⟨rfl, fun j hj => by omega⟩
  | succ b ih =>
    rcases ih with ⟨h1, h2⟩ | ⟨i, h1, h2, h3, h4⟩
    · cases hb : f b with
      | true => exact Or.inr ⟨b, by omega, zfs_at (by omega) hb h2, hb, h2⟩
      | false =>
        have h3 : ∀ j, j < b + 1 → f j = false := fun j hj => by
          by_cases hjb : j = b
          · rw [hjb]; exact hb
          · exact h2 j (by omega)
        exact Or.inl ⟨zfs_no h3, h3⟩
    · exact Or.inr ⟨i, by omega, zfs_at (by omega) h3 h4, h3, h4⟩
/-- what the class's day says -/
theorem cP (h : zInv W M) {n p : Nat} (hn : n ≤ (W 1).toNat) (hp : p < (W 6).toNat) : M (29 + 5) (5 * n + p) = zdP (zdD (zE0 W) n) p := (((h.2.2.2.2.1).2.1 n hn).1 p hp).1
theorem cK (h : zInv W M) {n p : Nat} (hn : n ≤ (W 1).toNat) (hp : p < (W 6).toNat) : M (29 + 6) (5 * n + p) = zdK (zdD (zE0 W) n) p := (((h.2.2.2.2.1).2.1 n hn).1 p hp).2
theorem cD (h : zInv W M) {n : Nat} (hn : n ≤ (W 1).toNat) : M (29 + 7) n = zst (W 7).toNat (fun k => decide (zdA (zdD (zE0 W) n) k ≠ -1)) := ((h.2.2.2.2.1).2.1 n hn).2
theorem mP {T : Nat} {E : zE} (h : zmT T E M) {n p : Nat} (hn : n ≤ T) (hp : p < zeB E) : M 117 (5 * n + p) = zdP (zdD E n) p := (h.1 n hn p hp).1
theorem mK {T : Nat} {E : zE} (h : zmT T E M) {n p : Nat} (hn : n ≤ T) (hp : p < zeB E) : M 118 (5 * n + p) = zdK (zdD E n) p := (h.1 n hn p hp).2
theorem dOk (h : zInv W M) {n p : Nat} (hn : n ≤ (W 1).toNat) (hp : p < (W 6).toNat) : 0 ≤ zdP (zdD (zE0 W) n) p ∧ zdP (zdD (zE0 W) n) p < 8 ∧ 0 ≤ zdK (zdD (zE0 W) n) p ∧ zdK (zdD (zE0 W) n) p ≤ 60 := by
  have h1 := h.2.1.2.1
  exact (zdD_ok (zE0_ok h.2.1) (show n ≤ 20 by omega)).1 p hp
theorem xB (h : zInv W M) : M 3 7 = ((W 6).toNat : Int) ∧ (W 6).toNat ≤ 5 ∧ M 3 1 = ((W 1).toNat : Int) ∧ (W 1).toNat ≤ 20 ∧ M 3 8 = ((W 7).toNat : Int) ∧ (W 7).toNat ≤ 6 ∧ M 3 0 = ((W 0).toNat : Int) ∧ (W 0).toNat ≤ 8 := by
  obtain ⟨_, hw, ht, _⟩ := h
  obtain ⟨h0, h1, _, _, _, _, h6, h7, _⟩ := hw
  rw [ht.2.2.2.2.2.2.2.1, ht.2.1, ht.2.2.2.2.2.2.2.2.1, ht.1]
  omega
/-! at, ink -/
theorem q_at {y : Int} (h : zInv W M) : zQ1 M (lX_at x y M) (lm_at x y M) := by
  obtain ⟨b1, b2, b3, b4, _⟩ := xB h
  refine ⟨if (0 ≤ x ∧ x < W 6) ∧ (0 < W 9 ∧ 0 ≤ y ∧ y ≤ W 1) then zdP (zdD (zE0 W) y.toNat) x.toNat else -2, ?_, ?_⟩
  · refine zX_g (xName h) (fun c1 => zX_g (xStep h) (fun c2 => ?_) (fun c2 => (if_neg (fun q => c2 q.2)).symm)) (fun c1 => (if_neg (fun q => c1 q.1)).symm)
    have e : w32 (w32 (y * 5) + x) = ((5 * y.toNat + x.toNat : Nat) : Int) := by simp (disch := omega) only [w32_eq]; omega
    rw [e]
    refine zS_b (rdI_n sh_34 (by omega)) ?_
    rw [if_pos ⟨c1, c2⟩]
    exact zS_r (cP h (by omega) (by omega))
  · refine zM_q (lm_asksStep_ok h.2.1 h.1) (fun c2 r r1 r2 r3 => zM_g (mName h.2.1 r2) r1 (fun c1 => ?_) (fun c1 => (if_neg (fun q => c1 q.1)).symm)) (fun c2 => (if_neg (fun q => c2 q.2)).symm)
    rw [if_pos ⟨c1, c2⟩]
    obtain ⟨p, rfl⟩ : ∃ p : Nat, x = (p : Int) := ⟨x.toNat, by omega⟩
    obtain ⟨n, rfl⟩ : ∃ n : Nat, y = (n : Int) := ⟨y.toNat, by omega⟩
    refine zS_b (lm_placeOf_eq (by omega) (by omega)) ?_
    exact zS_r ⟨mP r3 (by omega) (show p < (W 6).toNat by omega), r1⟩
theorem q_ink {y : Int} (h : zInv W M) : zQ1 M (lX_ink x y M) (lm_ink x y M) := by
  obtain ⟨b1, b2, b3, b4, _⟩ := xB h
  refine ⟨if (0 ≤ x ∧ x < W 6) ∧ (0 < W 9 ∧ 0 ≤ y ∧ y ≤ W 1) then zdK (zdD (zE0 W) y.toNat) x.toNat else -2, ?_, ?_⟩
  · refine zX_g (xName h) (fun c1 => zX_g (xStep h) (fun c2 => ?_) (fun c2 => (if_neg (fun q => c2 q.2)).symm)) (fun c1 => (if_neg (fun q => c1 q.1)).symm)
    have e : w32 (w32 (y * 5) + x) = ((5 * y.toNat + x.toNat : Nat) : Int) := by simp (disch := omega) only [w32_eq]; omega
    rw [e]
    refine zS_b (rdI_n sh_35 (by omega)) ?_
    rw [if_pos ⟨c1, c2⟩]
    exact zS_r (cK h (by omega) (by omega))
  · refine zM_q (lm_asksStep_ok h.2.1 h.1) (fun c2 r r1 r2 r3 => zM_g (mName h.2.1 r2) r1 (fun c1 => ?_) (fun c1 => (if_neg (fun q => c1 q.1)).symm)) (fun c2 => (if_neg (fun q => c2 q.2)).symm)
    rw [if_pos ⟨c1, c2⟩]
    obtain ⟨p, rfl⟩ : ∃ p : Nat, x = (p : Int) := ⟨x.toNat, by omega⟩
    obtain ⟨n, rfl⟩ : ∃ n : Nat, y = (n : Int) := ⟨y.toNat, by omega⟩
    refine zS_b (lm_inkIn_eq (by omega) (by omega)) ?_
    exact zS_r ⟨mK r3 (by omega) (show p < (W 6).toNat by omega), r1⟩
/-- a set that the reference builds by or -/
theorem zor_st {n : Nat} {f : Nat → Bool} (hn : n < 30) : (if f n = true then zor (zst n f) (zshl 1 (n : Int)) else zor (zst n f) 0) = zst (n + 1) f := by
  have hl := zsn_lt (f := f) n
  have hp : 2 ^ n ≤ 2 ^ 30 := Nat.pow_le_pow_right (by decide) (by omega)
  have e : zst (n + 1) f = if f n = true then zor (zst n f) (zshl 1 (n : Int)) else zst n f := rfl
  rw [e]
  by_cases h : f n = true
  · rw [if_pos h, if_pos h]
  · rw [if_neg h, if_neg h, zst_nat n (by omega)]
    exact zor_0 (by omega)
theorem q_awake (h : zInv W M) : zQ1 M (lX_awake x M) (lm_awake x M) := by
  obtain ⟨b1, b2, b3, b4, _⟩ := xB h
  refine ⟨if (0 < W 9 ∧ 0 ≤ x ∧ x ≤ W 1) then zst (W 6).toNat (fun p => decide (0 < zdK (zdD (zE0 W) x.toNat) p)) else -2, ?_, ?_⟩
  · refine zX_g (xStep h) (fun c2 => ?_) (fun c2 => (if_neg c2).symm)
    rw [if_pos c2]
    obtain ⟨n, rfl⟩ : ∃ n : Nat, x = (n : Int) := ⟨x.toNat, by omega⟩
    refine zS_b (lD_namesAwake_eq zis_1_29 b1 b2 (by omega)) ?_
    exact zS_r (zst_congr (fun p hp => by rw [cK h (by omega) hp]; rfl))
  · refine zM_q (lm_asksStep_ok h.2.1 h.1) (fun c2 r r1 r2 r3 => ?_) (fun c2 => (if_neg c2).symm)
    rw [if_pos c2]
    obtain ⟨n, rfl⟩ : ∃ n : Nat, x = (n : Int) := ⟨x.toNat, by omega⟩
    refine loopI (fun m i (a : Int) => lm_awake_c15 (n : Int) m a (i : Int) r.2) (fun i a => a = zst i (fun p => decide (0 < zdK (zdD (zE0 W) n) p))) (a0 := 0) 0 (W 6).toNat (by omega) ?_ ?_ ?_ zN (zN_gt (by omega))
    · rfl
    · intro m i a _ hi ha k
      show zS (lm_awake_c15 (n : Int) (m + 1) a (i : Int) r.2) _
      rw [lm_awake_c15]
      refine zS_b lm_names_eq ?_
      refine zS_it (by rw [r2]; omega) ?_
      rw [w1 (by omega)]
      refine zS_b (lm_inkIn_eq (by omega) (by omega)) ?_
      rw [mK r3 (by omega) hi]
      have e := zor_st (n := i) (f := fun p => decide (0 < zdK (zdD (zE0 W) n) p)) (by omega)
      by_cases h0 : 0 < zdK (zdD (zE0 W) n) i
      · rw [if_pos h0]
        refine k _ ?_
        rw [← e, if_pos (decide_eq_true h0), ha]
      · rw [if_neg h0]
        refine k _ ?_
        rw [← e, if_neg (by simpa using h0), ha]
    · intro m a ha
      show zS (lm_awake_c15 (n : Int) (m + 1) a ((W 6).toNat : Int) r.2) _
      rw [lm_awake_c15]
      refine zS_b lm_names_eq ?_
      refine zS_ie (by rw [r2]; omega) ?_
      exact zS_r ⟨ha, r1⟩
theorem q_here {y : Int} (h : zInv W M) : zQ1 M (lX_here x y M) (lm_here x y M) := by
  obtain ⟨b1, b2, b3, b4, _⟩ := xB h
  obtain ⟨u0, u1, _, _, u4, _, u6, u7, _⟩ := h.2.1
  refine ⟨if (0 ≤ x ∧ x < W 0) ∧ (0 < W 9 ∧ 0 ≤ y ∧ y ≤ W 1) then zst (W 6).toNat (fun p => decide (zdP (zdD (zE0 W) y.toNat) p = x)) else -2, ?_, ?_⟩
  · refine zX_g (xCorner h) (fun c1 => zX_g (xStep h) (fun c2 => ?_) (fun c2 => (if_neg (fun q => c2 q.2)).symm)) (fun c1 => (if_neg (fun q => c1 q.1)).symm)
    rw [if_pos ⟨c1, c2⟩]
    obtain ⟨n, rfl⟩ : ∃ n : Nat, y = (n : Int) := ⟨y.toNat, by omega⟩
    refine zS_b (lD_namesAt_eq zis_1_29 b1 b2 (by omega)) ?_
    exact zS_r (zst_congr (fun p hp => by rw [cP h (by omega) hp]; rfl))
  · refine zM_q (lm_asksStep_ok h.2.1 h.1) (fun c2 r r1 r2 r3 => zM_g (mCorner h.2.1 r2) r1 (fun c1 => ?_) (fun c1 => (if_neg (fun q => c1 q.1)).symm)) (fun c2 => (if_neg (fun q => c2 q.2)).symm)
    rw [if_pos ⟨c1, c2⟩]
    obtain ⟨n, rfl⟩ : ∃ n : Nat, y = (n : Int) := ⟨y.toNat, by omega⟩
    refine zS_b (lm_hereOf_eq (b := (W 6).toNat) (by rw [r2]; omega) b2 (by omega)) ?_
    exact zS_r ⟨zst_congr (fun p hp => by rw [mP r3 (by omega) hp]; rfl), r1⟩
/-! sums over the steps -/
theorem q_goes (h : zInv W M) : zQ1 M (lX_goes x M) (lm_goes x M) := by
  obtain ⟨b1, b2, b3, b4, _⟩ := xB h
  obtain ⟨u0, u1, _, _, u4, _, u6, u7, _⟩ := h.2.1
  refine ⟨if (0 ≤ x ∧ x < W 6) then zdGs (zE0 W) (W 1).toNat x.toNat else -2, ?_, ?_⟩
  · refine zX_g (xName h) (fun c2 => ?_) (fun c2 => (if_neg c2).symm)
    rw [if_pos c2]
    obtain ⟨p, rfl⟩ : ∃ n : Nat, x = (n : Int) := ⟨x.toNat, by omega⟩
    refine zS_m (P := fun v => v = zdGs (zE0 W) (W 1).toNat p) ?_ (fun v hv => zS_r hv)
    unfold lD_streetsGone
    rw [if_pos zis_1_29]
    refine loopI (fun m i (a : Int) => lD_streetsGone_c4 29 (p : Int) M m a (i : Int)) (fun i a => a = zdGs (zE0 W) i p) (a0 := 0) 0 (W 1).toNat (by omega) ?_ ?_ ?_ zN (zN_gt (by omega))
    · rfl
    · intro m i a _ hi ha k
      have hb := zdGs_b (E := zE0 W) (n := i) (p := p)
      have e5 : w32 (((5 * i + p : Nat) : Int) + 5) = ((5 * (i + 1) + p : Nat) : Int) := by simp (disch := omega) only [w32_eq]; omega
      show zS (lD_streetsGone_c4 29 (p : Int) M (m + 1) a (i : Int)) _
      rw [lD_streetsGone_c4]
      refine zS_it (by omega) ?_
      rw [w5' (by omega) (by omega), e5, w1 (by omega)]
      refine zS_b (rdI_n (sh_D5 zis_1_29) (by omega)) ?_
      refine zS_b (rdI_n (sh_D5 zis_1_29) (by omega)) ?_
      rw [cP h (by omega) (by omega), cP h (by omega) (by omega)]
      have e : zdGs (zE0 W) (i + 1) p = zdGs (zE0 W) i p + (if zdP (zdD (zE0 W) i) p = zdP (zdD (zE0 W) (i + 1)) p then 0 else 1) := rfl
      by_cases hz : zdP (zdD (zE0 W) i) p = zdP (zdD (zE0 W) (i + 1)) p
      · rw [if_pos hz]
        refine k _ ?_
        rw [e, if_pos hz, ha, Int.add_zero]
      · rw [if_neg hz]
        refine k _ ?_
        rw [e, if_neg hz, ha, w32_eq (by omega) (by omega)]
    · intro m a ha
      show zS (lD_streetsGone_c4 29 (p : Int) M (m + 1) a ((W 1).toNat : Int)) _
      rw [lD_streetsGone_c4]
      refine zS_ie (by omega) ?_
      exact zS_r ha
  · refine zM_q (lm_asksName_ok h.2.1 h.1) (fun c2 r r1 r2 r3 => ?_) (fun c2 => (if_neg c2).symm)
    rw [if_pos c2]
    obtain ⟨p, rfl⟩ : ∃ n : Nat, x = (n : Int) := ⟨x.toNat, by omega⟩
    refine zS_b (rdI_n sh_121 (by omega)) ?_
    exact zS_r ⟨(r3.2.2 p (show p < (W 6).toNat by omega)).1, r1⟩
theorem q_stuck (h : zInv W M) : zQ1 M (lX_stuck x M) (lm_stuck x M) := by
  obtain ⟨b1, b2, b3, b4, _⟩ := xB h
  obtain ⟨u0, u1, _, _, u4, _, u6, u7, _⟩ := h.2.1
  refine ⟨if (0 ≤ x ∧ x < W 6) then zdSt (zE0 W) (W 1).toNat x.toNat else -2, ?_, ?_⟩
  · refine zX_g (xName h) (fun c2 => ?_) (fun c2 => (if_neg c2).symm)
    rw [if_pos c2]
    obtain ⟨p, rfl⟩ : ∃ n : Nat, x = (n : Int) := ⟨x.toNat, by omega⟩
    refine zS_m (P := fun v => v = zdSt (zE0 W) (W 1).toNat p) ?_ (fun v hv => zS_r hv)
    unfold lD_stepsStuck
    rw [if_pos zis_1_29]
    obtain ⟨hd, hok, hB, hC, hF, hA, hJ, hL, hP⟩ := h.2.2.2.2.1.1
    refine loopI (fun m i (a : Int) => lD_stepsStuck_c4 29 (p : Int) M m a (i : Int)) (fun i a => a = zdSt (zE0 W) i p) (a0 := 0) 0 (W 1).toNat (by omega) ?_ ?_ ?_ zN (zN_gt (by omega))
    · rfl
    · intro m i a _ hi ha k
      have hb := zdSt_b (E := zE0 W) (n := i) (p := p)
      have hd := dOk h (show i ≤ (W 1).toNat by omega) (show p < (W 6).toNat by omega)
      have hAb := hok.2.2.2.2.1 p i (show p < (W 6).toNat by omega) (by omega)
      have e : zdSt (zE0 W) (i + 1) p = zdSt (zE0 W) i p + (if zdW (zE0 W) i (zdD (zE0 W) i) p = true then 1 else 0) := rfl
      have hno : zdW (zE0 W) i (zdD (zE0 W) i) p = false → zS (lD_stepsStuck_c4 29 (p : Int) M m a ((i + 1 : Nat) : Int)) (fun v => v = zdSt (zE0 W) (W 1).toNat p) := fun hz => k a (by rw [e, hz, if_neg (by decide), ha, Int.add_zero])
      have hyes : zdW (zE0 W) i (zdD (zE0 W) i) p = true → zS (lD_stepsStuck_c4 29 (p : Int) M m (w32 (a + 1)) ((i + 1 : Nat) : Int)) (fun v => v = zdSt (zE0 W) (W 1).toNat p) := fun hz => k _ (by rw [e, hz, if_pos rfl, ha, w32_eq (by omega) (by omega)])
      show zS (lD_stepsStuck_c4 29 (p : Int) M (m + 1) a (i : Int)) _
      rw [lD_stepsStuck_c4]
      refine zS_it (by omega) ?_
      rw [w5' (by omega) (by omega)]
      refine zS_b (hA p i (show p < (W 6).toNat by omega) (by omega)) ?_
      refine zS_b (rdI_n (sh_D6 zis_1_29) (by omega)) ?_
      rw [cK h (by omega) (by omega)]
      have h0s : zdW (zE0 W) i (zdD (zE0 W) i) p = false → zS (lD_stepsStuck_c63 29 (p : Int) M (lD_stepsStuck_c4 29 (p : Int) M m) a (i : Int) ((5 * i + p : Nat) : Int) (zeA (zE0 W) p i) 0) (fun v => v = zdSt (zE0 W) (W 1).toNat p) := fun hz => by
        unfold lD_stepsStuck_c63
        rw [if_pos rfl, w1 (by omega)]
        exact hno hz
      by_cases c0 : 0 < zdK (zdD (zE0 W) i) p
      · rw [if_pos c0]
        by_cases c1 : zeA (zE0 W) p i = -1
        · rw [if_pos c1]
          refine h0s ?_
          unfold zdW
          rw [decide_eq_false (show ¬ (zeA (zE0 W) p i ≠ -1) from fun q => q c1)]
          simp
        · rw [if_neg c1]
          refine zS_b (rdI_n (sh_D5 zis_1_29) (by omega)) ?_
          rw [cP h (by omega) (by omega)]
          by_cases c2 : zeA (zE0 W) p i = zdP (zdD (zE0 W) i) p
          · rw [if_pos c2]
            refine h0s ?_
            unfold zdW
            rw [decide_eq_false (show ¬ (zeA (zE0 W) p i ≠ zdP (zdD (zE0 W) i) p) from fun q => q c2)]
            simp
          · rw [if_neg c2]
            unfold lD_stepsStuck_c63
            rw [if_neg (by decide), w1 (by omega)]
            refine zS_b (rdI_n (sh_D5 zis_1_29) (by omega)) ?_
            rw [cP h (by omega) (by omega)]
            refine zS_b (hJ _ _ hd.1 hd.2.1 hAb.1 hAb.2) ?_
            cases hj : zeJ (zE0 W) (zdP (zdD (zE0 W) i) p) (zeA (zE0 W) p i) with
            | true =>
              rw [zbo_t rfl, if_neg (by decide)]
              refine hno ?_
              unfold zdW
              rw [hj]
              simp
            | false =>
              rw [zbo_f (by decide), if_pos rfl]
              refine hyes ?_
              unfold zdW
              rw [hj, decide_eq_true c0, decide_eq_true c1, decide_eq_true c2]
              rfl
      · rw [if_neg c0]
        refine h0s ?_
        unfold zdW
        rw [decide_eq_false c0]
        rfl
    · intro m a ha
      show zS (lD_stepsStuck_c4 29 (p : Int) M (m + 1) a ((W 1).toNat : Int)) _
      rw [lD_stepsStuck_c4]
      refine zS_ie (by omega) ?_
      exact zS_r ha
  · refine zM_q (lm_asksName_ok h.2.1 h.1) (fun c2 r r1 r2 r3 => ?_) (fun c2 => (if_neg c2).symm)
    rw [if_pos c2]
    obtain ⟨p, rfl⟩ : ∃ n : Nat, x = (n : Int) := ⟨x.toNat, by omega⟩
    refine zS_b (rdI_n sh_122 (by omega)) ?_
    exact zS_r ⟨(r3.2.2 p (show p < (W 6).toNat by omega)).2.1, r1⟩
end ZQA
