/-! Where all can be soonest. -/
section ZHL
variable {W : Nat → Int} {M M1 : Nat → Nat → Int} {x y : Int}
def zDw (W : Nat → Int) (a b : Nat) : Int := if zDs (zJ W (wcls W)) a b = -1 then 1000000000 else zDs (zJ W (wcls W)) a b
def zMd (W : Nat → Int) (t c : Nat) : Int := zfo (fun p a => if t.testBit p = true then zmax a (zDw W (whm W p).toNat c) else a) (W 6).toNat 0
theorem zDw_b {a b : Nat} : 0 ≤ zDw W a b ∧ zDw W a b ≤ 1000000000 := by
  have q := zDs_b (J := zJ W (wcls W)) (a := a) (b := b)
  unfold zDw
  split <;> omega
theorem zMd_l {t c : Nat} {s : Int} (hs : 0 ≤ s) : ∀ n, (zfo (fun p a => if t.testBit p = true then zmax a (zDw W (whm W p).toNat c) else a) n 0 ≤ s ↔ ∀ p, p < n → t.testBit p = true → zDw W (whm W p).toNat c ≤ s) ∧ 0 ≤ zfo (fun p a => if t.testBit p = true then zmax a (zDw W (whm W p).toNat c) else a) n 0 ∧ zfo (fun p a => if t.testBit p = true then zmax a (zDw W (whm W p).toNat c) else a) n 0 ≤ 1000000000
  | 0 => ⟨⟨fun _ p hp => by omega, fun _ => hs⟩, Int.le_refl 0, by show (0 : Int) ≤ 1000000000; decide⟩
  | n + 1 => by
    obtain ⟨i1, i2, i3⟩ := zMd_l (t := t) (c := c) hs n
    have e : zfo (fun p a => if t.testBit p = true then zmax a (zDw W (whm W p).toNat c) else a) (n + 1) 0 = if t.testBit n = true then zmax (zfo (fun p a => if t.testBit p = true then zmax a (zDw W (whm W p).toNat c) else a) n 0) (zDw W (whm W n).toNat c) else zfo (fun p a => if t.testBit p = true then zmax a (zDw W (whm W p).toNat c) else a) n 0 := rfl
    have hb := zDw_b (W := W) (a := (whm W n).toNat) (b := c)
    rw [e]
    generalize zfo (fun p a => if t.testBit p = true then zmax a (zDw W (whm W p).toNat c) else a) n 0 = z at *
    by_cases hz : t.testBit n = true
    · rw [if_pos hz]
      refine ⟨⟨fun q p hp hb2 => ?_, fun q => ?_⟩, by unfold zmax; split <;> omega, by unfold zmax; split <;> omega⟩
      · by_cases hpn : p = n
        · rw [hpn]
          unfold zmax at q
          split at q <;> omega
        · refine i1.mp ?_ p (by omega) hb2
          unfold zmax at q
          split at q <;> omega
      · have q1 := i1.mpr (fun p hp hb2 => q p (by omega) hb2)
        have q2 := q n (by omega) hz
        unfold zmax
        split <;> omega
    · rw [if_neg hz]
      refine ⟨⟨fun q p hp hb2 => ?_, fun q => i1.mpr (fun p hp hb2 => q p (by omega) hb2)⟩, i2, i3⟩
      by_cases hpn : p = n
      · rw [hpn] at hb2
        exact absurd hb2 hz
      · exact i1.mp q p (by omega) hb2
theorem zDw_le {a b s : Nat} (ha : a < 8) (hb : b < 8) (hs : s < 1000000000) : zDw W a b ≤ s ↔ zR (zJ W (wcls W)) s a b = true := by
  unfold zDw zDs
  rcases zfs_cases (b := 8) (f := fun k => zR (zJ W (wcls W)) k a b) with ⟨e, q⟩ | ⟨i, hi, e, q1, q2⟩
  · rw [e, if_pos rfl]
    constructor
    · intro w; omega
    · intro w
      by_cases h8 : s < 8
      · rw [q s h8] at w; cases w
      · rw [zR_7 ha hb (by omega), q 7 (by omega)] at w; cases w
  · rw [e, if_neg (by omega)]
    constructor
    · intro w
      have m := zR_mono q1 (s - i)
      rw [show i + (s - i) = s by omega] at m
      exact m
    · intro w
      apply Decidable.byContradiction
      intro hn
      have := q2 s (by omega)
      rw [w] at this
      cases this
theorem zMd_cf (h : zInv W M) {t s c : Nat} (hc : c < 8) (hs : s < 1000000000) : zMd W t c ≤ s ↔ zCf W t s c = true := by
  unfold zMd zCf
  rw [(zMd_l (by omega) (W 6).toNat).1, zal_1]
  constructor
  · intro q p hp
    have hb := whm_b h.2.1 hp
    cases hz : t.testBit p with
    | false => rfl
    | true => exact (zDw_le (by omega) hc hs).mp (q p hp hz)
  · intro q p hp hz
    have hb := whm_b h.2.1 hp
    have w := q p hp
    rw [hz] at w
    exact (zDw_le (by omega) hc hs).mpr w
/-- a corner is the hall -/
def zHl (W : Nat → Int) (t n : Nat) (b : Int) : Prop := (b = -1 ∧ ∀ c, c < n → 1000000000 ≤ zMd W t c) ∨ (∃ d : Nat, b = (d : Int) ∧ d < n ∧ zMd W t d < 1000000000 ∧ (∀ c, c < n → zMd W t d ≤ zMd W t c) ∧ ∀ c, c < d → zMd W t d < zMd W t c)
theorem mFar {t c : Nat} (hw : wOk W) (hW : M 107 = W) (hk : zWy M (zJ W (wcls W)) (W 0).toNat) (ht : t < 2147483648) (hc : c < (W 0).toNat) : lm_farthest (t : Int) (c : Int) M = some (zMd W t c) := by
  have u0 := hw.1
  have u6 := hw.2.2.2.2.2.2.1
  refine zS_eq ?_
  unfold lm_farthest
  refine loopI (fun m i (v : Int) => lm_farthest_c5 (t : Int) (c : Int) M m v (i : Int)) (fun i v => v = zfo (fun p a => if t.testBit p = true then zmax a (zDw W (whm W p).toNat c) else a) i 0) (a0 := 0) 0 (W 6).toNat (by omega) rfl ?_ ?_ zN (zN_gt (by omega))
  · intro m i v _ hi hv k
    have hb := whm_b hw hi
    have e : zfo (fun p a => if t.testBit p = true then zmax a (zDw W (whm W p).toNat c) else a) (i + 1) 0 = if t.testBit i = true then zmax v (zDw W (whm W i).toNat c) else v := by rw [hv]; rfl
    show zS (lm_farthest_c5 (t : Int) (c : Int) M (m + 1) v (i : Int)) _
    rw [lm_farthest_c5]
    refine zS_b lm_names_eq ?_
    refine zS_it (by rw [hW]; omega) ?_
    refine zS_b (lm_bit_eq (by omega) ht) ?_
    rw [w1 (by omega)]
    by_cases hz : t.testBit i = true
    · rw [if_pos hz, if_pos rfl]
      refine zS_b (lm_of_eq (w := 0) (by omega) (by omega)) ?_
      have eh : M 107 (42 + 12 * i + 0) = (((whm W i).toNat : Nat) : Int) := by
        rw [hW]
        have q : W (42 + 12 * i + 0) = whm W i := rfl
        omega
      rw [eh]
      refine zS_b (lm_wayOf_eq (by omega) (by omega)) ?_
      rw [zWy_eq hk (by omega) hc (by omega)]
      exact k _ (by rw [e, if_pos hz]; rfl)
    · rw [if_neg hz, if_neg (by decide)]
      exact k _ (by rw [e, if_neg hz])
  · intro m v hv
    show zS (lm_farthest_c5 (t : Int) (c : Int) M (m + 1) v ((W 6).toNat : Int)) _
    rw [lm_farthest_c5]
    refine zS_b lm_names_eq ?_
    refine zS_ie (by rw [hW]; omega) ?_
    exact zS_r hv
theorem mHall {t : Nat} (hw : wOk W) (hW : M 107 = W) (hk : zWy M (zJ W (wcls W)) (W 0).toNat) (ht : t < 2147483648) : zS (lm_hallOf (t : Int) M) (zHl W t (W 0).toNat) := by
  have u0 := hw.1
  unfold lm_hallOf
  refine loopI (fun m i (v : Int × Int) => lm_hallOf_c9 (t : Int) M m v.1 v.2 (i : Int)) (fun i v => zHl W t i v.1 ∧ ((v.1 = -1 ∧ v.2 = 1000000000) ∨ (∃ d : Nat, v.1 = (d : Int) ∧ v.2 = zMd W t d))) (a0 := (-1, 1000000000)) 0 (W 0).toNat (by omega) ⟨Or.inl ⟨rfl, fun c hc => by omega⟩, Or.inl ⟨rfl, rfl⟩⟩ ?_ ?_ zN (zN_gt (by omega))
  · intro m i v _ hi ⟨hv, hv2⟩ k
    obtain ⟨v1, v2⟩ := v
    have hv : zHl W t i v1 := hv
    have hv2 : (v1 = -1 ∧ v2 = 1000000000) ∨ (∃ d : Nat, v1 = (d : Int) ∧ v2 = zMd W t d) := hv2
    have hmb := (zMd_l (W := W) (t := t) (c := i) (s := 0) (by omega) (W 6).toNat).2
    have hmb : 0 ≤ zMd W t i ∧ zMd W t i ≤ 1000000000 := hmb
    show zS (lm_hallOf_c9 (t : Int) M (m + 1) v1 v2 (i : Int)) _
    rw [lm_hallOf_c9]
    refine zS_b (w107 (by omega) (by omega)) ?_
    have hi0 : (i : Int) < W 0 := by clear hv hv2 k; omega
    refine zS_it (by rw [hW]; exact hi0) ?_
    have hi8 : i < 1000000 := by clear hv hv2 k; omega
    rw [w1 hi8]
    refine zS_b (mFar hw hW hk ht hi) ?_
    rcases hv with ⟨q1, q2⟩ | ⟨d, q1, q2, q3, q4, q5⟩
    · have e2 : v2 = 1000000000 := by
        rcases hv2 with ⟨_, w⟩ | ⟨d, w, _⟩
        · exact w
        · omega
      by_cases hz : zMd W t i < v2
      · rw [if_pos hz]
        refine k ((i : Int), zMd W t i) ⟨Or.inr ⟨i, rfl, by omega, by omega, fun c hc => ?_, fun c hc => ?_⟩, Or.inr ⟨i, rfl, rfl⟩⟩
        · by_cases hci : c = i
          · rw [hci]; exact Int.le_refl _
          · have := q2 c (by omega); omega
        · have := q2 c (by omega); omega
      · rw [if_neg hz]
        refine k (v1, v2) ⟨Or.inl ⟨q1, fun c hc => ?_⟩, Or.inl ⟨q1, e2⟩⟩
        by_cases hci : c = i
        · rw [hci]; omega
        · exact q2 c (by omega)
    · have e2 : v2 = zMd W t d := by
        rcases hv2 with ⟨w, _⟩ | ⟨d', w, w2⟩
        · omega
        · have hdd : d' = d := by omega
          rw [w2, hdd]
      by_cases hz : zMd W t i < v2
      · rw [if_pos hz]
        refine k ((i : Int), zMd W t i) ⟨Or.inr ⟨i, rfl, by omega, by omega, fun c hc => ?_, fun c hc => ?_⟩, Or.inr ⟨i, rfl, rfl⟩⟩
        · by_cases hci : c = i
          · rw [hci]; exact Int.le_refl _
          · have := q4 c (by omega); omega
        · have := q4 c (by omega); omega
      · rw [if_neg hz]
        refine k (v1, v2) ⟨Or.inr ⟨d, q1, by omega, q3, fun c hc => ?_, q5⟩, Or.inr ⟨d, q1, e2⟩⟩
        by_cases hci : c = i
        · rw [hci]; omega
        · exact q4 c (by omega)
  · intro m v ⟨hv, _⟩
    show zS (lm_hallOf_c9 (t : Int) M (m + 1) v.1 v.2 ((W 0).toNat : Int)) _
    rw [lm_hallOf_c9]
    refine zS_b (w107 (by omega) (by omega)) ?_
    have hi0 : ¬ (((W 0).toNat : Int) < W 0) := by clear hv; omega
    refine zS_ie (by rw [hW]; exact hi0) ?_
    exact zS_r hv
/-- the fewest steps, by the hall -/
theorem zHl_fg (h : zInv W M) {t : Nat} {b : Int} (htb : ∃ p, p < (W 6).toNat ∧ t.testBit p = true) (hb : zHl W t (W 0).toNat b) : zFg W t = if b = -1 then -1 else zMd W t b.toNat := by
  have u0 := h.2.1.1
  have hout : ∀ s c, c < 8 → zCf W t s c = true → c < (W 0).toNat := fun s c _ hq => by
    obtain ⟨p, hp, hz⟩ := htb
    have q := zal_1.mp hq p hp
    rw [hz] at q
    have hm := whm_b h.2.1 hp
    exact (zR_Pw (n := (W 0).toNat) (by omega) (fun c b hcb => (zJ_lt h.2.1 hcb).2) s c q).1
  unfold zFg
  rcases hb with ⟨q1, q2⟩ | ⟨d, q1, q2, q3, q4, q5⟩
  · rw [if_pos q1]
    refine zfs_no (fun s hs => ?_)
    rw [← Bool.not_eq_true, zan_1]
    intro ⟨c, hc, hq⟩
    have hcn := hout s c hc hq
    have w := (zMd_cf h hc (by omega)).mpr hq
    have := q2 c hcn
    omega
  · rw [if_neg (by omega), q1, Int.toNat_natCast]
    have hm0 := (zMd_l (W := W) (t := t) (c := d) (s := 0) (by omega) (W 6).toNat).2.1
    have hm0 : 0 ≤ zMd W t d := hm0
    have h8 : zMd W t d ≤ 7 := by
      have q := (zMd_cf h (t := t) (s := 7) (c := d) (by omega) (by omega)).mpr ?_
      · exact q
      · refine zal_1.mpr (fun p hp => ?_)
        cases hz : t.testBit p with
        | false => rfl
        | true =>
          have hm := whm_b h.2.1 hp
          have w := (zMd_cf h (t := t) (s := (zMd W t d).toNat) (c := d) (by omega) (by omega)).mp (by omega)
          have w2 := zal_1.mp w p hp
          rw [hz] at w2
          have w2 : zR (zJ W (wcls W)) (zMd W t d).toNat (whm W p).toNat d = true := w2
          show zR (zJ W (wcls W)) 7 (whm W p).toNat d = true
          by_cases h7 : (zMd W t d).toNat ≤ 7
          · have m := zR_mono w2 (7 - (zMd W t d).toNat)
            rw [show (zMd W t d).toNat + (7 - (zMd W t d).toNat) = 7 by omega] at m
            exact m
          · rw [zR_7 (by omega) (by omega) (by omega)] at w2
            exact w2
    have e : zMd W t d = ((zMd W t d).toNat : Int) := by omega
    rw [e]
    refine zfs_at (by omega) (zan_1.mpr ⟨d, by omega, (zMd_cf h (by omega) (by omega)).mp (by omega)⟩) (fun s hs => ?_)
    rw [← Bool.not_eq_true, zan_1]
    intro ⟨c, hc, hq⟩
    have hcn := hout s c hc hq
    have w := (zMd_cf h hc (by omega)).mpr hq
    have := q4 c hcn
    omega
theorem mSoon {t : Nat} (h : zInv W M) (ht : t < 2147483648) (htb : ∃ p, p < (W 6).toNat ∧ t.testBit p = true) : zS (lm_soonOf (t : Int) M) (fun r => r.1 = zFg W t ∧ zKeep M r.2 ∧ r.2 107 = W ∧ zWy r.2 (zJ W (wcls W)) (W 0).toNat) := by
  unfold lm_soonOf
  refine mWays h (fun M2 k1 k2 k3 => ?_)
  refine zS_m (mHall h.2.1 k2 k3 ht) ?_
  intro b hb
  have e := zHl_fg h htb hb
  by_cases hb1 : b = -1
  · rw [if_pos hb1]
    rw [if_pos hb1] at e
    exact zS_r ⟨e.symm, k1, k2, k3⟩
  · rw [if_neg hb1]
    rw [if_neg hb1] at e
    rcases hb with ⟨q1, _⟩ | ⟨d, q1, q2, _⟩
    · exact absurd q1 hb1
    · rw [q1, Int.toNat_natCast] at e
      rw [q1]
      refine zS_b (mFar h.2.1 k2 k3 ht q2) ?_
      exact zS_r ⟨e.symm, k1, k2, k3⟩
theorem q_soon (h : zInv W M) : zQ1 M (lX_soon x y M) (lm_soon x y M) := by
  obtain ⟨u0, u1, _, _, u4, _, u6, u7, _⟩ := h.2.1
  refine ⟨if (0 ≤ x ∧ x < W 6) ∧ (0 ≤ y ∧ y < W 6) then zFg W (2 ^ x.toNat ||| 2 ^ y.toNat) else -2, ?_, ?_⟩
  · refine zX_g (xName h) (fun c1 => zX_g (xName h) (fun c2 => ?_) (fun c2 => (if_neg (fun q => c2 q.2)).symm)) (fun c1 => (if_neg (fun q => c1 q.1)).symm)
    rw [if_pos ⟨c1, c2⟩]
    obtain ⟨a, rfl⟩ : ∃ n : Nat, x = (n : Int) := ⟨x.toNat, by omega⟩
    obtain ⟨b, rfl⟩ : ∃ n : Nat, y = (n : Int) := ⟨y.toNat, by omega⟩
    obtain ⟨e1, e2⟩ := two_bits (a := a) (b := b) (by omega) (by omega)
    rw [e1]
    refine zS_b (lX_fewest_eq h (by omega)) ?_
    exact zS_r rfl
  · refine zM_g (mName h.2.1 h.1) zKeep_r (fun c1 => zM_g (mName h.2.1 h.1) zKeep_r (fun c2 => ?_) (fun c2 => (if_neg (fun q => c2 q.2)).symm)) (fun c1 => (if_neg (fun q => c1 q.1)).symm)
    rw [if_pos ⟨c1, c2⟩]
    obtain ⟨a, rfl⟩ : ∃ n : Nat, x = (n : Int) := ⟨x.toNat, by omega⟩
    obtain ⟨b, rfl⟩ : ∃ n : Nat, y = (n : Int) := ⟨y.toNat, by omega⟩
    obtain ⟨e1, e2⟩ := two_bits (a := a) (b := b) (by omega) (by omega)
    rw [e1]
    refine zS_m (mSoon h (by omega) ⟨a, by omega, two_bit.mpr (Or.inl rfl)⟩) (fun r hr => ?_)
    exact zS_r ⟨hr.1, hr.2.1⟩
theorem q_gather (h : zInv W M) : zQ1 M (lX_gather x M) (lm_gather x M) := by
  obtain ⟨u0, u1, _, _, u4, _, u6, u7, _⟩ := h.2.1
  refine ⟨if (0 ≤ x ∧ x < W 7) then zFg W (zeP (zE0 W) x.toNat) else -2, ?_, ?_⟩
  · refine zX_g (xCont h) (fun c2 => ?_) (fun c2 => (if_neg c2).symm)
    rw [if_pos c2]
    obtain ⟨k, rfl⟩ : ∃ n : Nat, x = (n : Int) := ⟨x.toNat, by omega⟩
    obtain ⟨p1, p2, p3, p4⟩ := xParty h (show k < (W 7).toNat by omega)
    refine zS_b (rdI_n sh_12 (by omega)) ?_
    rw [p1]
    refine zS_b (lX_fewest_eq h (by omega)) ?_
    exact zS_r rfl
  · refine zM_g (mCont h.2.1 h.1) zKeep_r (fun c2 => ?_) (fun c2 => (if_neg c2).symm)
    rw [if_pos c2]
    obtain ⟨k, rfl⟩ : ∃ n : Nat, x = (n : Int) := ⟨x.toNat, by omega⟩
    obtain ⟨p1, p2, p3, p4⟩ := xParty h (show k < (W 7).toNat by omega)
    refine zS_b (lm_namesOf_eq (by omega)) ?_
    have hWk : M 107 (102 + k) = (zeP (zE0 W) k : Int) := by rw [h.1]; exact mP7 h.2.1 (by omega)
    rw [hWk]
    obtain ⟨p, hp⟩ := zn_ex p3
    refine zS_m (mSoon h (by omega) ⟨p, p4 p hp, hp⟩) (fun r hr => ?_)
    exact zS_r ⟨hr.1, hr.2.1⟩
theorem q_hall (h : zInv W M) : zQ1 M (lX_hall x M) (lm_hall x M) := by
  obtain ⟨u0, u1, _, _, u4, _, u6, u7, _⟩ := h.2.1
  refine ⟨if (0 ≤ x ∧ x < W 7) then (if zFg W (zeP (zE0 W) x.toNat) = -1 then -1 else zfs 8 (zCf W (zeP (zE0 W) x.toNat) (zFg W (zeP (zE0 W) x.toNat)).toNat)) else -2, ?_, ?_⟩
  · refine zX_g (xCont h) (fun c2 => ?_) (fun c2 => (if_neg c2).symm)
    rw [if_pos c2]
    obtain ⟨k, rfl⟩ : ∃ n : Nat, x = (n : Int) := ⟨x.toNat, by omega⟩
    obtain ⟨p1, p2, p3, p4⟩ := xParty h (show k < (W 7).toNat by omega)
    rw [Int.toNat_natCast]
    refine zS_b (rdI_n sh_12 (by omega)) ?_
    rw [p1]
    refine zS_b (lX_fewest_eq h (by omega)) ?_
    by_cases hz : zFg W (zeP (zE0 W) k) = -1
    · rw [if_pos hz, if_pos hz]
      exact zS_r rfl
    · rw [if_neg hz, if_neg hz]
      have hfb : 0 ≤ zFg W (zeP (zE0 W) k) ∧ zFg W (zeP (zE0 W) k) < 8 := by
        unfold zFg at hz ⊢
        rcases zfs_cases (b := 8) (f := fun s => zan 8 (zCf W (zeP (zE0 W) k) s)) with ⟨q, _⟩ | ⟨i, hi, q, _⟩
        · exact absurd q hz
        · rw [q]; omega
      obtain ⟨s, hs⟩ : ∃ s : Nat, zFg W (zeP (zE0 W) k) = (s : Int) := ⟨(zFg W (zeP (zE0 W) k)).toNat, by omega⟩
      rw [hs, Int.toNat_natCast]
      refine zS_m (lX_cornersForAll_ok h (by omega) (show s ≤ 8 by omega)) ?_
      intro v hv
      have hl : lX_leastOf v M = some (zfs 8 (zCf W (zeP (zE0 W) k) s)) := by
        refine zS_eq ?_
        unfold lX_leastOf
        obtain ⟨A, eA, hA, hAb⟩ := hv
        rw [eA]
        refine loopI (A := Unit) (fun m i _ => lX_leastOf_c2 (A : Int) M m (i : Int)) (fun i _ => ∀ j, j < i → A.testBit j = false) (a0 := ()) 0 31 (by omega) (fun j hj => by omega) ?_ ?_ zN (zN_gt (by omega))
        · intro m i _ _ hi hI k2
          have k2 := k2 ()
          show zS (lX_leastOf_c2 (A : Int) M (m + 1) (i : Int)) _
          rw [lX_leastOf_c2]
          refine zS_it (by omega) ?_
          have p8 : (2 : Nat) ^ 8 = 256 := by decide
          rw [zbit_nat (by omega) (by omega), w1 (by omega)]
          cases hb : A.testBit i with
          | false =>
            rw [if_pos (by decide)]
            exact k2 (fun j hj => by
              by_cases hji : j = i
              · rw [hji]; exact hb
              · exact hI j (by omega))
          | true =>
            rw [if_pos rfl, if_neg (by decide)]
            have hi8 : i < 8 := by
              apply Decidable.byContradiction
              intro hn
              have := Nat.testBit_lt_two_pow (Nat.lt_of_lt_of_le hA (Nat.pow_le_pow_right (n := 2) (i := 8) (j := i) (by decide) (by omega)))
              rw [hb] at this
              cases this
            exact zS_r (zfs_at hi8 (by rw [← hAb i hi8]; exact hb) (fun j hj => by rw [← hAb j (by omega)]; exact hI j hj)).symm
        · intro m _ hI
          show zS (lX_leastOf_c2 (A : Int) M (m + 1) ((31 : Nat) : Int)) _
          rw [lX_leastOf_c2]
          refine zS_ie (by omega) ?_
          exact zS_r (zfs_no (fun j hj => by rw [← hAb j hj]; exact hI j (by omega))).symm
      exact zS_b hl (zS_r rfl)
  · refine zM_g (mCont h.2.1 h.1) zKeep_r (fun c2 => ?_) (fun c2 => (if_neg c2).symm)
    rw [if_pos c2]
    obtain ⟨k, rfl⟩ : ∃ n : Nat, x = (n : Int) := ⟨x.toNat, by omega⟩
    obtain ⟨p1, p2, p3, p4⟩ := xParty h (show k < (W 7).toNat by omega)
    rw [Int.toNat_natCast]
    refine zS_b (lm_namesOf_eq (by omega)) ?_
    have hWk : M 107 (102 + k) = (zeP (zE0 W) k : Int) := by rw [h.1]; exact mP7 h.2.1 (by omega)
    rw [hWk]
    obtain ⟨p, hp⟩ := zn_ex p3
    have htb : ∃ p, p < (W 6).toNat ∧ (zeP (zE0 W) k).testBit p = true := ⟨p, p4 p hp, hp⟩
    refine zS_m (mSoon h (by omega) htb) (fun r hr => ?_)
    obtain ⟨r1, r2, r3, r4⟩ := hr
    refine zS_b (lm_namesOf_eq (by omega)) ?_
    have hWk2 : r.2 107 (102 + k) = (zeP (zE0 W) k : Int) := by rw [r3]; exact mP7 h.2.1 (by omega)
    rw [hWk2]
    refine zS_m (mHall h.2.1 r3 r4 (by omega)) ?_
    intro b hb
    refine zS_r ⟨?_, r2⟩
    show b = _
    have e := zHl_fg h htb hb
    rw [e]
    rcases hb with ⟨q1, q2⟩ | ⟨d, q1, q2, q3, q4, q5⟩
    · rw [q1, if_pos rfl, if_pos rfl]
    · have hm0 := (zMd_l (W := W) (t := zeP (zE0 W) k) (c := d) (s := 0) (by omega) (W 6).toNat).2.1
      have hm0 : 0 ≤ zMd W (zeP (zE0 W) k) d := hm0
      rw [q1, if_neg (show ¬ ((d : Int) = -1) by omega), Int.toNat_natCast, if_neg (by omega)]
      refine (zfs_at (by omega) ((zMd_cf h (by omega) (by omega)).mp (by omega)) (fun c hc => ?_)).symm
      cases hq : zCf W (zeP (zE0 W) k) (zMd W (zeP (zE0 W) k) d).toNat c with
      | false => rfl
      | true =>
        have w := (zMd_cf h (by omega) (by omega)).mpr hq
        have := q5 c hc
        omega
end ZHL
