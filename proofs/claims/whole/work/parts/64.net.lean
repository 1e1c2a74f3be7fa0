/-! The class's net. -/
theorem zset_fun {n : Nat} {z : Int} {f g : Nat → Bool} (h : zset n z f) (k : zset n z g) : ∀ i, i < n → f i = g i := fun i hi => by
  obtain ⟨A, h1, h2, h3⟩ := h
  obtain ⟨B, k1, k2, k3⟩ := k
  have e : A = B := by omega
  rw [← h3 i hi, ← k3 i hi, e]
theorem zset_zero {n : Nat} {z : Int} {f : Nat → Bool} (h : zset n z f) : z = 0 ↔ ∀ i, i < n → f i = false := by
  obtain ⟨A, h1, h2, h3⟩ := h
  constructor
  · intro e i hi
    have e0 : A = 0 := by omega
    rw [← h3 i hi, e0, Nat.zero_testBit]
  · intro q
    have e0 : A = 0 := zn0.mpr (fun i => by
      by_cases hi : i < n
      · rw [h3 i hi, q i hi]
      · exact Nat.testBit_lt_two_pow (Nat.lt_of_lt_of_le h2 (Nat.pow_le_pow_right (by decide) (by omega))))
    omega
theorem zset_and {n : Nat} {z y : Int} {f g : Nat → Bool} (h : zset n z f) (k : zset n y g) (hn : n ≤ 30) : zset n (zand z y) (fun i => f i && g i) := by
  obtain ⟨A, rfl, hA, hb⟩ := h
  obtain ⟨B, rfl, hB, kb⟩ := k
  have hp : 2 ^ n ≤ 2 ^ 30 := Nat.pow_le_pow_right (by decide) hn
  refine ⟨A &&& B, zand_nat (by omega), Nat.lt_of_le_of_lt Nat.and_le_left hA, fun i hi => ?_⟩
  rw [Nat.testBit_and, hb i hi, kb i hi]
section ZNT
variable {W : Nat → Int} {M M1 : Nat → Nat → Int} {x y : Int} {cl : Nat → Bool} {e : Nat} {J : Nat → Nat → Bool}
def zNr (M : Nat → Nat → Int) (e : Nat) (J : Nat → Nat → Bool) : Prop := zis 3 e = true ∧ ∀ a, a < 8 → zset 8 (M (e + 1) a) (fun b => J a b)
theorem lN_spread_ok {f : Nat → Bool} (h : zNr M e J) (hx : zset 8 x f) : zS (lN_spread e x M) (fun v => zset 8 v (fun b => f b || zan 8 (fun c => f c && J c b))) := by
  unfold lN_spread
  rw [if_pos h.1]
  refine loopI (fun m i (a : Int) => lN_spread_c4 e x M m a (i : Int)) (fun i a => zset 8 a (fun b => f b || zan i (fun c => f c && J c b))) (a0 := x) 0 8 (by omega) (zset_cg hx (fun k _ => (Bool.or_false _).symm)) ?_ ?_ zN (zN_gt (by omega))
  · intro m i a _ hi ha k
    show zS (lN_spread_c4 e x M (m + 1) a (i : Int)) _
    rw [lN_spread_c4]
    refine zS_it (by omega) ?_
    rw [zset_bit hx (by omega) hi, w1 (by omega)]
    have es : ∀ b, zan (i + 1) (fun c => f c && J c b) = (zan i (fun c => f c && J c b) || (f i && J i b)) := fun b => rfl
    cases hf : f i with
    | false =>
      rw [if_pos (by decide)]
      exact k a (zset_cg ha (fun b _ => by rw [es b, hf, Bool.false_and, Bool.or_false]))
    | true =>
      rw [if_pos rfl, if_neg (by decide)]
      refine zS_b (rdI_n (sh_N1 h.1) hi) ?_
      exact k _ (zset_cg (zset_or ha (h.2 i hi) (by omega)) (fun b _ => by rw [es b, hf, Bool.true_and, Bool.or_assoc]))
  · intro m a ha
    show zS (lN_spread_c4 e x M (m + 1) a ((8 : Nat) : Int)) _
    rw [lN_spread_c4]
    refine zS_ie (by omega) ?_
    exact zS_r ha
theorem zset_one {a : Nat} (ha : a < 8) : zset 8 (zshl 1 (a : Int)) (zR J 0 a) := by
  refine zset_cg (zset_01 (Or.inr rfl) ha (by omega)) (fun k _ => ?_)
  show (decide (k = a) && decide ((1 : Int) = 1)) = decide (a = k)
  by_cases h : k = a
  · rw [decide_eq_true h, decide_eq_true h.symm]; rfl
  · rw [decide_eq_false h, decide_eq_false (show ¬ a = k from fun q => h q.symm)]; rfl
theorem lN_within_ok {a s : Nat} (h : zNr M e J) (ha : a < 8) (hs : s ≤ 8) : zS (lN_within e (a : Int) (s : Int) M) (fun v => zset 8 v (zR J s a)) := by
  unfold lN_within
  rw [if_pos h.1]
  refine loopI (fun m i (v : Int) => lN_within_c7 e (a : Int) (s : Int) M m v (i : Int)) (fun i v => zset 8 v (zR J i a)) (a0 := zshl 1 (a : Int)) 0 s (by omega) (zset_one ha) ?_ ?_ zN (zN_gt (by omega))
  · intro m i v _ hi hv k
    show zS (lN_within_c7 e (a : Int) (s : Int) M (m + 1) v (i : Int)) _
    rw [lN_within_c7]
    refine zS_it (by omega) ?_
    refine zS_m (lN_spread_ok h hv) ?_
    intro u hu
    have hu : zset 8 u (zR J (i + 1) a) := hu
    rw [w1 (by omega)]
    by_cases huv : u = v
    · rw [if_pos huv]
      rw [huv] at hu
      have hst := zset_fun hu hv
      refine zS_r (zset_cg hv (fun b hb => ?_))
      have q := zR_stab (J := J) (a := a) (k := i) hst (s - i) b hb
      rw [show i + (s - i) = s by omega] at q
      exact q.symm
    · rw [if_neg huv]
      exact k u hu
  · intro m v hv
    show zS (lN_within_c7 e (a : Int) (s : Int) M (m + 1) v (s : Int)) _
    rw [lN_within_c7]
    refine zS_ie (by omega) ?_
    exact zS_r hv
theorem lN_distance_ok {a b : Nat} (h : zNr M e J) (ha : a < 8) (hb : b < 8) : lN_distance e (a : Int) (b : Int) M = some (zDs J a b) := by
  refine zS_eq ?_
  unfold lN_distance
  rw [if_pos h.1]
  refine loopI (fun m i (v : Int) => lN_distance_c7 e (a : Int) (b : Int) M m v (i : Int)) (fun i v => zset 8 v (zR J i a) ∧ ∀ k, k < i → zR J k a b = false) (a0 := zshl 1 (a : Int)) 0 8 (by omega) ⟨zset_one ha, fun k hk => by omega⟩ ?_ ?_ zN (zN_gt (by omega))
  · intro m i v _ hi ⟨hv, hI⟩ k
    show zS (lN_distance_c7 e (a : Int) (b : Int) M (m + 1) v (i : Int)) _
    rw [lN_distance_c7]
    refine zS_it (by omega) ?_
    rw [zset_bit hv (by omega) hb]
    cases hz : zR J i a b with
    | true =>
      rw [if_pos rfl, if_neg (by decide)]
      exact zS_r (zfs_at (f := fun k => zR J k a b) hi hz hI).symm
    | false =>
      rw [if_pos (by decide)]
      refine zS_m (lN_spread_ok h hv) ?_
      intro u hu
      rw [w1 (by omega)]
      exact k u ⟨hu, fun j hj => by
        by_cases hji : j = i
        · rw [hji]; exact hz
        · exact hI j (by omega)⟩
  · intro m v ⟨hv, hI⟩
    show zS (lN_distance_c7 e (a : Int) (b : Int) M (m + 1) v ((8 : Nat) : Int)) _
    rw [lN_distance_c7]
    refine zS_ie (by omega) ?_
    exact zS_r (zfs_no (f := fun k => zR J k a b) hI).symm
theorem xNet (h : zInv W M) : zNr M 30 (zJ W (wcls W)) := ⟨zis_3_30, fun a ha => h.2.2.2.2.1.2.2.2 a ha⟩
theorem mWays (h : zInv W M) {α : Type} {g : (Nat → Nat → Int) → Option α} {Q : α → Prop} (k : ∀ M2, zKeep M M2 → M2 107 = W → zWy M2 (zJ W (wcls W)) (W 0).toNat → zS (g M2) Q) : zS ((lm_asItIs M).bind (fun M1 => (lm_layWays M1).bind g)) Q := by
  refine zS_m (lm_asItIs_ok h.2.1 h.1) ?_
  intro M1 hA
  have hS := zAs_S h.2.1 h.1 hA
  refine zS_m (lm_layWays_ok h.2.1 hS.1 hS.2.2.2.2.2.1) ?_
  intro M2 ⟨g1, g2⟩
  refine k M2 (fun c i hc => ?_) ((g1 107 (by omega)).trans hS.1) g2
  have hc2 := hc
  unfold zkp at hc
  rw [g1 c (by omega)]
  exact zAs_keep hA c i hc2
theorem zDs_b {a b : Nat} : -1 ≤ zDs J a b ∧ zDs J a b < 8 := by
  unfold zDs
  rcases zfs_cases (b := 8) (f := fun k => zR J k a b) with ⟨q, _⟩ | ⟨i, hi, q, _⟩ <;> rw [q] <;> omega
theorem q_way (h : zInv W M) : zQ1 M (lX_way x y M) (lm_way x y M) := by
  obtain ⟨u0, u1, _⟩ := h.2.1
  refine ⟨if (0 ≤ x ∧ x < W 0) ∧ (0 ≤ y ∧ y < W 0) then zDs (zJ W (wcls W)) x.toNat y.toNat else -2, ?_, ?_⟩
  · refine zX_g (xCorner h) (fun c1 => zX_g (xCorner h) (fun c2 => ?_) (fun c2 => (if_neg (fun q => c2 q.2)).symm)) (fun c1 => (if_neg (fun q => c1 q.1)).symm)
    rw [if_pos ⟨c1, c2⟩]
    obtain ⟨a, rfl⟩ : ∃ p : Nat, x = (p : Int) := ⟨x.toNat, by omega⟩
    obtain ⟨b, rfl⟩ : ∃ p : Nat, y = (p : Int) := ⟨y.toNat, by omega⟩
    refine zS_b (lN_distance_ok (xNet h) (by omega) (by omega)) ?_
    exact zS_r rfl
  · refine zM_g (mCorner h.2.1 h.1) zKeep_r (fun c1 => zM_g (mCorner h.2.1 h.1) zKeep_r (fun c2 => ?_) (fun c2 => (if_neg (fun q => c2 q.2)).symm)) (fun c1 => (if_neg (fun q => c1 q.1)).symm)
    rw [if_pos ⟨c1, c2⟩]
    obtain ⟨a, rfl⟩ : ∃ p : Nat, x = (p : Int) := ⟨x.toNat, by omega⟩
    obtain ⟨b, rfl⟩ : ∃ p : Nat, y = (p : Int) := ⟨y.toNat, by omega⟩
    refine mWays h (fun M2 k1 k2 k3 => ?_)
    refine zS_b (lm_wayOf_eq (by omega) (by omega)) ?_
    rw [zWy_eq k3 (by omega) (by omega) (by omega)]
    have hd := zDs_b (J := zJ W (wcls W)) (a := a) (b := b)
    unfold lm_orNone
    by_cases hz : zDs (zJ W (wcls W)) a b = -1
    · rw [if_pos hz, if_neg (by decide)]
      exact zS_b rfl (zS_r ⟨hz.symm, k1⟩)
    · rw [if_neg hz, if_pos (by omega)]
      exact zS_b rfl (zS_r ⟨rfl, k1⟩)
theorem zWy_8 {i j : Nat} (h : zWy M J (W 0).toNat) (hw : wOk W) (hi : i < (W 0).toNat) (hj : j < (W 0).toNat) : zR J 8 i j = decide (M 124 (8 * i + j) < 1000000000) := by
  have u0 := hw.1
  obtain ⟨h0, h1, h2, h3⟩ := h i j hi hj
  rw [Bool.eq_iff_iff, decide_eq_true_eq]
  constructor
  · intro q
    have := h3 8 q
    omega
  · intro q
    have t := h2 q
    by_cases hd : (M 124 (8 * i + j)).toNat ≤ 8
    · have m := zR_mono t (8 - (M 124 (8 * i + j)).toNat)
      rw [show (M 124 (8 * i + j)).toNat + (8 - (M 124 (8 * i + j)).toNat) = 8 by omega] at m
      exact m
    · rw [zR_7 (by omega) (by omega) (by omega)] at t
      exact zR_mono t 1
theorem q_reach (h : zInv W M) : zQ1 M (lX_reach x M) (lm_reach x M) := by
  obtain ⟨u0, u1, _⟩ := h.2.1
  refine ⟨if (0 ≤ x ∧ x < W 0) then zst (W 0).toNat (fun b => zR (zJ W (wcls W)) 8 x.toNat b) else -2, ?_, ?_⟩
  · refine zX_g (xCorner h) (fun c1 => ?_) (fun c1 => (if_neg c1).symm)
    rw [if_pos c1]
    obtain ⟨a, rfl⟩ : ∃ p : Nat, x = (p : Int) := ⟨x.toNat, by omega⟩
    rw [Int.toNat_natCast]
    refine zS_m (lN_within_ok (s := 8) (xNet h) (show a < 8 by omega) (by omega)) ?_
    intro v hv
    refine zS_r (zset_eq hv (zset_zst (by omega) (show (W 0).toNat ≤ 8 by omega)) (fun b hb => ?_))
    by_cases hbn : b < (W 0).toNat
    · rw [decide_eq_true hbn, Bool.true_and]
    · rw [decide_eq_false hbn, Bool.false_and]
      cases hz : zR (zJ W (wcls W)) 8 a b with
      | false => rfl
      | true =>
        obtain ⟨q, _⟩ := zR_Pw (n := (W 0).toNat) (by omega) (fun c b hcb => (zJ_lt h.2.1 hcb).2) 8 b hz
        exact absurd q hbn
  · refine zM_g (mCorner h.2.1 h.1) zKeep_r (fun c1 => ?_) (fun c1 => (if_neg c1).symm)
    rw [if_pos c1]
    obtain ⟨a, rfl⟩ : ∃ p : Nat, x = (p : Int) := ⟨x.toNat, by omega⟩
    rw [Int.toNat_natCast]
    refine mWays h (fun M2 k1 k2 k3 => ?_)
    refine loopI (fun m i (v : Int) => lm_reach_c24 (a : Int) m v (i : Int) M2) (fun i v => v = zst i (fun b => zR (zJ W (wcls W)) 8 a b)) (a0 := 0) 0 (W 0).toNat (by omega) rfl ?_ ?_ zN (zN_gt (by omega))
    · intro m i v _ hi hv k
      have e := zor_st (n := i) (f := fun b => zR (zJ W (wcls W)) 8 a b) (by omega)
      have q := zWy_8 k3 h.2.1 (show a < (W 0).toNat by omega) hi
      show zS (lm_reach_c24 (a : Int) (m + 1) v (i : Int) M2) _
      rw [lm_reach_c24]
      refine zS_b (w107 (by omega) (by omega)) ?_
      refine zS_it (by rw [k2]; show (i : Int) < W 0; omega) ?_
      rw [w1 (by omega)]
      refine zS_b (lm_wayOf_eq (by omega) (by omega)) ?_
      by_cases hz : M2 124 (8 * a + i) < 1000000000
      · rw [if_pos hz]
        exact k _ (by rw [← e, if_pos (show zR (zJ W (wcls W)) 8 a i = true by rw [q]; exact decide_eq_true hz), hv])
      · rw [if_neg hz]
        exact k _ (by rw [← e, if_neg (show ¬ zR (zJ W (wcls W)) 8 a i = true by rw [q]; simpa using hz), hv])
    · intro m v hv
      show zS (lm_reach_c24 (a : Int) (m + 1) v ((W 0).toNat : Int) M2) _
      rw [lm_reach_c24]
      refine zS_b (w107 (by omega) (by omega)) ?_
      refine zS_ie (by rw [k2]; show ¬ (((W 0).toNat : Int) < W 0); omega) ?_
      exact zS_r ⟨hv, k1⟩
/-! gathering -/
def zCf (W : Nat → Int) (t s c : Nat) : Bool := zal (W 6).toNat (fun p => !(t.testBit p) || zR (zJ W (wcls W)) s (whm W p).toNat c)
theorem lX_cornersForAll_ok {t s : Nat} (h : zInv W M) (ht : t < 2147483648) (hs : s ≤ 8) : zS (lX_cornersForAll (t : Int) (s : Int) M) (fun v => zset 8 v (zCf W t s)) := by
  obtain ⟨b1, b2, b3, b4, b5, b6, b7, b8⟩ := xB h
  have tn := h.2.2.1.2.2.2.2.2.2.2.2.2.2.2.1
  unfold lX_cornersForAll
  have h255 : zset 8 255 (fun _ => true) := by
    refine ⟨255, rfl, by decide, fun k hk => ?_⟩
    have e1 : (255 : Nat) = 2 ^ 8 - 1 := by decide
    rw [e1, Nat.testBit_two_pow_sub_one]
    exact decide_eq_true hk
  refine loopI (fun m i (v : Int) => lX_cornersForAll_c7 (t : Int) (s : Int) M m v (i : Int)) (fun i v => zset 8 v (fun c => zal i (fun p => !(t.testBit p) || zR (zJ W (wcls W)) s (whm W p).toNat c))) (a0 := 255) 0 (W 6).toNat (by omega) h255 ?_ ?_ zN (zN_gt (by omega))
  · intro m i v _ hi hv k
    have es : ∀ c, zal (i + 1) (fun p => !(t.testBit p) || zR (zJ W (wcls W)) s (whm W p).toNat c) = (zal i (fun p => !(t.testBit p) || zR (zJ W (wcls W)) s (whm W p).toNat c) && (!(t.testBit i) || zR (zJ W (wcls W)) s (whm W i).toNat c)) := fun c => rfl
    have hb := whm_b h.2.1 hi
    show zS (lX_cornersForAll_c7 (t : Int) (s : Int) M (m + 1) v (i : Int)) _
    rw [lX_cornersForAll_c7]
    refine zS_it (by omega) ?_
    rw [zbit_nat (by omega) ht, w1 (by omega)]
    cases hz : t.testBit i with
    | false =>
      rw [if_pos (by decide)]
      exact k v (zset_cg hv (fun c _ => by rw [es c, hz]; simp))
    | true =>
      rw [if_pos rfl, if_neg (by decide)]
      refine zS_b (rdI_n sh_7 (by omega)) ?_
      have e7 : M 7 i = (((whm W i).toNat : Nat) : Int) := by
        have q : M 7 i = whm W i := (tn i hi).1
        omega
      rw [e7]
      refine zS_m (lN_within_ok (xNet h) (by omega) hs) ?_
      intro u hu
      exact k _ (zset_cg (zset_and hv hu (by omega)) (fun c _ => by rw [es c, hz]; simp))
  · intro m v hv
    show zS (lX_cornersForAll_c7 (t : Int) (s : Int) M (m + 1) v ((W 6).toNat : Int)) _
    rw [lX_cornersForAll_c7]
    refine zS_ie (by omega) ?_
    exact zS_r hv
def zFg (W : Nat → Int) (t : Nat) : Int := zfs 8 (fun s => zan 8 (zCf W t s))
theorem lX_fewest_eq {t : Nat} (h : zInv W M) (ht : t < 2147483648) : lX_fewestToGather (t : Int) M = some (zFg W t) := by
  refine zS_eq ?_
  unfold lX_fewestToGather
  refine loopI (A := Unit) (fun m i _ => lX_fewestToGather_c2 (t : Int) M m (i : Int)) (fun i _ => ∀ j, j < i → zan 8 (zCf W t j) = false) (a0 := ()) 0 8 (by omega) (fun j hj => by omega) ?_ ?_ zN (zN_gt (by omega))
  · intro m i _ _ hi hI k
    have k := k ()
    show zS (lX_fewestToGather_c2 (t : Int) M (m + 1) (i : Int)) _
    rw [lX_fewestToGather_c2]
    refine zS_it (by omega) ?_
    refine zS_m (lX_cornersForAll_ok h ht (by omega)) ?_
    intro v hv
    rw [w1 (by omega)]
    have hz := zset_zero hv
    by_cases hv0 : v = 0
    · rw [if_pos hv0]
      have q := hz.mp hv0
      exact k (fun j hj => by
        by_cases hji : j = i
        · rw [hji, ← Bool.not_eq_true, zan_1]
          intro ⟨c, hc, w⟩
          rw [q c hc] at w
          cases w
        · exact hI j (by omega))
    · rw [if_neg hv0]
      refine zS_r (zfs_at (f := fun s => zan 8 (zCf W t s)) hi ?_ hI).symm
      cases hq : zan 8 (zCf W t i) with
      | true => rfl
      | false =>
        refine absurd (hz.mpr (fun c hc => ?_)) hv0
        cases hw : zCf W t i c with
        | false => rfl
        | true =>
          have := zan_1.mpr ⟨c, hc, hw⟩
          rw [hq] at this
          cases this
  · intro m _ hI
    show zS (lX_fewestToGather_c2 (t : Int) M (m + 1) ((8 : Nat) : Int)) _
    rw [lX_fewestToGather_c2]
    refine zS_ie (by omega) ?_
    exact zS_r (zfs_no (f := fun s => zan 8 (zCf W t s)) hI).symm
end ZNT
