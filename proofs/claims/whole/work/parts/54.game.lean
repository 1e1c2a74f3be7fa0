/-! Two who stay or walk; days drawn. -/
theorem zset_or {n : Nat} {z y : Int} {f g : Nat → Bool} (h : zset n z f) (k : zset n y g) (hn : n ≤ 30) : zset n (zor z y) (fun i => f i || g i) := by
  obtain ⟨A, rfl, hA, hb⟩ := h
  obtain ⟨B, rfl, hB, kb⟩ := k
  have hp : 2 ^ n ≤ 2 ^ 30 := Nat.pow_le_pow_right (by decide) hn
  refine ⟨A ||| B, zor_nat (by omega) (by omega), Nat.or_lt_two_pow hA hB, fun i hi => ?_⟩
  rw [Nat.testBit_or, hb i hi, kb i hi]
theorem zshl_0 {i : Nat} (hi : i < 32) : zshl 0 (i : Int) = 0 := by
  have e3 : zshl ((0 : Nat) : Int) (i : Int) = ((0 <<< i : Nat) : Int) := zshl_nat hi (by rw [Nat.zero_shiftLeft]; omega)
  rw [Nat.zero_shiftLeft] at e3
  exact e3
theorem zset_01 {n a : Nat} {x : Int} (hx : x = 0 ∨ x = 1) (ha : a < n) (hn : n ≤ 30) : zset n (zshl x (a : Int)) (fun k => decide (k = a) && decide (x = 1)) := by
  rcases hx with rfl | rfl
  · rw [zshl_0 (by omega)]
    exact zset_cg zset_0 (fun k _ => by simp)
  · rw [zshl1 (by omega)]
    refine ⟨2 ^ a, rfl, Nat.pow_lt_pow_right (by decide) ha, fun k _ => ?_⟩
    rw [Nat.testBit_two_pow]
    by_cases h : k = a
    · show decide (a = k) = (decide (k = a) && decide ((1 : Int) = 1))
      rw [decide_eq_true h, decide_eq_true h.symm]; rfl
    · show decide (a = k) = (decide (k = a) && decide ((1 : Int) = 1))
      rw [decide_eq_false h, decide_eq_false (fun e => h e.symm)]; rfl
def wst (a : Nat) (x : Int) (b : Nat) (y : Int) : Nat → Bool := fun k => (decide (k = a) && decide (x = 1)) || (decide (k = b) && decide (y = 1))
theorem wst_comm {a b : Nat} {x y : Int} : wst a x b y = wst b y a x := by
  funext k
  exact Bool.or_comm _ _
section ZGM
variable {W H I : Nat → Int} {M M1 : Nat → Nat → Int} {L dug : Int} {st cl rn : Nat → Bool} {α : Type} {Q : α → Prop}
theorem lD_streetsGone_eq {d T p : Nat} {E : zE} (hd : zis 1 d = true) (h3 : M 3 1 = (T : Int)) (hT : T ≤ 20) (h : zcT d T E M) (hp : p < zeB E) (hp5 : p < 5) : lD_streetsGone d (p : Int) M = some (zdGs E T p) := by
  refine zS_eq ?_
  unfold lD_streetsGone
  rw [if_pos hd]
  refine loopI (fun m i (a : Int) => lD_streetsGone_c4 d (p : Int) M m a (i : Int)) (fun i a => a = zdGs E i p) (a0 := 0) 0 T (by omega) ?_ ?_ ?_ zN (zN_gt (by omega))
  · rfl
  · intro m i a _ hi ha k
    have hb := zdGs_b (E := E) (n := i) (p := p)
    have e5 : w32 (((5 * i + p : Nat) : Int) + 5) = ((5 * (i + 1) + p : Nat) : Int) := by simp (disch := omega) only [w32_eq]; omega
    show zS (lD_streetsGone_c4 d (p : Int) M (m + 1) a (i : Int)) _
    rw [lD_streetsGone_c4]
    refine zS_it (by omega) ?_
    rw [w5' (by omega) (by omega), e5, w1 (by omega)]
    refine zS_b (rdI_n (sh_D5 hd) (by omega)) ?_
    refine zS_b (rdI_n (sh_D5 hd) (by omega)) ?_
    rw [((h i (by omega)).1 p hp).1, ((h (i + 1) (by omega)).1 p hp).1]
    have e : zdGs E (i + 1) p = zdGs E i p + (if zdP (zdD E i) p = zdP (zdD E (i + 1)) p then 0 else 1) := rfl
    by_cases hz : zdP (zdD E i) p = zdP (zdD E (i + 1)) p
    · rw [if_pos hz]
      refine k _ ?_
      rw [e, if_pos hz, ha, Int.add_zero]
    · rw [if_neg hz]
      refine k _ ?_
      rw [e, if_neg hz, ha, w32_eq (by omega) (by omega)]
  · intro m a ha
    show zS (lD_streetsGone_c4 d (p : Int) M (m + 1) a (T : Int)) _
    rw [lD_streetsGone_c4]
    refine zS_ie (by omega) ?_
    exact zS_r ha
def zGa (W : Nat → Int) (p : Nat) (st : Nat → Bool) : Int := 5 * zdDe (zEd W (whm W) (wik W) (-1) st (wcls W) zno (W 2)) (zdD (zEd W (whm W) (wik W) (-1) st (wcls W) zno (W 2)) (W 1).toNat) p - zdGs (zEd W (whm W) (wik W) (-1) st (wcls W) zno (W 2)) (W 1).toNat p
theorem xGain {a b : Nat} {x y : Int} (h : zInv W M) (ha : a < (W 6).toNat) (hb : b < (W 6).toNat) (hx : x = 0 ∨ x = 1) (hy : y = 0 ∨ y = 1) : zS (lX_gains (a : Int) (b : Int) x y M) (fun r => r.1 = zGa W a (wst a x b y) ∧ zKeep M r.2) := by
  obtain ⟨b1, b2, b3, b4, b5, b6, b7, b8⟩ := xB h
  obtain ⟨u0, u1, _, _, u4, _, u6, u7, _⟩ := h.2.1
  unfold lX_gains
  refine xTr h (fun M1 k1 i1 => ?_)
  have i1' := i1
  obtain ⟨_, _, _, _, i8, i9, i10, i11, iHI⟩ := i1
  refine zS_b rfl ?_
  refine xRun (zKeep_37 k1 (by omega)) (zcI_cg i1' (H' := whm W) (I' := wik W) (L' := W 2) (dug' := -1) (st' := wst a x b y) (fun e he => zup_c (by omega)) (by rw [zup_i (by omega)]; exact i8) (by rw [zup_i (by omega)]; exact i9) (by rw [zup_s]; exact zset_or (zset_01 hx (by omega) (by omega)) (zset_01 hy (by omega) (by omega)) (by omega)) (by rw [zup_i (by omega)]; exact i11) (fun p hp => by rw [zup_c (by omega), zup_c (by omega)]; exact iHI p hp)) zset_no (fun r r1 r2 r3 _ => ?_)
  have h' := zInv_keep h r2
  have e31 : r.2 3 1 = ((W 1).toNat : Int) := by rw [zKeep_c r2 3 (by omega)]; exact b3
  rw [e31]
  refine zS_b (rdI_n sh_44 (by omega)) ?_
  refine zS_b (lT_contractsOf_eq h' (by omega)) ?_
  have hD := (r3 (W 1).toNat (Nat.le_refl _)).2
  have hD : r.2 44 (W 1).toNat = zst (W 7).toNat (fun k => decide (zdA (zdD (zEd W (whm W) (wik W) (-1) (wst a x b y) (wcls W) zno (W 2)) (W 1).toNat) k ≠ -1)) := hD
  rw [hD]
  refine zS_b (bits_and b6) ?_
  refine zS_b (lD_streetsGone_eq zis_1_37 e31 b4 r3 ha (by omega)) ?_
  have q1 := zdDe_b (E := zEd W (whm W) (wik W) (-1) (wst a x b y) (wcls W) zno (W 2)) (s := zdD (zEd W (whm W) (wik W) (-1) (wst a x b y) (wcls W) zno (W 2)) (W 1).toNat) (p := a)
  have q2 := zdGs_b (E := zEd W (whm W) (wik W) (-1) (wst a x b y) (wcls W) zno (W 2)) (n := (W 1).toNat) (p := a)
  have q3 : zeC (zEd W (whm W) (wik W) (-1) (wst a x b y) (wcls W) zno (W 2)) = (W 7).toNat := rfl
  refine zS_r ⟨?_, r2⟩
  show w32 (w32 (5 * zdDe (zEd W (whm W) (wik W) (-1) (wst a x b y) (wcls W) zno (W 2)) (zdD (zEd W (whm W) (wik W) (-1) (wst a x b y) (wcls W) zno (W 2)) (W 1).toNat) a) - _) = _
  rw [w32_eq (x := 5 * _) (by omega) (by omega), w32_eq (by omega) (by omega)]
  rfl
theorem zmS_f {i : Nat} {v : Int} (hS : zmS M W H I (wfdg W dug) st cl rn L) {st' rn' : Nat → Bool} (hi : (i = 18 ∧ zset 5 v st' ∧ rn' = rn) ∨ (i = 17 ∧ zset 20 v rn' ∧ st' = st)) : zmS (zup M 106 i v) W H I (wfdg W dug) st' cl rn' L := by
  obtain ⟨q1, q2, q3, q4, q5, q6, q7, q8, q9⟩ := hS
  rcases hi with ⟨rfl, hv, rfl⟩ | ⟨rfl, hv, rfl⟩
  · exact ⟨by rw [zup_c (by omega)]; exact q1, q2, fun p hp => by rw [zup_c (by omega), zup_c (by omega)]; exact q3 p hp, fun y hy => by rw [zup_c (by omega)]; exact q4 y hy, fun p n hp hn => by rw [zup_c (by omega)]; exact q5 p n hp hn, by rw [zup_i (by omega)]; exact q6, by rw [zup_i (by omega)]; exact q7, by rw [zup_i (by omega)]; exact q8, by rw [zup_s]; exact hv⟩
  · exact ⟨by rw [zup_c (by omega)]; exact q1, q2, fun p hp => by rw [zup_c (by omega), zup_c (by omega)]; exact q3 p hp, fun y hy => by rw [zup_c (by omega)]; exact q4 y hy, fun p n hp hn => by rw [zup_c (by omega)]; exact q5 p n hp hn, by rw [zup_i (by omega)]; exact q6, by rw [zup_i (by omega)]; exact q7, by rw [zup_s]; exact hv, by rw [zup_i (by omega)]; exact q9⟩
/-- the reference goes all, its memory as told -/
theorem mAll {g : (Nat → Nat → Int) → Option α} (hS : zmS M W H I (wfdg W dug) st cl rn L) (k : ∀ M1, zmg M M1 → zmT (W 1).toNat (zEd W H I dug st cl rn L) M1 → zS (g M1) Q) : zS ((lm_goAll M).bind g) Q := by
  have hE := zm_env (fun x _ _ => wfdg_b hS.2.1) hS
  exact zS_m (lm_goAll_ok hE zmg_r) (fun M1 hM => k M1 hM.1 hM.2)
theorem mP7 (hw : wOk W) {k : Nat} (hk : k < (W 7).toNat) : W (102 + k) = ((W (102 + k)).toNat : Int) := by
  obtain ⟨t, e, _⟩ := hw.2.2.2.2.2.2.2.2.2.2.2.2.2.2.2.1 k hk
  rw [e]
  rfl
theorem mGets {a b : Nat} {x y who : Int} (h : zInv W M) (ha : a < (W 6).toNat) (hb : b < (W 6).toNat) (hx : x = 0 ∨ x = 1) (hy : y = 0 ∨ y = 1) : zS (lm_getsBy (a : Int) (b : Int) x y who M) (fun r => r.1 = zGa W (if who = 0 then a else b) (wst a x b y) ∧ zKeep M r.2) := by
  obtain ⟨u0, u1, _, _, u4, _, u6, u7, _⟩ := h.2.1
  have hw := h.2.1
  unfold lm_getsBy
  refine zS_m (lm_asItIs_ok hw h.1) ?_
  intro M1 hA
  have hS := zAs_S hw h.1 hA
  refine zS_b rfl ?_
  have hS2 : zmS (zup M1 106 18 (zor (zshl x (a : Int)) (zshl y (b : Int)))) W (whm W) (wik W) (wfdg W (-1)) (wst a x b y) (wcls W) zno (W 2) := zmS_f hS (Or.inl ⟨rfl, zset_or (zset_01 hx (by omega) (by omega)) (zset_01 hy (by omega) (by omega)) (by omega), rfl⟩)
  refine mAll hS2 (fun M2 g1 g2 => ?_)
  have hK : zKeep M M2 := zKeep_t (zAs_keep hA) (zKeep_t (zKeep_f (by omega)) (zmg_keep g1))
  have hok : zeOk (zEd W (whm W) (wik W) (-1) (wst a x b y) (wcls W) zno (W 2)) := (zm_env (fun x _ _ => wfdg_b hw) hS2).1
  have hW2 : M2 107 = W := (g1 107 (by omega)).trans hS2.1
  have key : ∀ p : Nat, p < (W 6).toNat → zS (lm_getsBy_c30 (a : Int) (b : Int) x y who (p : Int) M2) (fun r => r.1 = zGa W p (wst a x b y) ∧ zKeep M r.2) := fun p hp => by
    unfold lm_getsBy_c30
    refine zS_b (lm_deedsOf_eq (E := zEd W (whm W) (wik W) (-1) (wst a x b y) (wcls W) zno (W 2)) (by rw [hW2]; show W 7 = ((W 7).toNat : Int); omega) hok g2.2.1 (fun k hk => by rw [hW2]; exact mP7 hw hk) (by omega)) ?_
    refine zS_b (rdI_n sh_121 (by omega)) ?_
    rw [(g2.2.2 p hp).1]
    have q1 := zdDe_b (E := zEd W (whm W) (wik W) (-1) (wst a x b y) (wcls W) zno (W 2)) (s := zdD (zEd W (whm W) (wik W) (-1) (wst a x b y) (wcls W) zno (W 2)) (W 1).toNat) (p := p)
    have q2 := zdGs_b (E := zEd W (whm W) (wik W) (-1) (wst a x b y) (wcls W) zno (W 2)) (n := (W 1).toNat) (p := p)
    have q3 : zeC (zEd W (whm W) (wik W) (-1) (wst a x b y) (wcls W) zno (W 2)) = (W 7).toNat := rfl
    rw [w32_eq (x := 5 * _) (by omega) (by omega), w32_eq (by omega) (by omega)]
    exact zS_r ⟨rfl, hK⟩
  by_cases hwho : who = 0
  · rw [if_pos hwho, if_pos hwho]
    exact key a ha
  · rw [if_neg hwho, if_neg hwho]
    exact key b hb
theorem xTwo {x y : Int} (h : zInv W M) : lX_areTwo x y M = some (zbo ((0 ≤ x ∧ x < W 6) ∧ (0 ≤ y ∧ y < W 6) ∧ x ≠ y)) := by
  refine zS_eq ?_
  unfold lX_areTwo
  refine zX_g (xName h) (fun c1 => zX_g (xName h) (fun c2 => ?_) (fun c2 => (zbo_f (fun q => c2 q.2.1)).symm)) (fun c1 => (zbo_f (fun q => c1 q.1)).symm)
  by_cases hxy : x = y
  · rw [if_pos hxy]
    exact zS_r (zbo_f (fun q => q.2.2 hxy)).symm
  · rw [if_neg hxy]
    exact zS_r (zbo_t ⟨c1, c2, hxy⟩).symm
theorem mTwo {x y : Int} (hw : wOk W) (hW : M 107 = W) : lm_areTwo x y M = some (zbo ((0 ≤ x ∧ x < W 6) ∧ (0 ≤ y ∧ y < W 6) ∧ x ≠ y)) := by
  refine zS_eq ?_
  unfold lm_areTwo
  refine zX_g (mName hw hW) (fun c1 => zX_g (mName hw hW) (fun c2 => ?_) (fun c2 => (zbo_f (fun q => c2 q.2.1)).symm)) (fun c1 => (zbo_f (fun q => c1 q.1)).symm)
  by_cases hxy : x = y
  · rw [if_pos hxy]
    exact zS_r (zbo_f (fun q => q.2.2 hxy)).symm
  · rw [if_neg hxy]
    exact zS_r (zbo_t ⟨c1, c2, hxy⟩).symm
theorem q_gets {a b x y : Int} (h : zInv W M) : zQ2 M (lX_gets a b x y) (lm_gets a b x y) := by
  refine ⟨if ((0 ≤ a ∧ a < W 6) ∧ (0 ≤ b ∧ b < W 6) ∧ a ≠ b) ∧ (0 ≤ x ∧ x ≤ 1) ∧ (0 ≤ y ∧ y ≤ 1) then zGa W a.toNat (wst a.toNat x b.toNat y) else -1000, ?_, fun M' hk => ?_⟩
  · refine zX_g2 (xTwo h) (fun c1 => ?_) (fun c1 => (if_neg (fun q => c1 q.1)).symm)
    obtain ⟨p, rfl⟩ : ∃ p : Nat, a = (p : Int) := ⟨a.toNat, by omega⟩
    obtain ⟨q, rfl⟩ : ∃ p : Nat, b = (p : Int) := ⟨b.toNat, by omega⟩
    have hbad : ¬ ((0 ≤ x ∧ x ≤ 1) ∧ (0 ≤ y ∧ y ≤ 1)) → zS (some ((-1000 : Int), M)) (fun r => r.1 = (if ((0 ≤ (p : Int) ∧ (p : Int) < W 6) ∧ (0 ≤ (q : Int) ∧ (q : Int) < W 6) ∧ (p : Int) ≠ (q : Int)) ∧ (0 ≤ x ∧ x ≤ 1) ∧ (0 ≤ y ∧ y ≤ 1) then zGa W (p : Int).toNat (wst (p : Int).toNat x (q : Int).toNat y) else -1000) ∧ zKeep M r.2) := fun hn => zS_r ⟨(if_neg (fun q => hn q.2)).symm, zKeep_r⟩
    by_cases h1 : x < 0
    · rw [if_pos h1]; exact hbad (by omega)
    · rw [if_neg h1]
      by_cases h2 : 1 < x
      · rw [if_pos h2]; exact hbad (by omega)
      · rw [if_neg h2]
        by_cases h3 : y < 0
        · rw [if_pos h3]; exact hbad (by omega)
        · rw [if_neg h3]
          by_cases h4 : 1 < y
          · rw [if_pos h4]; exact hbad (by omega)
          · rw [if_neg h4, if_pos ⟨c1, by omega, by omega⟩]
            exact zS_m (xGain h (show p < (W 6).toNat by omega) (show q < (W 6).toNat by omega) (by omega) (by omega)) (fun r hr => zS_r hr)
  · have h' := zInv_keep h hk
    refine zM_g (mTwo h'.2.1 h'.1) zKeep_r (fun c1 => ?_) (fun c1 => (if_neg (fun q => c1 q.1)).symm)
    refine zM_g lm_in_eq zKeep_r (fun c2 => ?_) (fun c2 => (if_neg (fun q => c2 q.2.1)).symm)
    refine zM_g lm_in_eq zKeep_r (fun c3 => ?_) (fun c3 => (if_neg (fun q => c3 q.2.2)).symm)
    rw [if_pos ⟨c1, c2, c3⟩]
    obtain ⟨p, rfl⟩ : ∃ p : Nat, a = (p : Int) := ⟨a.toNat, by omega⟩
    obtain ⟨q, rfl⟩ : ∃ p : Nat, b = (p : Int) := ⟨b.toNat, by omega⟩
    exact zS_m (mGets (who := 0) h' (show p < (W 6).toNat by omega) (show q < (W 6).toNat by omega) (by omega) (by omega)) (fun r hr => zS_r hr)
/-- the pair of choices k is at rest -/
def zRe (W : Nat → Int) (a b k : Nat) : Bool := decide (¬ zGa W a (wst a ((k % 2 : Nat) : Int) b ((k / 2 : Nat) : Int)) < zGa W a (wst a ((1 - k % 2 : Nat) : Int) b ((k / 2 : Nat) : Int))) && decide (¬ zGa W b (wst a ((k % 2 : Nat) : Int) b ((k / 2 : Nat) : Int)) < zGa W b (wst a ((k % 2 : Nat) : Int) b ((1 - k / 2 : Nat) : Int)))
theorem q_rests {x y : Int} (h : zInv W M) : zQ2 M (lX_rests x y) (lm_rests x y) := by
  refine ⟨if ((0 ≤ x ∧ x < W 6) ∧ (0 ≤ y ∧ y < W 6) ∧ x ≠ y) then zst 4 (zRe W x.toNat y.toNat) else -2, ?_, fun M' hk => ?_⟩
  · refine zX_g2 (xTwo h) (fun c1 => ?_) (fun c1 => (if_neg c1).symm)
    rw [if_pos c1]
    obtain ⟨a, rfl⟩ : ∃ p : Nat, x = (p : Int) := ⟨x.toNat, by omega⟩
    obtain ⟨b, rfl⟩ : ∃ p : Nat, y = (p : Int) := ⟨y.toNat, by omega⟩
    rw [Int.toNat_natCast, Int.toNat_natCast]
    have ha : a < (W 6).toNat := by omega
    have hb : b < (W 6).toNat := by omega
    refine loopI (fun m i (s : Int × (Nat → Nat → Int)) => lX_rests_c17 (a : Int) (b : Int) m s.1 (i : Int) s.2) (fun i s => s.1 = zst i (zRe W a b) ∧ zKeep M s.2) (a0 := (0, M)) 0 4 (by omega) ⟨rfl, zKeep_r⟩ ?_ ?_ zN (zN_gt (by omega))
    · intro m i s _ hi ⟨hs, hK⟩ k
      obtain ⟨s1, M1⟩ := s
      have hs : s1 = zst i (zRe W a b) := hs
      have ez : zand (i : Int) 1 = ((i % 2 : Nat) : Int) := by
        refine (zand_nat (b := 1) (by omega)).trans ?_
        rw [Nat.and_one_is_mod]
      have er : zshr (i : Int) 1 = ((i / 2 : Nat) : Int) := by
        refine (zshr_nat (k := 1) (by omega) (by omega)).trans ?_
        rw [Nat.shiftRight_eq_div_pow]
      have e1 : w32 (1 - ((i % 2 : Nat) : Int)) = ((1 - i % 2 : Nat) : Int) := by rw [w32_eq (by omega) (by omega)]; omega
      have e2 : w32 (1 - ((i / 2 : Nat) : Int)) = ((1 - i / 2 : Nat) : Int) := by rw [w32_eq (by omega) (by omega)]; omega
      have e : zst (i + 1) (zRe W a b) = if zRe W a b i = true then zor (zst i (zRe W a b)) (zshl 1 (i : Int)) else zst i (zRe W a b) := rfl
      show zS (lX_rests_c17 (a : Int) (b : Int) (m + 1) s1 (i : Int) M1) _
      rw [lX_rests_c17]
      refine zS_it (by omega) ?_
      rw [ez, er, e1]
      refine zS_m (xGain (zInv_keep h hK) ha hb (by omega) (by omega)) (fun r hr => ?_)
      have hK1 := zKeep_t hK hr.2
      refine zS_m (xGain (zInv_keep h hK1) ha hb (by omega) (by omega)) (fun t ht => ?_)
      have hK2 := zKeep_t hK1 ht.2
      rw [hr.1, ht.1]
      unfold lX_rests_c65
      rw [e2, w1 (by omega)]
      by_cases c3 : zGa W a (wst a ((i % 2 : Nat) : Int) b ((i / 2 : Nat) : Int)) < zGa W a (wst a ((1 - i % 2 : Nat) : Int) b ((i / 2 : Nat) : Int))
      · rw [if_pos c3, if_pos rfl]
        refine k (_, _) ⟨?_, hK2⟩
        rw [e, if_neg]
        · exact hs
        · unfold zRe
          rw [decide_eq_false (show ¬ ¬ _ from fun q => q c3)]
          simp
      · rw [if_neg c3, if_neg (by decide)]
        refine zS_m (xGain (zInv_keep h hK2) hb ha (by omega) (by omega)) (fun r hr => ?_)
        have hK3 := zKeep_t hK2 hr.2
        refine zS_m (xGain (zInv_keep h hK3) hb ha (by omega) (by omega)) (fun t ht => ?_)
        have hK4 := zKeep_t hK3 ht.2
        rw [hr.1, ht.1, wst_comm (a := b), wst_comm (a := b)]
        by_cases c4 : zGa W b (wst a ((i % 2 : Nat) : Int) b ((i / 2 : Nat) : Int)) < zGa W b (wst a ((i % 2 : Nat) : Int) b ((1 - i / 2 : Nat) : Int))
        · rw [if_pos c4]
          refine k (_, _) ⟨?_, hK4⟩
          rw [e, if_neg]
          · exact hs
          · unfold zRe
            rw [decide_eq_false (show ¬ ¬ (zGa W b _ < _) from fun q => q c4)]
            simp
        · rw [if_neg c4]
          refine k (_, _) ⟨?_, hK4⟩
          rw [e, if_pos]
          · exact congrArg (fun z => zor z _) hs
          · unfold zRe
            rw [decide_eq_true c3, decide_eq_true c4]
            rfl
    · intro m s ⟨hs, hK⟩
      show zS (lX_rests_c17 (a : Int) (b : Int) (m + 1) s.1 ((4 : Nat) : Int) s.2) _
      rw [lX_rests_c17]
      refine zS_ie (by omega) ?_
      exact zS_r ⟨hs, hK⟩
  · have h' := zInv_keep h hk
    refine zM_g (mTwo h'.2.1 h'.1) zKeep_r (fun c1 => ?_) (fun c1 => (if_neg c1).symm)
    rw [if_pos c1]
    obtain ⟨a, rfl⟩ : ∃ p : Nat, x = (p : Int) := ⟨x.toNat, by omega⟩
    obtain ⟨b, rfl⟩ : ∃ p : Nat, y = (p : Int) := ⟨y.toNat, by omega⟩
    rw [Int.toNat_natCast, Int.toNat_natCast]
    have ha : a < (W 6).toNat := by omega
    have hb : b < (W 6).toNat := by omega
    refine loopI (fun m i (s : Int × (Nat → Nat → Int)) => lm_rests_c17 (a : Int) (b : Int) m s.1 (i : Int) s.2) (fun i s => s.1 = zst i (zRe W a b) ∧ zKeep M' s.2) (a0 := (0, M')) 0 4 (by omega) ⟨rfl, zKeep_r⟩ ?_ ?_ zN (zN_gt (by omega))
    · intro m i s _ hi ⟨hs, hK⟩ k
      obtain ⟨s1, M1⟩ := s
      have hs : s1 = zst i (zRe W a b) := hs
      have ez : zand (i : Int) 1 = ((i % 2 : Nat) : Int) := by
        refine (zand_nat (b := 1) (by omega)).trans ?_
        rw [Nat.and_one_is_mod]
      have er : zshr (i : Int) 1 = ((i / 2 : Nat) : Int) := by
        refine (zshr_nat (k := 1) (by omega) (by omega)).trans ?_
        rw [Nat.shiftRight_eq_div_pow]
      have e1 : w32 (1 - ((i % 2 : Nat) : Int)) = ((1 - i % 2 : Nat) : Int) := by rw [w32_eq (by omega) (by omega)]; omega
      have e2 : w32 (1 - ((i / 2 : Nat) : Int)) = ((1 - i / 2 : Nat) : Int) := by rw [w32_eq (by omega) (by omega)]; omega
      have e := zor_st (n := i) (f := zRe W a b) (by omega)
      show zS (lm_rests_c17 (a : Int) (b : Int) (m + 1) s1 (i : Int) M1) _
      rw [lm_rests_c17]
      refine zS_it (by omega) ?_
      rw [ez, er, e1, e2]
      refine zS_m (mGets (who := 0) (zInv_keep h' hK) ha hb (by omega) (by omega)) (fun r hr => ?_)
      have hK1 := zKeep_t hK hr.2
      refine zS_m (mGets (who := 0) (zInv_keep h' hK1) ha hb (by omega) (by omega)) (fun t ht => ?_)
      have hK2 := zKeep_t hK1 ht.2
      rw [hr.1, ht.1, if_pos rfl]
      unfold lm_rests_c94
      rw [w1 (by omega)]
      by_cases c3 : zGa W a (wst a ((i % 2 : Nat) : Int) b ((i / 2 : Nat) : Int)) < zGa W a (wst a ((1 - i % 2 : Nat) : Int) b ((i / 2 : Nat) : Int))
      · rw [if_pos c3, if_pos rfl]
        refine k (_, _) ⟨?_, hK2⟩
        rw [← e, if_neg]
        · exact congrArg (fun z => zor z 0) hs
        · unfold zRe
          rw [decide_eq_false (show ¬ ¬ _ from fun q => q c3)]
          simp
      · rw [if_neg c3]
        refine zS_m (mGets (who := 1) (zInv_keep h' hK2) ha hb (by omega) (by omega)) (fun r hr => ?_)
        have hK3 := zKeep_t hK2 hr.2
        refine zS_m (mGets (who := 1) (zInv_keep h' hK3) ha hb (by omega) (by omega)) (fun t ht => ?_)
        have hK4 := zKeep_t hK3 ht.2
        rw [hr.1, ht.1, if_neg (show ¬ ((1 : Int) = 0) by decide)]
        by_cases c4 : zGa W b (wst a ((i % 2 : Nat) : Int) b ((i / 2 : Nat) : Int)) < zGa W b (wst a ((i % 2 : Nat) : Int) b ((1 - i / 2 : Nat) : Int))
        · rw [if_pos c4, if_pos rfl]
          refine k (_, _) ⟨?_, hK4⟩
          rw [← e, if_neg]
          · exact congrArg (fun z => zor z 0) hs
          · unfold zRe
            rw [decide_eq_false (show ¬ ¬ (zGa W b _ < _) from fun q => q c4)]
            simp
        · rw [if_neg c4, if_neg (by decide)]
          refine k (_, _) ⟨?_, hK4⟩
          rw [← e, if_pos]
          · exact congrArg (fun z => zor z _) hs
          · unfold zRe
            rw [decide_eq_true c3, decide_eq_true c4]
            rfl
    · intro m s ⟨hs, hK⟩
      show zS (lm_rests_c17 (a : Int) (b : Int) (m + 1) s.1 ((4 : Nat) : Int) s.2) _
      rw [lm_rests_c17]
      refine zS_ie (by omega) ?_
      exact zS_r ⟨hs, hK⟩
end ZGM
