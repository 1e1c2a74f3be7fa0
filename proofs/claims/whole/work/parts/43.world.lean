/-! The world's row: what it says, and what holds of it. -/
/-- a set of the first few, as a number in memory -/
def zset (n : Nat) (z : Int) (f : Nat → Bool) : Prop := ∃ A : Nat, z = (A : Int) ∧ A < 2 ^ n ∧ ∀ k, k < n → A.testBit k = f k
theorem zset_bit {n : Nat} {z : Int} {f : Nat → Bool} (h : zset n z f) (hn : n ≤ 31) {k : Nat} (hk : k < n) : zand (zshr z (k : Int)) 1 = if f k = true then 1 else 0 := by
  obtain ⟨A, rfl, hA, hb⟩ := h
  have hp : 2 ^ n ≤ 2 ^ 31 := Nat.pow_le_pow_right (by decide) hn
  rw [zbit_nat (by omega) (by omega), hb k hk]
theorem zset_0 {n : Nat} : zset n 0 (fun _ => false) := ⟨0, rfl, Nat.two_pow_pos n, fun k _ => Nat.zero_testBit k⟩
theorem zset_cg {n : Nat} {z : Int} {f g : Nat → Bool} (h : zset n z f) (e : ∀ k, k < n → f k = g k) : zset n z g := by
  obtain ⟨A, h1, h2, h3⟩ := h
  exact ⟨A, h1, h2, fun k hk => (h3 k hk).trans (e k hk)⟩
theorem zset_eq {n : Nat} {z y : Int} {f g : Nat → Bool} (h : zset n z f) (k : zset n y g) (e : ∀ k, k < n → f k = g k) : z = y := by
  obtain ⟨A, h1, h2, h3⟩ := h
  obtain ⟨B, k1, k2, k3⟩ := k
  have hAB : A = B := Nat.eq_of_testBit_eq (fun i => by
    by_cases hi : i < n
    · rw [h3 i hi, k3 i hi, e i hi]
    · have hp : 2 ^ n ≤ 2 ^ i := Nat.pow_le_pow_right (by decide) (by omega)
      rw [Nat.testBit_lt_two_pow (by omega), Nat.testBit_lt_two_pow (by omega)])
  rw [h1, k1, hAB]
theorem zset_zst {n m : Nat} {f : Nat → Bool} (hn : n ≤ 30) (hm : n ≤ m) : zset m (zst n f) (fun k => decide (k < n) && f k) := by
  have h1 := zsn_lt (f := f) n
  have hp : 2 ^ n ≤ 2 ^ m := Nat.pow_le_pow_right (by decide) hm
  exact ⟨zsn n f, zst_nat n hn, by omega, fun k _ => zsn_bit n⟩
theorem zset_up {n : Nat} {z : Int} {f : Nat → Bool} {i : Nat} (h : zset n z f) (hi : i < n) (hn : n ≤ 30) : zset n (zor z (zshl 1 (i : Int))) (fun k => decide (k = i) || f k) := by
  obtain ⟨A, rfl, hA, hb⟩ := h
  have hp : 2 ^ n ≤ 2 ^ 30 := Nat.pow_le_pow_right (by decide) hn
  refine ⟨A ||| (1 <<< i), zor_bit1 (by omega) (by omega), zor_bit1_lt hA hi, fun k hk => ?_⟩
  rw [zor_bit1_t, hb k hk, Bool.or_comm]
theorem zset_down {n : Nat} {z : Int} {f : Nat → Bool} {i : Nat} (h : zset n z f) (hi : i < n) (hn : n ≤ 30) : zset n (zand z (zxor (zshl 1 (i : Int)) (-1))) (fun k => !(decide (k = i)) && f k) := by
  obtain ⟨A, rfl, hA, hb⟩ := h
  have hp : 2 ^ n ≤ 2 ^ 30 := Nat.pow_le_pow_right (by decide) hn
  have h1 : (1 : Nat) <<< i = 2 ^ i := Nat.one_shiftLeft i
  have hpi : (2 : Nat) ^ i ≤ 2 ^ 29 := Nat.pow_le_pow_right (by decide) (by omega)
  have h29 : (2 : Nat) ^ 29 = 536870912 := by decide
  have e3 : zshl ((1 : Nat) : Int) (i : Int) = ((1 <<< i : Nat) : Int) := zshl_nat (by omega) (by omega)
  have e4 : ((1 : Nat) : Int) = 1 := rfl
  rw [e4] at e3
  rw [e3, zandn_nat (by omega)]
  refine ⟨_, rfl, Nat.lt_of_le_of_lt Nat.and_le_left hA, fun k hk => ?_⟩
  rw [Nat.testBit_and, hb k hk, znot_bit (by omega), Nat.one_shiftLeft, Nat.testBit_two_pow]
  by_cases hki : k = i
  · show (f k && !decide (i = k)) = (!decide (k = i) && f k)
    rw [decide_eq_true hki, decide_eq_true hki.symm]
    simp
  · show (f k && !decide (i = k)) = (!decide (k = i) && f k)
    rw [decide_eq_false hki, decide_eq_false (fun e => hki e.symm)]
    simp
/-- some of the first few -/
def zan (k : Nat) (f : Nat → Bool) : Bool := zfo (fun i a => a || f i) k false
theorem zan_1 {f : Nat → Bool} : ∀ {k : Nat}, zan k f = true ↔ ∃ i, i < k ∧ f i = true
  | 0 => ⟨fun h => (Bool.false_ne_true h).elim, fun ⟨i, hi, _⟩ => by omega⟩
  | k + 1 => by
    have ih := zan_1 (f := f) (k := k)
    have e : zan (k + 1) f = (zan k f || f k) := rfl
    rw [e, Bool.or_eq_true, ih]
    constructor
    · intro h
      rcases h with ⟨i, hi, h⟩ | h
      · exact ⟨i, by omega, h⟩
      · exact ⟨k, by omega, h⟩
    · intro ⟨i, hi, h⟩
      by_cases hk : i = k
      · rw [hk] at h; exact Or.inr h
      · exact Or.inl ⟨i, by omega, h⟩
def wfd (W : Nat → Int) (x : Int) : Int := zsum (W 5).toNat (fun k => if W (34 + 2 * k) = x then W (34 + 2 * k + 1) else 0)
/-- one act -/
def wclS (W : Nat → Int) (i : Nat) (f : Nat → Bool) : Nat → Bool := if W (108 + i) < 10000 then (fun k => if k = (W (108 + i)).toNat / 2 then decide (W (108 + i) % 2 = 1) else f k) else f
def wcl (W : Nat → Int) (n : Nat) : Nat → Bool := zfo (wclS W) n (fun _ => false)
def wsnS (W : Nat → Int) (i : Nat) (f : Nat → Nat → Int) : Nat → Nat → Int := if W (108 + i) < 10000 then f else (fun p n => if p + 1 = (W (108 + i)).toNat / 10000 ∧ n = (W (108 + i)).toNat % 100 then W (108 + i) / 100 % 100 else f p n)
def wsn (W : Nat → Int) (n : Nat) : Nat → Nat → Int := zfo (wsnS W) n (fun _ _ => -1)
def wcls (W : Nat → Int) : Nat → Bool := wcl W (W 8).toNat
def wsent (W : Nat → Int) : Nat → Nat → Int := wsn W (W 8).toNat
def wam (W : Nat → Int) (st : Nat → Bool) (p n : Nat) : Int := if st p = true then -1 else if wsent W p n ≠ -1 then wsent W p n else if W (42 + 12 * p + 3) = 0 then -1 else W (42 + 12 * p + 4 + n % (W (42 + 12 * p + 3)).toNat)
def wjnN (W : Nat → Int) (cl : Nat → Bool) (n : Nat) (x y : Int) : Bool := zan n (fun k => !(cl k) && ((decide (W (10 + 2 * k) = x) && decide (W (10 + 2 * k + 1) = y)) || (decide (W (10 + 2 * k) = y) && decide (W (10 + 2 * k + 1) = x))))
def wjn (W : Nat → Int) (cl : Nat → Bool) (x y : Int) : Bool := wjnN W cl (W 4).toNat x y
theorem wjnN_s {W : Nat → Int} {cl : Nat → Bool} {n : Nat} {x y : Int} : wjnN W cl (n + 1) x y = (wjnN W cl n x y || (!(cl n) && ((decide (W (10 + 2 * n) = x) && decide (W (10 + 2 * n + 1) = y)) || (decide (W (10 + 2 * n) = y) && decide (W (10 + 2 * n + 1) = x))))) := rfl
theorem wjn_1 {W : Nat → Int} {cl : Nat → Bool} {x y : Int} : wjn W cl x y = true ↔ ∃ k, k < (W 4).toNat ∧ cl k = false ∧ ((W (10 + 2 * k) = x ∧ W (10 + 2 * k + 1) = y) ∨ (W (10 + 2 * k) = y ∧ W (10 + 2 * k + 1) = x)) := by
  unfold wjn wjnN
  rw [zan_1]
  constructor
  · intro ⟨k, hk, h⟩
    simp only [Bool.and_eq_true, Bool.or_eq_true, decide_eq_true_eq, Bool.not_eq_true'] at h
    exact ⟨k, hk, h⟩
  · intro ⟨k, hk, h⟩
    refine ⟨k, hk, ?_⟩
    simp only [Bool.and_eq_true, Bool.or_eq_true, decide_eq_true_eq, Bool.not_eq_true']
    exact h
/-- a told row of the class says what the world's row says -/
def zTold (t : Nat) (M : Nat → Nat → Int) (W : Nat → Int) : Prop := M t 0 = W 0 ∧ M t 1 = W 1 ∧ M t 2 = W 2 ∧ M t 3 = W 3 ∧ M t 4 = W 9 ∧ M t 5 = W 4 ∧ M t 6 = W 5 ∧ M t 7 = W 6 ∧ M t 8 = W 7 ∧ (∀ k, k < (W 4).toNat → M (t + 1) k = W (10 + 2 * k) ∧ M (t + 2) k = W (10 + 2 * k + 1)) ∧ (∀ x : Nat, x < 8 → M (t + 3) x = wfd W (x : Int)) ∧ (∀ p, p < (W 6).toNat → M (t + 4) p = W (42 + 12 * p) ∧ M (t + 5) p = W (42 + 12 * p + 1) ∧ M (t + 6) p = W (42 + 12 * p + 2) ∧ M (t + 7) p = W (42 + 12 * p + 3) ∧ ∀ i, i < (W (42 + 12 * p + 3)).toNat → M (t + 8) (8 * p + i) = W (42 + 12 * p + 4 + i)) ∧ (∀ k, k < (W 7).toNat → M (t + 9) k = W (102 + k))
def zAct (a : Nat) (M : Nat → Nat → Int) (W : Nat → Int) (i : Nat) : Prop := (M (a + 1) i = 0 ∧ ∃ p c n : Nat, p < (W 6).toNat ∧ c < (W 0).toNat ∧ n < (W 1).toNat ∧ M (a + 2) i = (p : Int) ∧ M (a + 3) i = (c : Int) ∧ M (a + 4) i = (n : Int) ∧ W (108 + i) = ((10000 * (p + 1) + 100 * c + n : Nat) : Int)) ∨ (M (a + 1) i = 1 ∧ ∃ k o : Nat, k < (W 4).toNat ∧ o < 2 ∧ M (a + 2) i = (k : Int) ∧ M (a + 3) i = (o : Int) ∧ W (108 + i) = ((2 * k + o : Nat) : Int))
def zActs (a : Nat) (M : Nat → Nat → Int) (W : Nat → Int) : Prop := M a 0 = W 8 ∧ zset 12 (M a 1) (wcls W) ∧ (∀ i, i < (W 8).toNat → zAct a M W i) ∧ (∀ p n, p < 5 → n < 20 → M (a + 5) (5 * n + p) = wsent W p n)
def wact (W : Nat → Int) (a : Int) : Prop := (∃ p c n : Nat, p < (W 6).toNat ∧ c < (W 0).toNat ∧ n < (W 1).toNat ∧ a = ((10000 * (p + 1) + 100 * c + n : Nat) : Int)) ∨ (∃ k o : Nat, k < (W 4).toNat ∧ o < 2 ∧ a = ((2 * k + o : Nat) : Int))
def wOk (W : Nat → Int) : Prop := (0 ≤ W 0 ∧ W 0 ≤ 8) ∧ (0 ≤ W 1 ∧ W 1 ≤ 20) ∧ (0 ≤ W 2 ∧ W 2 ≤ 3) ∧ (0 ≤ W 3 ∧ W 3 ≤ 10) ∧ (0 ≤ W 4 ∧ W 4 ≤ 12) ∧ (0 ≤ W 5 ∧ W 5 ≤ 4) ∧ (0 ≤ W 6 ∧ W 6 ≤ 5) ∧ (0 ≤ W 7 ∧ W 7 ≤ 6) ∧ (0 ≤ W 8 ∧ W 8 ≤ 30) ∧ (0 ≤ W 9 ∧ W 9 ≤ 1000) ∧
  (W 9 = 0 → W 0 = 0 ∧ W 1 = 0 ∧ W 4 = 0 ∧ W 6 = 0 ∧ W 7 = 0 ∧ W 8 = 0) ∧ (0 < W 9 → 1 ≤ W 0 ∧ 1 ≤ W 1) ∧
  (∀ k, k < (W 4).toNat → 0 ≤ W (10 + 2 * k) ∧ W (10 + 2 * k) < W 0 ∧ 0 ≤ W (10 + 2 * k + 1) ∧ W (10 + 2 * k + 1) < W 0 ∧ W (10 + 2 * k) ≠ W (10 + 2 * k + 1)) ∧
  (∀ k, k < (W 5).toNat → 0 ≤ W (34 + 2 * k) ∧ W (34 + 2 * k) < W 0 ∧ 1 ≤ W (34 + 2 * k + 1) ∧ W (34 + 2 * k + 1) ≤ 20) ∧
  (∀ p, p < (W 6).toNat → 0 ≤ W (42 + 12 * p) ∧ W (42 + 12 * p) < W 0 ∧ 0 ≤ W (42 + 12 * p + 1) ∧ W (42 + 12 * p + 1) ≤ 40 ∧ 0 ≤ W (42 + 12 * p + 2) ∧ W (42 + 12 * p + 2) ≤ 59 ∧ 0 ≤ W (42 + 12 * p + 3) ∧ W (42 + 12 * p + 3) ≤ 8 ∧ ∀ i, i < (W (42 + 12 * p + 3)).toNat → 0 ≤ W (42 + 12 * p + 4 + i) ∧ W (42 + 12 * p + 4 + i) < W 0) ∧
  (∀ k, k < (W 7).toNat → ∃ t : Nat, W (102 + k) = (t : Int) ∧ t < 2 ^ (W 6).toNat ∧ (zpc 12 t = 2 ∨ zpc 12 t = 3)) ∧
  (∀ i, i < (W 8).toNat → wact W (W (108 + i)))
theorem wact_b {W : Nat → Int} {a : Int} (hw : wOk W) (h : wact W a) : 0 ≤ a ∧ a < 60000 ∧ (a < 10000 → a.toNat / 2 < (W 4).toNat) ∧ (10000 ≤ a → a.toNat / 10000 - 1 < (W 6).toNat ∧ 1 ≤ a.toNat / 10000 ∧ a.toNat % 100 < (W 1).toNat ∧ 0 ≤ a / 100 % 100 ∧ a / 100 % 100 < W 0) := by
  obtain ⟨h0, h1, _, _, h4, _, h6, _⟩ := hw
  rcases h with ⟨p, c, n, hp, hc, hn, rfl⟩ | ⟨k, o, hk, ho, rfl⟩
  · have hp5 : p < 5 := by omega
    have hc8 : c < 8 := by omega
    have hn20 : n < 20 := by omega
    refine ⟨by omega, by omega, fun q => by omega, fun _ => ⟨by omega, by omega, by omega, by omega, by omega⟩⟩
  · refine ⟨by omega, by omega, fun _ => by omega, fun q => by omega⟩
theorem wsn_b {W : Nat → Int} (hw : wOk W) : ∀ {i : Nat}, i ≤ (W 8).toNat → ∀ p n, wsn W i p n = -1 ∨ (0 ≤ wsn W i p n ∧ wsn W i p n < W 0)
  | 0, _, _, _ => Or.inl rfl
  | i + 1, hi, p, n => by
    have ih := wsn_b hw (i := i) (by omega) p n
    have hact := wact_b hw (hw.2.2.2.2.2.2.2.2.2.2.2.2.2.2.2.2 i (by omega))
    have e : wsn W (i + 1) = wsnS W i (wsn W i) := rfl
    rw [e]
    unfold wsnS
    by_cases hc : W (108 + i) < 10000
    · rw [if_pos hc]; exact ih
    · rw [if_neg hc]
      have q := hact.2.2.2 (by omega)
      show (if p + 1 = (W (108 + i)).toNat / 10000 ∧ n = (W (108 + i)).toNat % 100 then W (108 + i) / 100 % 100 else wsn W i p n) = -1 ∨ (0 ≤ (if p + 1 = (W (108 + i)).toNat / 10000 ∧ n = (W (108 + i)).toNat % 100 then W (108 + i) / 100 % 100 else wsn W i p n) ∧ (if p + 1 = (W (108 + i)).toNat / 10000 ∧ n = (W (108 + i)).toNat % 100 then W (108 + i) / 100 % 100 else wsn W i p n) < W 0)
      by_cases hc2 : p + 1 = (W (108 + i)).toNat / 10000 ∧ n = (W (108 + i)).toNat % 100
      · rw [if_pos hc2]; exact Or.inr q.2.2.2
      · rw [if_neg hc2]; exact ih
theorem wam_b {W : Nat → Int} {st : Nat → Bool} {p n : Nat} (hw : wOk W) (hp : p < (W 6).toNat) : -1 ≤ wam W st p n ∧ wam W st p n < 8 := by
  have h0 := hw.1
  have hs := wsn_b hw (Nat.le_refl _) p n
  have hq := hw.2.2.2.2.2.2.2.2.2.2.2.2.2.2.1 p hp
  unfold wam
  by_cases h1 : st p = true
  · rw [if_pos h1]; omega
  · rw [if_neg h1]
    by_cases h2 : wsent W p n ≠ -1
    · rw [if_pos h2]
      unfold wsent at h2 ⊢
      omega
    · rw [if_neg h2]
      by_cases h3 : W (42 + 12 * p + 3) = 0
      · rw [if_pos h3]; omega
      · rw [if_neg h3]
        have h4 := hq.2.2.2.2.2.2.2.2 (n % (W (42 + 12 * p + 3)).toNat) (Nat.mod_lt _ (by omega))
        omega
theorem wfd_b {W : Nat → Int} {x : Int} (hw : wOk W) : 0 ≤ wfd W x ∧ wfd W x ≤ 80 := by
  have h5 := hw.2.2.2.2.2.1
  have h := zsum_le (n := (W 5).toNat) (f := fun k => if W (34 + 2 * k) = x then W (34 + 2 * k + 1) else 0) (B := 20) (fun k hk => by
    have q := hw.2.2.2.2.2.2.2.2.2.2.2.2.2.1 k hk
    show 0 ≤ (if W (34 + 2 * k) = x then W (34 + 2 * k + 1) else 0) ∧ (if W (34 + 2 * k) = x then W (34 + 2 * k + 1) else 0) ≤ 20
    split <;> omega) (by decide) _ (Nat.le_refl _)
  unfold wfd
  omega
/-- a day of the world, with something told otherwise -/
def zeW (W : Nat → Int) (H I : Nat → Int) (F : Int → Int) (st cl rn : Nat → Bool) (L : Int) : zE := ((W 6).toNat, (W 7).toNat, H, I, F, wam W st, wjn W cl, rn, L, fun k => (W (102 + k)).toNat)
theorem zeW_ok {W H I : Nat → Int} {F : Int → Int} {st cl rn : Nat → Bool} {L : Int} (hw : wOk W) (hH : ∀ p, p < (W 6).toNat → 0 ≤ H p ∧ H p < 8) (hI : ∀ p, p < (W 6).toNat → 0 ≤ I p ∧ I p ≤ 60) (hF : ∀ x, 0 ≤ x → x < 8 → 0 ≤ F x ∧ F x ≤ 1000) : zeOk (zeW W H I F st cl rn L) := by
  have h0 := hw
  obtain ⟨_, _, _, _, _, _, h6, h7, _, _, _, _, hst, _, _, hcn, _⟩ := h0
  refine ⟨show (W 6).toNat ≤ 5 by omega, show (W 7).toNat ≤ 6 by omega, fun p hp => ⟨(hH p hp).1, (hH p hp).2, hI p hp⟩, hF, fun p n hp _ => wam_b hw hp, fun k hk => ?_, fun x y hj => ?_⟩
  · obtain ⟨t, e, hlt, h2⟩ := hcn k hk
    show (W (102 + k)).toNat < 2 ^ (W 6).toNat ∧ (W (102 + k)).toNat ≠ 0
    rw [e, Int.toNat_natCast]
    refine ⟨hlt, fun h => ?_⟩
    rw [h] at h2
    have e0 : zpc 12 0 = 0 := by decide
    omega
  · obtain ⟨k, hk, _, h⟩ := wjn_1.mp hj
    have q := hst k hk
    rcases h with ⟨a, b⟩ | ⟨a, b⟩ <;> omega
theorem zdiv32_nat {a b : Nat} (ha : a < 2147483648) (hb : b < 2147483648) : Int32.ofInt (a : Int) / Int32.ofInt (b : Int) = Int32.ofInt ((a / b : Nat) : Int) := by
  have hle : a / b ≤ a := Nat.div_le_self a b
  rw [← Int32.toInt_inj, zN_toInt (show a / b < 2147483648 by omega), Int32.toInt_div, zN_toInt ha, zN_toInt hb]
  have e := zN_toInt (show a / b < 2147483648 by omega)
  rw [Int32.toInt_ofInt] at e
  exact e
theorem zdiv_nat {a b : Nat} (ha : a < 2147483648) (hb : b < 2147483648) : zdiv (a : Int) (b : Int) = ((a / b : Nat) : Int) := by
  have hle : a / b ≤ a := Nat.div_le_self a b
  unfold zdiv zbi
  show (Int32.ofInt (a : Int) / Int32.ofInt (b : Int)).toInt = _
  rw [zdiv32_nat ha hb, zN_toInt (by omega)]
theorem zrem_nat {a b : Nat} (ha : a < 2147483648) (hb : b < 2147483648) : zrem (a : Int) (b : Int) = ((a % b : Nat) : Int) := by
  have hm : a % b ≤ a := Nat.mod_le a b
  unfold zrem zbi
  show (Int32.ofInt (a : Int) - Int32.ofInt (a : Int) / Int32.ofInt (b : Int) * Int32.ofInt (b : Int)).toInt = _
  rw [zdiv32_nat ha hb, ← Int32.ofInt_mul, ← Int32.ofInt_sub]
  have e : (a : Int) - ((a / b : Nat) : Int) * (b : Int) = ((a % b : Nat) : Int) := by
    have h := Nat.div_add_mod a b
    have h2 : (((b * (a / b) + a % b : Nat)) : Int) = (a : Int) := by rw [h]
    rw [Int.natCast_add, Int.natCast_mul, Int.mul_comm] at h2
    omega
  rw [e, zN_toInt (by omega)]
