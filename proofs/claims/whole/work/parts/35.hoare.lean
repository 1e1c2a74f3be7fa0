/-! Rules for what a function over the memory answers. -/
theorem zS_b {α β : Type} {o : Option α} {x : α} {g : α → Option β} {Q : β → Prop} (h : o = some x) (k : zS (g x) Q) : zS (o.bind g) Q := by
  rw [h]
  exact k
theorem zS_m {α β : Type} {o : Option α} {P : α → Prop} {g : α → Option β} {Q : β → Prop} (h : zS o P) (k : ∀ x, P x → zS (g x) Q) : zS (o.bind g) Q := by
  obtain ⟨x, e, hp⟩ := h
  exact zS_b e (k x hp)
theorem zS_r {α : Type} {x : α} {Q : α → Prop} (h : Q x) : zS (some x) Q := ⟨x, rfl, h⟩
theorem zS_it {α : Type} {c : Prop} [Decidable c] {a b : Option α} {Q : α → Prop} (hc : c) (h : zS a Q) : zS (if c then a else b) Q := by rwa [if_pos hc]
theorem zS_ie {α : Type} {c : Prop} [Decidable c] {a b : Option α} {Q : α → Prop} (hc : ¬ c) (h : zS b Q) : zS (if c then a else b) Q := by rwa [if_neg hc]
theorem zS_if {α : Type} {c : Prop} [Decidable c] {a b : Option α} {Q : α → Prop} (ht : c → zS a Q) (he : ¬ c → zS b Q) : zS (if c then a else b) Q := by
  by_cases hc : c
  · exact zS_it hc (ht hc)
  · exact zS_ie hc (he hc)
theorem zS_e {α : Type} {o : Option α} {x : α} (h : o = some x) {Q : α → Prop} (hq : Q x) : zS o Q := ⟨x, h, hq⟩
theorem zS_eq {α : Type} {o : Option α} {x : α} (h : zS o (fun y => y = x)) : o = some x := by
  obtain ⟨y, e, rfl⟩ := h
  exact e
theorem zS_and {α : Type} {o : Option α} {P Q : α → Prop} (h : zS o P) (k : zS o Q) : zS o (fun x => P x ∧ Q x) := by
  obtain ⟨x, e, hp⟩ := h
  obtain ⟨y, e2, hq⟩ := k
  rw [e] at e2
  cases e2
  exact ⟨x, e, hp, hq⟩
/-- a loop, counting up -/
theorem loopI {A R : Type} (F : Nat → Nat → A → Option R) (I : Nat → A → Prop) {Q : R → Prop} (s b : Nat) (hsb : s ≤ b) {a0 : A} (h0 : I s a0)
    (hs : ∀ n i a, s ≤ i → i < b → I i a → (∀ a', I (i + 1) a' → zS (F n (i + 1) a') Q) → zS (F (n + 1) i a) Q)
    (he : ∀ n a, I b a → zS (F (n + 1) b a) Q) : ∀ fuel, b < fuel → zS (F fuel s a0) Q := by
  have key : ∀ m i n a, s ≤ i → i + m = b → I i a → zS (F (m + 1 + n) i a) Q := by
    intro m
    induction m with
    | zero =>
      intro i n a h1 h hI
      have hi : i = b := by omega
      subst hi
      rw [show 0 + 1 + n = n + 1 by omega]
      exact he n a hI
    | succ m ih =>
      intro i n a h1 h hI
      rw [show m + 1 + 1 + n = (m + 1 + n) + 1 by omega]
      exact hs _ i a h1 (by omega) hI (fun a' h' => ih (i + 1) n a' (by omega) (by omega) h')
  intro fuel hf
  have h := key (b - s) s (fuel - b + s - 1) a0 (Nat.le_refl s) (by omega) h0
  rw [show b - s + 1 + (fuel - b + s - 1) = fuel by omega] at h
  exact h
/-! Writes. -/
theorem zup_s {M : Nat → Nat → Int} {a i : Nat} {v : Int} : zup M a i v a i = v := if_pos ⟨rfl, rfl⟩
theorem zup_c {M : Nat → Nat → Int} {a i c : Nat} {v : Int} (h : c ≠ a) : zup M a i v c = M c := by
  funext j
  exact if_neg (fun e => h e.1)
theorem zup_i {M : Nat → Nat → Int} {a i j : Nat} {v : Int} (h : j ≠ i) : zup M a i v a j = M a j := if_neg (fun e => h e.2)
theorem zup_a {M : Nat → Nat → Int} {a i j : Nat} {v : Int} : zup M a i v a j = if j = i then v else M a j := by
  by_cases h : j = i
  · rw [if_pos h, h, zup_s]
  · rw [if_neg h, zup_i h]
theorem ti5 {n p : Nat} : (5 * (n : Int) + (p : Int)).toNat = 5 * n + p := by omega
theorem ti5' {n p : Nat} : ((n : Int) * 5 + (p : Int)).toNat = 5 * n + p := by omega
theorem w5 {n p : Nat} (h : n < 1000) (h2 : p < 1000) : w32 (w32 (5 * (n : Int)) + (p : Int)) = ((5 * n + p : Nat) : Int) := by simp (disch := omega) only [w32_eq]; omega
theorem w5' {n p : Nat} (h : n < 1000) (h2 : p < 1000) : w32 (w32 ((n : Int) * 5) + (p : Int)) = ((5 * n + p : Nat) : Int) := by simp (disch := omega) only [w32_eq]; omega
theorem w1 {n : Nat} (h : n < 1000000) : w32 ((n : Int) + 1) = ((n + 1 : Nat) : Int) := by simp (disch := omega) only [w32_eq]; omega
/-! All of the first few. -/
def zal (k : Nat) (f : Nat → Bool) : Bool := zfo (fun i a => a && f i) k true
theorem zal_1 {f : Nat → Bool} : ∀ {k : Nat}, zal k f = true ↔ ∀ i, i < k → f i = true
  | 0 => ⟨fun _ i hi => by omega, fun _ => rfl⟩
  | k + 1 => by
    have ih := zal_1 (f := f) (k := k)
    have e : zal (k + 1) f = (zal k f && f k) := rfl
    rw [e, Bool.and_eq_true, ih]
    constructor
    · intro h i hi
      by_cases hk : i = k
      · rw [hk]; exact h.2
      · exact h.1 i (by omega)
    · intro h
      exact ⟨fun i hi => h i (by omega), h k (by omega)⟩
/-! Bits. -/
theorem zn0 {x : Nat} : x = 0 ↔ ∀ i, x.testBit i = false := by
  constructor
  · intro h i
    rw [h]
    exact Nat.zero_testBit i
  · intro h
    exact Nat.eq_of_testBit_eq (fun i => by rw [h i, Nat.zero_testBit])
theorem znot_bit {b i : Nat} (h : i < 32) : (b ^^^ 4294967295).testBit i = !(b.testBit i) := by
  have e : (4294967295 : Nat).testBit i = true := by
    have e1 : (4294967295 : Nat) = 2 ^ 32 - 1 := by decide
    rw [e1, Nat.testBit_two_pow_sub_one]
    exact decide_eq_true h
  rw [Nat.testBit_xor, e]
  cases b.testBit i <;> rfl
theorem zlt_bit {a i : Nat} (ha : a < 2147483648) (h : a.testBit i = true) : i < 31 := by
  apply Decidable.byContradiction
  intro hi
  have h2 : a.testBit i = false := Nat.testBit_lt_two_pow (Nat.lt_of_lt_of_le ha (Nat.pow_le_pow_right (n := 2) (i := 31) (by decide) (by omega)))
  rw [h2] at h
  cases h
theorem zandn_0 {a b : Nat} (ha : a < 2147483648) : zand (a : Int) (zxor (b : Int) (-1)) = 0 ↔ ∀ i, a.testBit i = true → b.testBit i = true := by
  rw [zandn_nat ha]
  constructor
  · intro h i hi
    have h0 : a &&& (b ^^^ 4294967295) = 0 := by omega
    have h1 := zn0.mp h0 i
    rw [Nat.testBit_and, hi, znot_bit (by have := zlt_bit ha hi; omega)] at h1
    revert h1
    cases b.testBit i <;> simp
  · intro h
    have h0 : a &&& (b ^^^ 4294967295) = 0 := by
      refine zn0.mpr (fun i => ?_)
      rw [Nat.testBit_and]
      by_cases hi : a.testBit i = true
      · rw [znot_bit (by have := zlt_bit ha hi; omega), h i hi]
        simp
      · have hi : a.testBit i = false := by simpa using hi
        rw [hi]
        rfl
    rw [h0]
    rfl
theorem zand_0 {a b : Nat} (ha : a < 2147483648) : zand (a : Int) (b : Int) = 0 ↔ ∀ i, ¬ (a.testBit i = true ∧ b.testBit i = true) := by
  rw [zand_nat ha]
  constructor
  · intro h i hi
    have h0 : a &&& b = 0 := by omega
    have h1 := zn0.mp h0 i
    rw [Nat.testBit_and, hi.1, hi.2] at h1
    cases h1
  · intro h
    have h0 : a &&& b = 0 := by
      refine zn0.mpr (fun i => ?_)
      rw [Nat.testBit_and]
      have h1 := h i
      revert h1
      cases a.testBit i <;> cases b.testBit i <;> simp
    rw [h0]
    rfl
theorem zor_bit1 {a k : Nat} (ha : a < 1073741824) (hk : k < 30) : zor (a : Int) (zshl 1 (k : Int)) = ((a ||| (1 <<< k) : Nat) : Int) := by
  have h1 : (1 : Nat) <<< k = 2 ^ k := Nat.one_shiftLeft k
  have hp : (2 : Nat) ^ k ≤ 2 ^ 29 := Nat.pow_le_pow_right (by decide) (by omega)
  have h29 : (2 : Nat) ^ 29 = 536870912 := by decide
  have e3 : zshl ((1 : Nat) : Int) (k : Int) = ((1 <<< k : Nat) : Int) := zshl_nat (by omega) (by omega)
  have e4 : ((1 : Nat) : Int) = 1 := rfl
  rw [e4] at e3
  rw [e3]
  exact zor_nat (by omega) (by omega)
theorem zor_bit1_t {a k i : Nat} : (a ||| (1 <<< k)).testBit i = (a.testBit i || decide (i = k)) := by
  rw [Nat.testBit_or, Nat.one_shiftLeft, Nat.testBit_two_pow]
  by_cases h : i = k
  · rw [decide_eq_true h, decide_eq_true h.symm]
  · rw [decide_eq_false h, decide_eq_false (fun e => h e.symm)]
theorem zor_bit1_lt {a k m : Nat} (ha : a < 2 ^ m) (hk : k < m) : a ||| (1 <<< k) < 2 ^ m := by
  refine Nat.or_lt_two_pow ha ?_
  rw [Nat.one_shiftLeft]
  exact Nat.pow_lt_pow_right (by decide) hk
theorem zsn_of {n a : Nat} {f : Nat → Bool} (h : ∀ i, a.testBit i = (decide (i < n) && f i)) : a = zsn n f := Nat.eq_of_testBit_eq (fun i => by rw [h i, zsn_bit])
theorem rdI_n {c n i : Nat} {M : Nat → Nat → Int} (h : zSH[c]? = some (0, n)) (hi : i < n) : rdI c (i : Int) M = some (M c i) := rdI_at h (by omega) (by omega)
theorem wrI_n {c n i : Nat} {y : Int} {M : Nat → Nat → Int} (h : zSH[c]? = some (0, n)) (hi : i < n) : wrI c (i : Int) y M = some (zup M c i y) := wrI_at h (by omega) (by omega)
theorem rdI_z {c n i : Nat} {x : Int} {M : Nat → Nat → Int} (h : zSH[c]? = some (0, n)) (e : x = (i : Int)) (hi : i < n) : rdI c x M = some (M c i) := by rw [e]; exact rdI_n h hi
theorem wrI_z {c n i : Nat} {x y : Int} {M : Nat → Nat → Int} (h : zSH[c]? = some (0, n)) (e : x = (i : Int)) (hi : i < n) : wrI c x y M = some (zup M c i y) := by rw [e]; exact wrI_n h hi
theorem rdI_cg {c : Nat} {x : Int} {M C : Nat → Nat → Int} (h : M c = C c) : rdI c x M = rdI c x C := by unfold rdI; rw [h]
/-- the aim by a name -/
theorem zS_gen {α : Type} {o : Option α} {Q : α → Prop} (h : ∀ Q' : α → Prop, (∀ x, Q x → Q' x) → zS o Q') : zS o Q := h Q (fun _ h => h)
