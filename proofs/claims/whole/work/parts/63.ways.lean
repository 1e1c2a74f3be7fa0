/-! Ways: how far it is. -/
def zR (J : Nat → Nat → Bool) : Nat → Nat → Nat → Bool
  | 0, a, b => decide (a = b)
  | k + 1, a, b => zR J k a b || zan 8 (fun c => zR J k a c && J c b)
theorem zR_s {J : Nat → Nat → Bool} {k a b : Nat} : zR J (k + 1) a b = true ↔ zR J k a b = true ∨ ∃ c, c < 8 ∧ zR J k a c = true ∧ J c b = true := by
  show (zR J k a b || zan 8 (fun c => zR J k a c && J c b)) = true ↔ _
  rw [Bool.or_eq_true, zan_1]
  constructor
  · intro h
    rcases h with h | ⟨c, hc, h⟩
    · exact Or.inl h
    · exact Or.inr ⟨c, hc, (Bool.and_eq_true _ _).mp h⟩
  · intro h
    rcases h with h | ⟨c, hc, h⟩
    · exact Or.inl h
    · exact Or.inr ⟨c, hc, (Bool.and_eq_true _ _).mpr h⟩
theorem zR_mono {J : Nat → Nat → Bool} {a b k : Nat} (h : zR J k a b = true) : ∀ m, zR J (k + m) a b = true
  | 0 => h
  | m + 1 => zR_s.mpr (Or.inl (zR_mono h m))
theorem zR_stab {J : Nat → Nat → Bool} {a k : Nat} (h : ∀ b, b < 8 → zR J (k + 1) a b = zR J k a b) : ∀ m b, b < 8 → zR J (k + m) a b = zR J k a b
  | 0, _, _ => rfl
  | m + 1, b, hb => by
    have ih := zR_stab h m
    rw [← h b hb, Bool.eq_iff_iff]
    show zR J (k + m + 1) a b = true ↔ _
    rw [zR_s, zR_s, ih b hb]
    constructor
    · intro q
      rcases q with q | ⟨c, hc, q1, q2⟩
      · exact Or.inl q
      · exact Or.inr ⟨c, hc, by rw [← ih c hc]; exact q1, q2⟩
    · intro q
      rcases q with q | ⟨c, hc, q1, q2⟩
      · exact Or.inl q
      · exact Or.inr ⟨c, hc, by rw [ih c hc]; exact q1, q2⟩
def zRc (J : Nat → Nat → Bool) (k a : Nat) : Int := zsum 8 (fun b => if zR J k a b = true then 1 else 0)
theorem zsum_mono {f g : Nat → Int} : ∀ n, (∀ i, i < n → f i ≤ g i) → zsum n f ≤ zsum n g
  | 0, _ => Int.le_refl _
  | n + 1, h => by
    have ih := zsum_mono (f := f) (g := g) n (fun i hi => h i (by omega))
    have hn := h n (by omega)
    have e1 : zsum (n + 1) f = zsum n f + f n := rfl
    have e2 : zsum (n + 1) g = zsum n g + g n := rfl
    omega
theorem zsum_lt {f g : Nat → Int} {j : Nat} : ∀ n, (∀ i, i < n → f i ≤ g i) → j < n → f j + 1 ≤ g j → zsum n f + 1 ≤ zsum n g
  | 0, _, hj, _ => by omega
  | n + 1, h, hj, hg => by
    have e1 : zsum (n + 1) f = zsum n f + f n := rfl
    have e2 : zsum (n + 1) g = zsum n g + g n := rfl
    by_cases hjn : j = n
    · have ih := zsum_mono (f := f) (g := g) n (fun i hi => h i (by omega))
      rw [hjn] at hg
      omega
    · have ih := zsum_lt (f := f) (g := g) (j := j) n (fun i hi => h i (by omega)) (by omega) hg
      have hn := h n (by omega)
      omega
theorem zRc_grow {J : Nat → Nat → Bool} {a : Nat} (ha : a < 8) : ∀ k, (∃ j, j < k ∧ ∀ b, b < 8 → zR J (j + 1) a b = zR J j a b) ∨ ((k : Int) + 1 ≤ zRc J k a)
  | 0 => by
    right
    have h := zsum_lt (f := fun _ => (0 : Int)) (g := fun b => if zR J 0 a b = true then 1 else 0) (j := a) 8 (fun i _ => by
      show (0 : Int) ≤ if zR J 0 a i = true then 1 else 0
      split <;> omega) ha (by
      show (0 : Int) + 1 ≤ if zR J 0 a a = true then 1 else 0
      rw [if_pos (show zR J 0 a a = true from decide_eq_true rfl)]
      omega)
    rw [zsum_0] at h
    exact h
  | k + 1 => by
    rcases zRc_grow (J := J) ha k with ⟨j, hj, h⟩ | h
    · exact Or.inl ⟨j, by omega, h⟩
    · by_cases hs : ∀ b, b < 8 → zR J (k + 1) a b = zR J k a b
      · exact Or.inl ⟨k, by omega, hs⟩
      · right
        have ⟨b, hb, hne⟩ : ∃ b, b < 8 ∧ zR J (k + 1) a b ≠ zR J k a b := by
          apply Classical.byContradiction
          intro hno
          exact hs (fun b hb => by
            apply Classical.byContradiction
            intro hq
            exact hno ⟨b, hb, hq⟩)
        have hm : ∀ i, zR J k a i = true → zR J (k + 1) a i = true := fun i hi => zR_s.mpr (Or.inl hi)
        have h2 := zsum_lt (f := fun b => if zR J k a b = true then (1 : Int) else 0) (g := fun b => if zR J (k + 1) a b = true then 1 else 0) (j := b) 8 (fun i _ => by
          show (if zR J k a i = true then (1 : Int) else 0) ≤ if zR J (k + 1) a i = true then 1 else 0
          by_cases hq : zR J k a i = true
          · rw [if_pos hq, if_pos (hm i hq)]; omega
          · rw [if_neg hq]; split <;> omega) hb (by
          show (if zR J k a b = true then (1 : Int) else 0) + 1 ≤ if zR J (k + 1) a b = true then 1 else 0
          have hf : zR J k a b = false := by
            cases hq : zR J k a b with
            | false => rfl
            | true => rw [hq, hm b hq] at hne; exact absurd rfl hne
          have ht : zR J (k + 1) a b = true := by
            cases hq : zR J (k + 1) a b with
            | true => rfl
            | false => rw [hq, hf] at hne; exact absurd rfl hne
          rw [hf, ht]
          decide)
        have h3 : zRc J k a + 1 ≤ zRc J (k + 1) a := h2
        omega
theorem zR_7 {J : Nat → Nat → Bool} {a b m : Nat} (ha : a < 8) (hb : b < 8) (hm : 7 ≤ m) : zR J m a b = zR J 7 a b := by
  obtain ⟨d, rfl⟩ : ∃ d, m = 7 + d := ⟨m - 7, by omega⟩
  rcases zRc_grow (J := J) ha 7 with ⟨j, hj, h⟩ | h
  · have e1 := zR_stab h (7 + d - j) b hb
    have e2 := zR_stab h (7 - j) b hb
    rw [show j + (7 + d - j) = 7 + d by omega] at e1
    rw [show j + (7 - j) = 7 by omega] at e2
    rw [e1, e2]
  · have hall : ∀ c, c < 8 → zR J 7 a c = true := fun c hc => by
      cases hq : zR J 7 a c with
      | true => rfl
      | false =>
        have h2 := zsum_lt (f := fun b => if zR J 7 a b = true then (1 : Int) else 0) (g := fun _ => 1) (j := c) 8 (fun i _ => by
          show (if zR J 7 a i = true then (1 : Int) else 0) ≤ 1
          split <;> omega) hc (by
          show (if zR J 7 a c = true then (1 : Int) else 0) + 1 ≤ 1
          rw [hq]
          decide)
        have h3 : zsum 8 (fun _ => (1 : Int)) = 8 := by decide
        have h4 : zRc J 7 a + 1 ≤ zsum 8 (fun _ => (1 : Int)) := h2
        omega
    rw [hall b hb]
    exact zR_mono (hall b hb) d
theorem zR_add {J : Nat → Nat → Bool} {i m : Nat} {k : Nat} (h : zR J k i m = true) : ∀ l j, zR J l m j = true → zR J (k + l) i j = true
  | 0, j, hj => by
    have e : m = j := of_decide_eq_true hj
    rw [← e]
    exact h
  | l + 1, j, hj => by
    rcases zR_s.mp hj with q | ⟨c, hc, q1, q2⟩
    · exact zR_s.mpr (Or.inl (zR_add h l j q))
    · exact zR_s.mpr (Or.inr ⟨c, hc, zR_add h l c q1, q2⟩)
/-- ways of a length whose inner corners are below m -/
def zPw (J : Nat → Nat → Bool) (m : Nat) : Nat → Nat → Nat → Prop
  | 0, i, j => i = j
  | l + 1, i, j => (l = 0 ∧ J i j = true) ∨ ∃ c, c < m ∧ J i c = true ∧ zPw J m l c j
theorem zPw_up {J : Nat → Nat → Bool} {m : Nat} : ∀ l i j, zPw J m l i j → zPw J (m + 1) l i j
  | 0, _, _, h => h
  | l + 1, i, j, h => by
    rcases h with h | ⟨c, hc, h1, h2⟩
    · exact Or.inl h
    · exact Or.inr ⟨c, by omega, h1, zPw_up l c j h2⟩
theorem zPw_split {J : Nat → Nat → Bool} {m : Nat} : ∀ l i j, zPw J (m + 1) l i j → (∃ l', l' ≤ l ∧ zPw J m l' i j) ∨ (∃ l1 l2, l1 + l2 ≤ l ∧ zPw J m l1 i m ∧ zPw J m l2 m j)
  | 0, i, j, h => Or.inl ⟨0, Nat.le_refl 0, h⟩
  | l + 1, i, j, h => by
    rcases h with ⟨h0, hj⟩ | ⟨c, hc, h1, h2⟩
    · subst h0
      exact Or.inl ⟨1, Nat.le_refl 1, Or.inl ⟨rfl, hj⟩⟩
    · have ih := zPw_split l c j h2
      by_cases hcm : c = m
      · have hm1 : zPw J m 1 i m := Or.inl ⟨rfl, by rw [← hcm]; exact h1⟩
        rw [hcm] at ih
        rcases ih with ⟨l', hl, q⟩ | ⟨l1, l2, hl, q1, q2⟩
        · exact Or.inr ⟨1, l', by omega, hm1, q⟩
        · exact Or.inr ⟨1, l2, by omega, hm1, q2⟩
      · rcases ih with ⟨l', hl, q⟩ | ⟨l1, l2, hl, q1, q2⟩
        · exact Or.inl ⟨l' + 1, by omega, Or.inr ⟨c, by omega, h1, q⟩⟩
        · exact Or.inr ⟨l1 + 1, l2, by omega, Or.inr ⟨c, by omega, h1, q1⟩, q2⟩
theorem zPw_snoc {J : Nat → Nat → Bool} {n : Nat} : ∀ l i c j, zPw J n l i c → c < n → J c j = true → zPw J n (l + 1) i j
  | 0, i, c, j, h, _, hj => by
    have h : i = c := h
    subst h
    exact Or.inl ⟨rfl, hj⟩
  | l + 1, i, c, j, h, hc, hj => by
    rcases h with ⟨h0, h1⟩ | ⟨d, hd, h1, h2⟩
    · subst h0
      exact Or.inr ⟨c, hc, h1, Or.inl ⟨rfl, hj⟩⟩
    · exact Or.inr ⟨d, hd, h1, zPw_snoc l d c j h2 hc hj⟩
theorem zR_Pw {J : Nat → Nat → Bool} {n i : Nat} (hi : i < n) (hJ : ∀ c b, J c b = true → b < n) : ∀ l j, zR J l i j = true → j < n ∧ ∃ l', l' ≤ l ∧ zPw J n l' i j
  | 0, j, h => by
    have e : i = j := of_decide_eq_true h
    subst e
    exact ⟨hi, 0, Nat.le_refl 0, rfl⟩
  | l + 1, j, h => by
    rcases zR_s.mp h with q | ⟨c, hc, q1, q2⟩
    · obtain ⟨a, l', hl, b⟩ := zR_Pw hi hJ l j q
      exact ⟨a, l', by omega, b⟩
    · obtain ⟨a, l', hl, b⟩ := zR_Pw hi hJ l c q1
      exact ⟨hJ c j q2, l' + 1, by omega, zPw_snoc l' i c j b a q2⟩
/-- how far it is; none: -1 -/
def zDs (J : Nat → Nat → Bool) (a b : Nat) : Int := zfs 8 (fun k => zR J k a b)
/-- the reference's ways are right -/
def zWy (M : Nat → Nat → Int) (J : Nat → Nat → Bool) (n : Nat) : Prop := ∀ i j, i < n → j < n → 0 ≤ M 124 (8 * i + j) ∧ M 124 (8 * i + j) ≤ 1000000000 ∧ (M 124 (8 * i + j) < 1000000000 → zR J (M 124 (8 * i + j)).toNat i j = true) ∧ ∀ l : Nat, zR J l i j = true → M 124 (8 * i + j) ≤ l
theorem zWy_eq {M : Nat → Nat → Int} {J : Nat → Nat → Bool} {n i j : Nat} (h : zWy M J n) (hi : i < n) (hj : j < n) (hn : n ≤ 8) : M 124 (8 * i + j) = if zDs J i j = -1 then 1000000000 else zDs J i j := by
  obtain ⟨h0, h1, h2, h3⟩ := h i j hi hj
  unfold zDs
  rcases zfs_cases (b := 8) (f := fun k => zR J k i j) with ⟨e, q⟩ | ⟨k, hk, e, q1, q2⟩
  · rw [e, if_pos rfl]
    apply Decidable.byContradiction
    intro hne
    have t := h2 (by omega)
    by_cases hd : (M 124 (8 * i + j)).toNat < 8
    · have q' := q _ hd
      rw [t] at q'
      cases q'
    · rw [zR_7 (by omega) (by omega) (by omega)] at t
      have q' := q 7 (by omega)
      rw [t] at q'
      cases q'
  · rw [e, if_neg (by omega)]
    have a1 := h3 k q1
    apply Decidable.byContradiction
    intro hne
    have t := h2 (by omega)
    have q' := q2 (M 124 (8 * i + j)).toNat (by omega)
    rw [t] at q'
    cases q'
section ZWY
variable {W : Nat → Int} {M M1 : Nat → Nat → Int} {x y : Int} {cl : Nat → Bool}
def zJ (W : Nat → Int) (cl : Nat → Bool) (a b : Nat) : Bool := wjn W cl (a : Int) (b : Int)
theorem zJ_lt (hw : wOk W) {a b : Nat} (h : zJ W cl a b = true) : a < (W 0).toNat ∧ b < (W 0).toNat := by
  have hs := hw.2.2.2.2.2.2.2.2.2.2.2.2.1
  obtain ⟨k, hk, _, q⟩ := wjn_1.mp h
  have p := hs k hk
  rcases q with ⟨q1, q2⟩ | ⟨q1, q2⟩ <;> omega
theorem w8 {n p : Nat} (h : n < 1000) (h2 : p < 1000) : w32 (w32 (8 * (n : Int)) + (p : Int)) = ((8 * n + p : Nat) : Int) := by simp (disch := omega) only [w32_eq]; omega
theorem lm_wayOf_eq {i j : Nat} (hi : i < 8) (hj : j < 8) : lm_wayOf (i : Int) (j : Int) M = some (M 124 (8 * i + j)) := by
  refine zS_eq ?_
  unfold lm_wayOf
  rw [w8 (by omega) (by omega)]
  refine zS_b (rdI_n sh_124 (by omega)) ?_
  exact zS_r rfl
/-- in phase m, the first t pairs done -/
def zFw (N : Nat → Nat → Int) (J : Nat → Nat → Bool) (n m t : Nat) : Prop := ∀ i j, i < n → j < n → 0 ≤ N 124 (8 * i + j) ∧ N 124 (8 * i + j) ≤ 1000000000 ∧ (N 124 (8 * i + j) < 1000000000 → zR J (N 124 (8 * i + j)).toNat i j = true) ∧ (∀ l : Nat, zPw J m l i j → N 124 (8 * i + j) ≤ l) ∧ (n * i + j < t → ∀ l : Nat, zPw J (m + 1) l i j → N 124 (8 * i + j) ≤ l)
theorem pair_lt {n i j : Nat} (hi : i < n) (hj : j < n) : n * i + j < n * n := by
  have h : n * i + n ≤ n * n := by
    have := Nat.mul_le_mul_left n (show i + 1 ≤ n by omega)
    rw [Nat.mul_add, Nat.mul_one] at this
    exact this
  omega
theorem pair_inj {n a b : Nat} (hb : b < n) : (n * a + b) / n = a ∧ (n * a + b) % n = b := by
  refine ⟨?_, ?_⟩
  · rw [Nat.mul_add_div (by omega), Nat.div_eq_of_lt hb, Nat.add_zero]
  · rw [Nat.mul_add_mod, Nat.mod_eq_of_lt hb]
theorem zFw_step {N : Nat → Nat → Int} {J : Nat → Nat → Bool} {n m i j : Nat} (hn : n ≤ 8) (hi : i < n) (hj : j < n) (hm : m < n) (h : zFw N J n m (n * i + j)) : zFw (zup N 124 (8 * i + j) (zmin (N 124 (8 * i + j)) (N 124 (8 * i + m) + N 124 (8 * m + j)))) J n m (n * i + j + 1) := by
  intro a b ha hb
  rw [zup_a]
  by_cases hab : 8 * a + b = 8 * i + j
  · have hai : a = i := by omega
    have hbj : b = j := by omega
    rw [if_pos hab]
    subst hai
    subst hbj
    obtain ⟨a0, a1, a2, a3, a4⟩ := h a b ha hb
    obtain ⟨b0, b1, b2, b3, b4⟩ := h a m ha hm
    obtain ⟨c0, c1, c2, c3, c4⟩ := h m b hm hb
    have key : ∀ l : Nat, zPw J (m + 1) l a b → zmin (N 124 (8 * a + b)) (N 124 (8 * a + m) + N 124 (8 * m + b)) ≤ l := fun l hl => by
      rcases zPw_split l a b hl with ⟨l', h1, h2⟩ | ⟨l1, l2, h1, h2, h3⟩
      · have := a3 l' h2
        unfold zmin
        split <;> omega
      · have q1 := b3 l1 h2
        have q2 := c3 l2 h3
        unfold zmin
        split <;> omega
    refine ⟨by unfold zmin; split <;> omega, by unfold zmin; split <;> omega, fun hlt => ?_, fun l hl => key l (zPw_up l a b hl), fun _ => key⟩
    unfold zmin at hlt ⊢
    by_cases hz : N 124 (8 * a + m) + N 124 (8 * m + b) < N 124 (8 * a + b)
    · rw [if_pos hz] at hlt ⊢
      have e : (N 124 (8 * a + m) + N 124 (8 * m + b)).toNat = (N 124 (8 * a + m)).toNat + (N 124 (8 * m + b)).toNat := by omega
      rw [e]
      exact zR_add (b2 (by omega)) _ _ (c2 (by omega))
    · rw [if_neg hz] at hlt ⊢
      exact a2 hlt
  · rw [if_neg hab]
    obtain ⟨a0, a1, a2, a3, a4⟩ := h a b ha hb
    refine ⟨a0, a1, a2, a3, fun hlt => ?_⟩
    by_cases he : n * a + b = n * i + j
    · have p1 := pair_inj (n := n) (a := a) hb
      have p2 := pair_inj (n := n) (a := i) hj
      rw [he] at p1
      have hai : a = i := by omega
      have hbj : b = j := by omega
      rw [hai, hbj] at hab
      exact absurd rfl hab
    · exact a4 (by omega)
theorem lm_layWays_ok (hw : wOk W) (hW : M 107 = W) (hcl : zset 12 (M 106 15) cl) : zS (lm_layWays M) (fun M' => (∀ c, c ≠ 124 → M' c = M c) ∧ zWy M' (zJ W cl) (W 0).toNat) := by
  have u0 := hw.1
  refine zS_gen (fun Q hQ => ?_)
  unfold lm_layWays
  refine zS_b (w107 (by omega) (by omega)) ?_
  obtain ⟨n, hn⟩ : ∃ n : Nat, W 0 = (n : Int) := ⟨(W 0).toNat, by omega⟩
  have hn8 : n ≤ 8 := by omega
  have e0 : M 107 (Int.toNat 0) = (n : Int) := by rw [hW]; exact hn
  rw [e0]
  rw [hn, Int.toNat_natCast] at hQ
  refine loopI (fun k i (N : Nat → Nat → Int) => lm_layWays_c9 k (n : Int) (i : Int) N) (fun i N => (∀ c, c ≠ 124 → N c = M c) ∧ ∀ t, t < i → N 124 t = if t / 8 = t % 8 then 0 else if zJ W cl (t / 8) (t % 8) = true then 1 else 1000000000) (a0 := M) 0 64 (by omega) ⟨fun _ _ => rfl, fun t ht => by omega⟩ ?_ ?_ zN (zN_gt (by omega))
  · intro k i N _ hi ⟨h1, h2⟩ kk
    have hup : ∀ v, v = (if i / 8 = i % 8 then 0 else if zJ W cl (i / 8) (i % 8) = true then 1 else 1000000000) → zS (lm_layWays_c9 k (n : Int) ((i + 1 : Nat) : Int) (zup N 124 i v)) Q := fun v hv => kk _ ⟨fun c hc => by rw [zup_c hc]; exact h1 c hc, fun t ht => by
      rw [zup_a]
      by_cases hti : t = i
      · rw [if_pos hti, hti]; exact hv
      · rw [if_neg hti]; exact h2 t (by omega)⟩
    show zS (lm_layWays_c9 (k + 1) (n : Int) (i : Int) N) Q
    rw [lm_layWays_c9]
    refine zS_it (by omega) ?_
    have ed : zdiv (i : Int) 8 = ((i / 8 : Nat) : Int) := zdiv_nat (b := 8) (by omega) (by omega)
    have er : zrem (i : Int) 8 = ((i % 8 : Nat) : Int) := zrem_nat (b := 8) (by omega) (by omega)
    rw [ed, er, w1 (by omega)]
    by_cases hd : i / 8 = i % 8
    · rw [if_pos (by omega)]
      refine zS_b (wrI_n sh_124 (by omega)) ?_
      exact hup 0 (by rw [if_pos hd])
    · rw [if_neg (by omega)]
      refine zS_b (lm_isJoined_eq (cl := cl) ((h1 107 (by omega)).trans hW) hw (by rw [h1 106 (by omega)]; exact hcl)) ?_
      by_cases hj : wjn W cl ((i / 8 : Nat) : Int) ((i % 8 : Nat) : Int) = true
      · rw [zbo_t hj, if_neg (by decide)]
        refine zS_b (wrI_n sh_124 (by omega)) ?_
        exact hup 1 (by rw [if_neg hd, if_pos (show zJ W cl (i / 8) (i % 8) = true from hj)])
      · rw [zbo_f hj, if_pos rfl]
        refine zS_b (wrI_n sh_124 (by omega)) ?_
        exact hup 1000000000 (by rw [if_neg hd, if_neg (show ¬ zJ W cl (i / 8) (i % 8) = true from hj)])
  · intro k N ⟨h1, h2⟩
    show zS (lm_layWays_c9 (k + 1) (n : Int) ((64 : Nat) : Int) N) Q
    rw [lm_layWays_c9]
    refine zS_ie (by omega) ?_
    refine loopI (fun k m (N : Nat → Nat → Int) => lm_layWays_c66 k (n : Int) (m : Int) N) (fun m N => (∀ c, c ≠ 124 → N c = M c) ∧ zFw N (zJ W cl) n m 0) (a0 := N) 0 n (by omega) ⟨h1, fun i j hi hj => ?_⟩ ?_ ?_ zN (zN_gt (by omega))
    · have hN := h2 (8 * i + j) (by omega)
      have e1 : (8 * i + j) / 8 = i := by omega
      have e2 : (8 * i + j) % 8 = j := by omega
      rw [e1, e2] at hN
      rw [hN]
      by_cases hij : i = j
      · rw [if_pos hij]
        refine ⟨by omega, by omega, fun _ => decide_eq_true hij, fun l _ => by omega, fun q => by omega⟩
      · rw [if_neg hij]
        by_cases hJ : zJ W cl i j = true
        · rw [if_pos hJ]
          refine ⟨by omega, by omega, fun _ => ?_, fun l hl => ?_, fun q => by omega⟩
          · exact zR_s.mpr (Or.inr ⟨i, by omega, decide_eq_true rfl, hJ⟩)
          · cases l with
            | zero => exact absurd hl hij
            | succ l => omega
        · rw [if_neg hJ]
          refine ⟨by omega, by omega, fun q => by omega, fun l hl => ?_, fun q => by omega⟩
          cases l with
          | zero => exact absurd hl hij
          | succ l =>
            rcases hl with ⟨_, q⟩ | ⟨c, hc, _⟩
            · exact absurd q hJ
            · omega
    · intro k m N _ hm ⟨f1, f2⟩ kk
      show zS (lm_layWays_c66 (k + 1) (n : Int) (m : Int) N) Q
      rw [lm_layWays_c66]
      refine zS_it (by omega) ?_
      have hnn : n * n ≤ 64 := Nat.mul_le_mul hn8 hn8
      refine loopI (fun k' t (N : Nat → Nat → Int) => lm_layWays_c73 (lm_layWays_c66 k) k' (n : Int) (m : Int) (t : Int) N) (fun t N => (∀ c, c ≠ 124 → N c = M c) ∧ zFw N (zJ W cl) n m t) (a0 := N) 0 (n * n) (by omega) ⟨f1, f2⟩ ?_ ?_ zN (zN_gt (by omega))
      · intro k' t N' _ ht ⟨g1, g2⟩ k2
        have hmod : t % n < n := Nat.mod_lt _ (by omega)
        have hdiv : t / n < n := Nat.div_lt_of_lt_mul ht
        have hdm : n * (t / n) + t % n = t := Nat.div_add_mod t n
        have ew : w32 ((n : Int) * (n : Int)) = ((n * n : Nat) : Int) := by
          rw [← Int.natCast_mul, w32_eq (by omega) (by omega)]
        have ed : zdiv (t : Int) (n : Int) = ((t / n : Nat) : Int) := zdiv_nat (by omega) (by omega)
        have er : zrem (t : Int) (n : Int) = ((t % n : Nat) : Int) := zrem_nat (by omega) (by omega)
        show zS (lm_layWays_c73 (lm_layWays_c66 k) (k' + 1) (n : Int) (m : Int) (t : Int) N') Q
        rw [lm_layWays_c73, ew, ed, er, w1 (by omega)]
        refine zS_it (by omega) ?_
        refine zS_ie (by omega) ?_
        refine zS_ie (by omega) ?_
        refine zS_ie (by omega) ?_
        refine zS_ie (by omega) ?_
        refine zS_b (lm_wayOf_eq (by omega) (by omega)) ?_
        refine zS_ie (by omega) ?_
        refine zS_b (lm_wayOf_eq (by omega) (by omega)) ?_
        refine zS_ie (by omega) ?_
        refine zS_b (lm_wayOf_eq (by omega) (by omega)) ?_
        rw [w8 (by omega) (by omega)]
        refine zS_b (wrI_n sh_124 (by omega)) ?_
        have b1 := g2 (t / n) m hdiv hm
        have b2 := g2 m (t % n) hm hmod
        rw [w32_eq (by omega) (by omega)]
        refine k2 _ ⟨fun c hc => by rw [zup_c hc]; exact g1 c hc, ?_⟩
        have st := zFw_step (J := zJ W cl) hn8 hdiv hmod hm (by rw [hdm]; exact g2)
        rw [hdm] at st
        exact st
      · intro k' N' ⟨g1, g2⟩
        have ew : w32 ((n : Int) * (n : Int)) = ((n * n : Nat) : Int) := by
          rw [← Int.natCast_mul, w32_eq (by omega) (by omega)]
        show zS (lm_layWays_c73 (lm_layWays_c66 k) (k' + 1) (n : Int) (m : Int) ((n * n : Nat) : Int) N') Q
        rw [lm_layWays_c73, ew]
        refine zS_ie (by omega) ?_
        rw [w1 (by omega)]
        refine kk N' ⟨g1, fun i j hi hj => ?_⟩
        obtain ⟨a0, a1, a2, a3, a4⟩ := g2 i j hi hj
        exact ⟨a0, a1, a2, a4 (pair_lt hi hj), fun q => by omega⟩
    · intro k N ⟨f1, f2⟩
      show zS (lm_layWays_c66 (k + 1) (n : Int) (n : Int) N) Q
      rw [lm_layWays_c66]
      refine zS_ie (by omega) ?_
      refine zS_r (hQ _ ⟨f1, fun i j hi hj => ?_⟩)
      obtain ⟨a0, a1, a2, a3, _⟩ := f2 i j hi hj
      refine ⟨a0, a1, a2, fun l hl => ?_⟩
      obtain ⟨_, l', hl2, hp⟩ := zR_Pw (n := n) hi (fun c b hcb => by have q := zJ_lt hw hcb; omega) l j hl
      have := a3 l' hp
      omega
end ZWY
