/-! The invariant at the start: what it needs. -/
theorem zInv_gen {zM0 : Nat → Nat → Int}
    (zM0_107 : zM0 107 0 = 0 ∧ zM0 107 1 = 0 ∧ zM0 107 2 = 0 ∧ zM0 107 3 = 0 ∧ zM0 107 4 = 0 ∧ zM0 107 5 = 0 ∧ zM0 107 6 = 0 ∧ zM0 107 7 = 0 ∧ zM0 107 8 = 0 ∧ zM0 107 9 = 0)
    (zM0_3 : zM0 3 0 = 0 ∧ zM0 3 1 = 0 ∧ zM0 3 2 = 0 ∧ zM0 3 3 = 0 ∧ zM0 3 4 = 0 ∧ zM0 3 5 = 0 ∧ zM0 3 6 = 0 ∧ zM0 3 7 = 0 ∧ zM0 3 8 = 0)
    (zM0_8 : ∀ i : Nat, i < 8 → zM0 6 i = 0 ∧ zM0 31 i = 0) (zM0_28 : ∀ i : Nat, i < 100 → zM0 28 i = -1) (zM0_4 : ∀ i : Nat, i < 4 → zM0 98 i = -1 ∧ zM0 126 i = -1) (zM0_i : ∀ i : Nat, i < 3 → zM0 109 i = 0 ∧ zM0 (46 + 17 * i) 0 = 0)
    (zM0_m : zM0 23 0 = 0 ∧ zM0 23 1 = 0 ∧ zM0 29 8 = 0 ∧ zM0 29 9 = 0 ∧ zM0 29 10 = 0 ∧ zM0 29 11 = -1 ∧ zM0 36 0 = 0 ∧ zM0 1 1 = 0 ∧ zM0 1 2 = 0 ∧ zM0 1 3 = -1 ∧ zM0 106 5 = 0 ∧ zM0 106 12 = 0 ∧ zM0 106 13 = -1) : zInv (zM0 107) zM0 := by
  obtain ⟨w0, w1, w2, w3, w4, w5, w6, w7, w8, w9⟩ := zM0_107
  obtain ⟨t0, t1, t2, t3, t4, t5, t6, t7, t8⟩ := zM0_3
  obtain ⟨m1, m2, m3, m4, m5, m6, m7, m8, m9, m10, m11, m12, m13⟩ := zM0_m
  have hw : wOk (zM0 107) := by
    unfold wOk
    rw [w0, w1, w2, w3, w4, w5, w6, w7, w8, w9]
    refine ⟨by omega, by omega, by omega, by omega, by omega, by omega, by omega, by omega, by omega, by omega, fun _ => by omega, fun _ => by omega, fun k hk => absurd hk (Nat.not_lt_zero k), fun k hk => absurd hk (Nat.not_lt_zero k), fun k hk => absurd hk (Nat.not_lt_zero k), fun k hk => absurd hk (Nat.not_lt_zero k), fun k hk => absurd hk (Nat.not_lt_zero k)⟩
  have ht : zTold 3 zM0 (zM0 107) := by
    unfold zTold
    rw [w0, w1, w2, w3, w4, w6, w7, w9, t0, t1, t2, t3, t4, t5, t6, t7, t8, w5]
    refine ⟨rfl, rfl, rfl, rfl, rfl, rfl, rfl, rfl, rfl, fun k hk => absurd hk (Nat.not_lt_zero k), fun x hx => ?_, fun k hk => absurd hk (Nat.not_lt_zero k), fun k hk => absurd hk (Nat.not_lt_zero k)⟩
    unfold wfd
    rw [w5]
    exact (zM0_8 x hx).1
  have hc : wcls (zM0 107) = fun _ => false := by
    unfold wcls
    rw [w8]
    rfl
  have hs : wsent (zM0 107) = fun _ _ => -1 := by
    unfold wsent
    rw [w8]
    rfl
  have hj : ∀ (a b : Int), wjn (zM0 107) (wcls (zM0 107)) a b = false := fun a b => by
    unfold wjn
    rw [w4]
    rfl
  have ha : zActs 23 zM0 (zM0 107) := by
    refine ⟨m1.trans w8.symm, ?_, fun i hi => ?_, fun p n hp hn => ?_⟩
    · rw [m2, hc]; exact zset_0
    · rw [w8] at hi
      exact absurd hi (Nat.not_lt_zero i)
    · rw [hs]
      exact zM0_28 _ (by omega)
  have hnear : ∀ a : Nat, a < 8 → zset 8 (zM0 31 a) (fun b => wjn (zM0 107) (wcls (zM0 107)) (a : Int) (b : Int)) := fun a ha => by
    rw [(zM0_8 a ha).2]
    exact zset_cg zset_0 (fun k _ => (hj _ _).symm)
  have hI : zcI 29 zM0 (zM0 107) (fun p => zM0 107 (42 + 12 * p)) (fun p => zM0 107 (42 + 12 * p + 1)) (fun _ => false) (wcls (zM0 107)) (zM0 107 2) (-1) := by
    refine ⟨rfl, hw, ht, ha.2.2.2, ?_, ?_, ?_, m6, fun p hp => ?_⟩
    · rw [m3, w2]
    · rw [m4, hc]; exact zset_0
    · rw [m5]; exact zset_0
    · rw [w6] at hp
      exact absurd hp (Nat.not_lt_zero p)
  obtain ⟨he, _⟩ := zc_env (C := zM0) (rn := fun _ => false) hI (fun _ _ => rfl) hnear
  refine ⟨rfl, hw, ht, ha, ⟨he, fun n hn => ⟨fun p hp => ?_, ?_⟩, fun p hp => ?_, hnear⟩, ?_, fun s hs => Or.inl (zM0_4 s hs), fun k hk => ⟨?_, Or.inl (zM0_i k hk).1⟩⟩
  · have q : p < (zM0 107 6).toNat := hp
    rw [w6] at q
    exact absurd q (Nat.not_lt_zero p)
  · rw [w1] at hn
    have e : n = 0 := Nat.le_zero.mp hn
    subst e
    show zM0 36 0 = zst (zM0 107 7).toNat _
    rw [m7, w7]
    rfl
  · rw [w6] at hp
    exact absurd hp (Nat.not_lt_zero p)
  · unfold zTp
    rw [m8, m9, m10, m11, m12, m13]
    exact ⟨by omega, by omega, rfl, fun i hi => absurd hi (Nat.not_lt_zero i), rfl, rfl⟩
  · rw [(zM0_i k hk).1, (zM0_i k hk).2]
theorem zInv_0 : zInv (zM0 107) zM0 := zInv_gen zM0_107 zM0_3 zM0_8 zM0_28 zM0_4 zM0_i zM0_m
