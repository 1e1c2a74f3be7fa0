/-! Days drawn. -/
def zLcg (y : Int) : Int := zremL (w64 (w64 (1103515245 * y) + 12345)) 2147483648
def zLc (s : Int) : Nat → Int
  | 0 => s
  | n + 1 => zLcg (zLc s n)
def zWet (y : Int) : Int := zremL (zdivL y 65536) 10
def zRf (W : Nat → Int) (s : Int) (n : Nat) : Bool := decide (zWet (zLc s (n + 1)) < W 3)
def zRn (W : Nat → Int) (s : Int) : Nat → Bool := fun k => decide (k < (W 1).toNat) && zRf W s k
def zEr (W : Nat → Int) (rn : Nat → Bool) : zE := zEd W (whm W) (wik W) (-1) zno (wcls W) rn (W 2)
theorem lX_rainDrawn_s {x y2 y4 y5 : Int} {n : Nat} {M : Nat → Nat → Int} : lX_rainDrawn_c9 x M (n + 1) y2 y4 y5 = if y5 < M 3 1 then (if zWet (zLcg y2) < M 3 3 then lX_rainDrawn_c9 x M n (zLcg y2) (zor y4 (zshl 1 y5)) (w32 (y5 + 1)) else lX_rainDrawn_c9 x M n (zLcg y2) y4 (w32 (y5 + 1))) else some y4 := by
  rw [lX_rainDrawn_c9]
  rfl
theorem lm_goDrawn_s {x y3 y5 : Int} {n : Nat} {M : Nat → Nat → Int} : lm_goDrawn_c9 x (n + 1) y3 y5 M = (lm_last M).bind (fun v12 => if y5 < v12 then (rdI 107 3 M).bind (fun v51 => if zWet (zLcg y3) < v51 then (some (zup M 106 17 (zor (M 106 17) (zshl 1 y5)))).bind (fun M66 => lm_goDrawn_c9 x n (zLcg y3) (w32 (y5 + 1)) M66) else (some (zup M 106 17 (zor (M 106 17) 0))).bind (fun M66 => lm_goDrawn_c9 x n (zLcg y3) (w32 (y5 + 1)) M66)) else (lm_goAll M).bind (fun M76 => some M76)) := by
  rw [lm_goDrawn_c9]
  rfl
section ZDW
variable {W H I : Nat → Int} {M M1 : Nat → Nat → Int} {L dug x : Int} {st cl rn : Nat → Bool} {α : Type} {Q : α → Prop}
theorem xRain (h : zInv W M) : lX_rainDrawn x M = some (zst (W 1).toNat (zRf W x)) := by
  obtain ⟨b1, b2, b3, b4, b5, b6, b7, b8⟩ := xB h
  refine zS_eq ?_
  unfold lX_rainDrawn
  refine loopI (fun m i (s : Int × Int) => lX_rainDrawn_c9 x M m s.1 s.2 (i : Int)) (fun i s => s.1 = zLc x i ∧ s.2 = zst i (zRf W x)) (a0 := (x, 0)) 0 (W 1).toNat (by omega) ⟨rfl, rfl⟩ ?_ ?_ zN (zN_gt (by omega))
  · intro m i s _ hi ⟨hs1, hs2⟩ k
    obtain ⟨s1, s2⟩ := s
    have hs1 : s1 = zLc x i := hs1
    have hs2 : s2 = zst i (zRf W x) := hs2
    have e3 : M 3 3 = W 3 := h.2.2.1.2.2.2.1
    show zS (lX_rainDrawn_c9 x M (m + 1) s1 s2 (i : Int)) _
    rw [lX_rainDrawn_s]
    refine zS_it (by omega) ?_
    rw [w1 (by omega), e3, hs1]
    have e : zst (i + 1) (zRf W x) = if zRf W x i = true then zor (zst i (zRf W x)) (zshl 1 (i : Int)) else zst i (zRf W x) := rfl
    by_cases hz : zWet (zLcg (zLc x i)) < W 3
    · refine zS_it hz ?_
      have hr : zRf W x i = true := decide_eq_true hz
      refine k (zLcg (zLc x i), zor s2 (zshl 1 (i : Int))) ⟨rfl, ?_⟩
      show zor s2 (zshl 1 (i : Int)) = _
      rw [e, if_pos hr, hs2]
    · refine zS_ie hz ?_
      have hr : zRf W x i = false := decide_eq_false hz
      refine k (zLcg (zLc x i), s2) ⟨rfl, ?_⟩
      show s2 = _
      rw [e, if_neg (by rw [hr]; decide), hs2]
  · intro m s ⟨_, hs2⟩
    show zS (lX_rainDrawn_c9 x M (m + 1) s.1 s.2 ((W 1).toNat : Int)) _
    rw [lX_rainDrawn_s]
    refine zS_ie (by omega) ?_
    exact zS_r hs2
theorem zRn_set (hw : wOk W) : zset 20 (zst (W 1).toNat (zRf W x)) (zRn W x) := by
  have h1 := hw.2.1
  exact zset_zst (by omega) (by omega)
theorem xWet (h : zInv W M) : zS (lX_signedInRain (zst (W 1).toNat (zRf W x)) M) (fun r => r.1 = zst (W 7).toNat (fun k => decide (zdA (zdD (zEr W (zRn W x)) (W 1).toNat) k ≠ -1)) ∧ zKeep M r.2) := by
  obtain ⟨b1, b2, b3, b4, b5, b6, b7, b8⟩ := xB h
  unfold lX_signedInRain
  refine xTr h (fun M1 k1 i1 => ?_)
  refine xRun k1 i1 (zRn_set h.2.1) (fun r r1 r2 r3 _ => ?_)
  have e31 : r.2 3 1 = ((W 1).toNat : Int) := by rw [zKeep_c r2 3 (by omega)]; exact b3
  rw [e31]
  refine zS_b (rdI_n sh_44 (by omega)) ?_
  exact zS_r ⟨(r3 (W 1).toNat (Nat.le_refl _)).2, r2⟩
theorem mDrawn (h : zInv W M) : zS (lm_goDrawn x M) (fun M2 => zKeep M M2 ∧ M2 107 = W ∧ M2 106 17 = zst (W 1).toNat (zRf W x) ∧ zmT (W 1).toNat (zEr W (zRn W x)) M2) := by
  obtain ⟨u0, u1, _, _, u4, _, u6, u7, _⟩ := h.2.1
  have hw := h.2.1
  unfold lm_goDrawn
  refine zS_m (lm_asItIs_ok hw h.1) ?_
  intro M1 hA
  have hS := zAs_S hw h.1 hA
  have h17 : M1 106 17 = 0 := hA.1.2.2.2.1
  refine loopI (fun m i (s : Int × (Nat → Nat → Int)) => lm_goDrawn_c9 x m s.1 (i : Int) s.2) (fun i s => s.1 = zLc x i ∧ s.2 106 17 = zst i (zRf W x) ∧ zKeep M s.2 ∧ (∃ f, zmS s.2 W (whm W) (wik W) (wfdg W (-1)) zno (wcls W) f (W 2))) (a0 := (x, M1)) 0 (W 1).toNat (by omega) ⟨rfl, h17, zAs_keep hA, _, hS⟩ ?_ ?_ zN (zN_gt (by omega))
  · intro m i s _ hi ⟨hs1, hs2, hK, f, hS⟩ k
    obtain ⟨s1, M2⟩ := s
    have hs1 : s1 = zLc x i := hs1
    have hs2 : M2 106 17 = zst i (zRf W x) := hs2
    have hK : zKeep M M2 := hK
    have hS : zmS M2 W (whm W) (wik W) (wfdg W (-1)) zno (wcls W) f (W 2) := hS
    show zS (lm_goDrawn_c9 x (m + 1) s1 (i : Int) M2) _
    rw [lm_goDrawn_s]
    refine zS_b lm_last_eq ?_
    refine zS_it (by rw [hS.1]; omega) ?_
    refine zS_b (w107 (by omega) (by omega)) ?_
    rw [w1 (by omega), hS.1, hs1]
    have e := zor_st (n := i) (f := zRf W x) (by omega)
    have hse : ∀ v, v = zst (i + 1) (zRf W x) → ∃ f, zmS (zup M2 106 17 v) W (whm W) (wik W) (wfdg W (-1)) zno (wcls W) f (W 2) := fun v hv => by
      rw [hv]
      exact ⟨_, zmS_f hS (Or.inr ⟨rfl, zset_zst (by omega) (by omega), rfl⟩)⟩
    by_cases hz : zWet (zLcg (zLc x i)) < W 3
    · refine zS_it hz ?_
      refine zS_b rfl ?_
      have ev : zor (M2 106 17) (zshl 1 (i : Int)) = zst (i + 1) (zRf W x) := by
        rw [← e, if_pos (show zRf W x i = true from decide_eq_true hz), hs2]
      exact k (zLcg (zLc x i), zup M2 106 17 (zor (M2 106 17) (zshl 1 (i : Int)))) ⟨rfl, by show zup M2 106 17 _ 106 17 = _; rw [zup_s]; exact ev, zKeep_t hK (zKeep_f (by omega)), hse _ ev⟩
    · refine zS_ie hz ?_
      refine zS_b rfl ?_
      have ev : zor (M2 106 17) 0 = zst (i + 1) (zRf W x) := by
        rw [← e, if_neg (by rw [show zRf W x i = false from decide_eq_false hz]; decide), hs2]
      exact k (zLcg (zLc x i), zup M2 106 17 (zor (M2 106 17) 0)) ⟨rfl, by show zup M2 106 17 _ 106 17 = _; rw [zup_s]; exact ev, zKeep_t hK (zKeep_f (by omega)), hse _ ev⟩
  · intro m s ⟨hs1, hs2, hK, f, hS⟩
    show zS (lm_goDrawn_c9 x (m + 1) s.1 ((W 1).toNat : Int) s.2) _
    rw [lm_goDrawn_s]
    refine zS_b lm_last_eq ?_
    refine zS_ie (by rw [hS.1]; omega) ?_
    have hS2 : zmS s.2 W (whm W) (wik W) (wfdg W (-1)) zno (wcls W) (zRn W x) (W 2) := by
      obtain ⟨q1, q2, q3, q4, q5, q6, q7, q8, q9⟩ := hS
      exact ⟨q1, q2, q3, q4, q5, q6, q7, by rw [hs2]; exact zRn_set hw, q9⟩
    refine mAll hS2 (fun M3 g1 g2 => ?_)
    exact zS_r ⟨zKeep_t hK (zmg_keep g1), (g1 107 (by omega)).trans hS.1, by rw [g1 106 (by omega)]; exact hs2, g2⟩
theorem xSeed : lX_isSeed x M = some (zbo (0 ≤ x ∧ x ≤ 2000000000)) := by
  unfold lX_isSeed zbo
  by_cases h : x < 0
  · rw [if_pos h, if_neg (by omega)]
  · rw [if_neg h]
    by_cases h2 : 2000000000 < x
    · rw [if_pos h2, if_neg (by omega)]
    · rw [if_neg h2, if_pos (by omega)]
theorem mSeed : lm_isSeed x M = some (zbo (0 ≤ x ∧ x ≤ 2000000000)) := by
  refine zS_eq ?_
  unfold lm_isSeed
  refine zS_b lm_in_eq ?_
  rw [if_pos zbo_01]
  exact zS_r rfl
theorem zEr_ok (hw : wOk W) : zeOk (zEr W rn) := by
  have hw0 := hw
  obtain ⟨h0, h1, _, _, h4, h5, h6, h7, _, _, _, _, hstr, hwel, hnam, hcon, _⟩ := hw
  exact zeW_ok hw0 (fun p hp => by have := whm_b hw0 hp; omega) (fun p hp => by have := wik_b hw0 hp; omega) (fun x _ _ => wfdg_b hw0)
theorem q_drawn {y : Int} (h : zInv W M) : zQ2 M (lX_drawn x y) (lm_drawn x y) := by
  obtain ⟨b1, b2, b3, b4, b5, b6, b7, b8⟩ := xB h
  obtain ⟨u0, u1, _, _, u4, _, u6, u7, _⟩ := h.2.1
  refine ⟨if (0 < W 9) ∧ (0 ≤ x ∧ x ≤ 2000000000) ∧ (0 ≤ y ∧ y ≤ 1) then (if y = 0 then zst (W 1).toNat (zRf W x) else zst (W 7).toNat (fun k => decide (zdA (zdD (zEr W (zRn W x)) (W 1).toNat) k ≠ -1))) else -2, ?_, fun M' hk => ?_⟩
  · refine zX_g2 (xThere h) (fun c1 => zX_g2 xSeed (fun c2 => ?_) (fun c2 => (if_neg (fun q => c2 q.2.1)).symm)) (fun c1 => (if_neg (fun q => c1 q.1)).symm)
    by_cases h1 : y < 0
    · rw [if_pos h1]
      exact zS_r ⟨(if_neg (fun q => by omega)).symm, zKeep_r⟩
    · rw [if_neg h1]
      by_cases h2 : 1 < y
      · rw [if_pos h2]
        exact zS_r ⟨(if_neg (fun q => by omega)).symm, zKeep_r⟩
      · rw [if_neg h2, if_pos ⟨c1, c2, by omega⟩]
        refine zS_b (xRain h) ?_
        by_cases hy : y = 0
        · rw [if_pos hy, if_pos hy]
          exact zS_r ⟨rfl, zKeep_r⟩
        · rw [if_neg hy, if_neg hy]
          exact zS_m (xWet h) (fun r hr => zS_r hr)
  · have h' := zInv_keep h hk
    refine zM_g (by rw [lm_isState_eq, h'.1]) zKeep_r (fun c1 => ?_) (fun c1 => (if_neg (fun q => c1 q.1)).symm)
    refine zM_g mSeed zKeep_r (fun c2 => ?_) (fun c2 => (if_neg (fun q => c2 q.2.1)).symm)
    refine zM_g lm_in_eq zKeep_r (fun c3 => ?_) (fun c3 => (if_neg (fun q => c3 q.2.2)).symm)
    rw [if_pos ⟨c1, c2, c3⟩]
    refine zS_m (mDrawn h') ?_
    intro M2 ⟨d1, d2, d3, d4⟩
    by_cases hy : y = 0
    · rw [if_pos hy, if_pos hy]
      exact zS_r ⟨d3, d1⟩
    · rw [if_neg hy, if_neg hy]
      refine zS_b lm_last_eq ?_
      have eL : M2 107 1 = ((W 1).toNat : Int) := by rw [d2]; omega
      rw [eL]
      refine zS_b (lm_signsTo_T (zEr_ok h.2.1) (by rw [d2]; show W 7 = ((W 7).toNat : Int); omega) b4 d4 (Nat.le_refl _)) ?_
      exact zS_r ⟨rfl, d1⟩
def zLk (W : Nat → Int) (x : Int) (k i : Nat) : Int := if zdA (zdD (zEr W (zRn W (x + (i : Int)))) (W 1).toNat) k = -1 then 0 else 1
theorem zLk_b {k : Nat} : ∀ n, 0 ≤ zsum n (zLk W x k) ∧ zsum n (zLk W x k) ≤ n := zsum01 (fun i => by
  unfold zLk
  by_cases q : zdA (zdD (zEr W (zRn W (x + (i : Int)))) (W 1).toNat) k = -1
  · exact Or.inl (if_pos q)
  · exact Or.inr (if_neg q))
theorem q_luck {n c : Int} (h : zInv W M) : zQ2 M (lX_luck x n c) (lm_luck x n c) := by
  obtain ⟨b1, b2, b3, b4, b5, b6, b7, b8⟩ := xB h
  obtain ⟨u0, u1, _, _, u4, _, u6, u7, _⟩ := h.2.1
  refine ⟨if (0 ≤ c ∧ c < W 7) ∧ (0 ≤ x ∧ x ≤ 2000000000) ∧ (1 ≤ n ∧ n ≤ 20) then zsum n.toNat (zLk W x c.toNat) else -2, ?_, fun M' hk => ?_⟩
  · refine zX_g2 (xCont h) (fun c1 => zX_g2 xSeed (fun c2 => ?_) (fun c2 => (if_neg (fun q => c2 q.2.1)).symm)) (fun c1 => (if_neg (fun q => c1 q.1)).symm)
    by_cases h1 : n < 1
    · rw [if_pos h1]
      exact zS_r ⟨(if_neg (fun q => by omega)).symm, zKeep_r⟩
    · rw [if_neg h1]
      by_cases h2 : 20 < n
      · rw [if_pos h2]
        exact zS_r ⟨(if_neg (fun q => by omega)).symm, zKeep_r⟩
      · rw [if_neg h2, if_pos ⟨c1, c2, by omega⟩]
        obtain ⟨N, rfl⟩ : ∃ p : Nat, n = (p : Int) := ⟨n.toNat, by omega⟩
        obtain ⟨K, rfl⟩ : ∃ p : Nat, c = (p : Int) := ⟨c.toNat, by omega⟩
        rw [Int.toNat_natCast, Int.toNat_natCast]
        refine loopI (fun m i (s : Int × (Nat → Nat → Int)) => lX_luck_c38 x (N : Int) (K : Int) m s.1 (i : Int) s.2) (fun i s => s.1 = zsum i (zLk W x K) ∧ zKeep M s.2) (a0 := (0, M)) 0 N (by omega) ⟨rfl, zKeep_r⟩ ?_ ?_ zN (zN_gt (by omega))
        · intro m i s _ hi ⟨hs, hK⟩ k
          obtain ⟨s1, M1⟩ := s
          have hs : s1 = zsum i (zLk W x K) := hs
          have hb := zLk_b (W := W) (x := x) (k := K) i
          have h' := zInv_keep h hK
          show zS (lX_luck_c38 x (N : Int) (K : Int) (m + 1) s1 (i : Int) M1) _
          rw [lX_luck_c38]
          refine zS_it (by omega) ?_
          rw [w1 (by omega), w32_eq (x := x + (i : Int)) (by omega) (by omega)]
          refine zS_b (xRain h') ?_
          refine zS_m (xWet h') (fun r hr => ?_)
          obtain ⟨A, eA, hA, hAb⟩ := zst_bits (f := fun k => decide (zdA (zdD (zEr W (zRn W (x + (i : Int)))) (W 1).toNat) k ≠ -1)) (show (W 7).toNat ≤ 30 by omega)
          have hpw : 2 ^ (W 7).toNat ≤ 2 ^ 6 := Nat.pow_le_pow_right (by decide) b6
          rw [hr.1, eA, zbit_nat (by omega) (by omega), hAb, decide_eq_true (show K < (W 7).toNat by omega), Bool.true_and]
          have e : zsum (i + 1) (zLk W x K) = zsum i (zLk W x K) + zLk W x K i := rfl
          have e2 : (if decide (zdA (zdD (zEr W (zRn W (x + (i : Int)))) (W 1).toNat) K ≠ -1) = true then (1 : Int) else 0) = zLk W x K i := by
            unfold zLk
            by_cases q : zdA (zdD (zEr W (zRn W (x + (i : Int)))) (W 1).toNat) K = -1
            · rw [if_pos q, if_neg (by simp [q])]
            · rw [if_neg q, if_pos (decide_eq_true q)]
          have hb2 := zLk_b (W := W) (x := x) (k := K) (i + 1)
          rw [e2, hs, w32_eq (by omega) (by omega)]
          exact k (_, _) ⟨e.symm, zKeep_t hK hr.2⟩
        · intro m s ⟨hs, hK⟩
          show zS (lX_luck_c38 x (N : Int) (K : Int) (m + 1) s.1 (N : Int) s.2) _
          rw [lX_luck_c38]
          refine zS_ie (by omega) ?_
          exact zS_r ⟨hs, hK⟩
  · have h' := zInv_keep h hk
    refine zM_g mSeed zKeep_r (fun c2 => ?_) (fun c2 => (if_neg (fun q => c2 q.2.1)).symm)
    refine zM_g lm_in_eq zKeep_r (fun c3 => ?_) (fun c3 => (if_neg (fun q => c3 q.2.2)).symm)
    refine zM_g (mCont h'.2.1 h'.1) zKeep_r (fun c1 => ?_) (fun c1 => (if_neg (fun q => c1 q.1)).symm)
    rw [if_pos ⟨c1, c2, c3⟩]
    obtain ⟨N, rfl⟩ : ∃ p : Nat, n = (p : Int) := ⟨n.toNat, by omega⟩
    obtain ⟨K, rfl⟩ : ∃ p : Nat, c = (p : Int) := ⟨c.toNat, by omega⟩
    rw [Int.toNat_natCast, Int.toNat_natCast]
    refine loopI (fun m i (s : Int × (Nat → Nat → Int)) => lm_luck_c36 x (N : Int) (K : Int) m s.1 (i : Int) s.2) (fun i s => s.1 = zsum i (zLk W x K) ∧ zKeep M' s.2) (a0 := (0, M')) 0 N (by omega) ⟨rfl, zKeep_r⟩ ?_ ?_ zN (zN_gt (by omega))
    · intro m i s _ hi ⟨hs, hK⟩ k
      obtain ⟨s1, M1⟩ := s
      have hs : s1 = zsum i (zLk W x K) := hs
      have hb := zLk_b (W := W) (x := x) (k := K) i
      have h2 := zInv_keep h' hK
      have e : zsum (i + 1) (zLk W x K) = zsum i (zLk W x K) + zLk W x K i := rfl
      show zS (lm_luck_c36 x (N : Int) (K : Int) (m + 1) s1 (i : Int) M1) _
      rw [lm_luck_c36]
      refine zS_it (by omega) ?_
      rw [w1 (by omega), w64_eq (x := x + (i : Int)) (by omega) (by omega)]
      refine zS_m (mDrawn h2) ?_
      intro M2 ⟨d1, d2, d3, d4⟩
      refine zS_b (rdI_n sh_119 (by omega)) ?_
      rw [(d4.2.1 K (by omega)).1, hs]
      by_cases q : zdA (zdD (zEr W (zRn W (x + (i : Int)))) (W 1).toNat) K = -1
      · rw [if_pos q, w32_eq (by omega) (by omega)]
        refine k (_, _) ⟨?_, zKeep_t hK d1⟩
        rw [e]
        unfold zLk
        rw [if_pos q]
      · rw [if_neg q, w32_eq (by omega) (by omega)]
        refine k (_, _) ⟨?_, zKeep_t hK d1⟩
        rw [e]
        unfold zLk
        rw [if_neg q]
    · intro m s ⟨hs, hK⟩
      show zS (lm_luck_c36 x (N : Int) (K : Int) (m + 1) s.1 (N : Int) s.2) _
      rw [lm_luck_c36]
      refine zS_ie (by omega) ?_
      exact zS_r ⟨hs, hK⟩
end ZDW
