/-! What is told. -/
def zQ0 (f g : Option Int) : Prop := ∃ V, zS f (fun v => v = V) ∧ zS g (fun v => v = V)
section ZTO
variable {W : Nat → Int} {M : Nat → Nat → Int} {x y : Int}
theorem q_name (h : zInv W M) : zQ0 (lX_name x y M) (lm_name x y M) := by
  obtain ⟨u0, u1, _, _, u4, _, u6, u7, _⟩ := h.2.1
  have tn := h.2.2.1.2.2.2.2.2.2.2.2.2.2.2.1
  refine ⟨if (0 ≤ x ∧ x < W 6) ∧ (0 ≤ y ∧ y ≤ 3) then W (42 + 12 * x.toNat + y.toNat) else -2, ?_, ?_⟩
  · refine zX_g (xName h) (fun c1 => ?_) (fun c1 => (if_neg (fun q => c1 q.1)).symm)
    obtain ⟨p, rfl⟩ : ∃ p : Nat, x = (p : Int) := ⟨x.toNat, by omega⟩
    rw [Int.toNat_natCast]
    obtain ⟨t1, t2, t3, t4, _⟩ := tn p (by omega)
    by_cases y0 : y = 0
    · rw [if_pos y0, if_pos ⟨c1, by omega⟩, y0]
      refine zS_b (rdI_n sh_7 (by omega)) ?_
      exact zS_r t1
    · rw [if_neg y0]
      by_cases y1 : y = 1
      · rw [if_pos y1, if_pos ⟨c1, by omega⟩, y1]
        refine zS_b (rdI_n sh_8 (by omega)) ?_
        exact zS_r t2
      · rw [if_neg y1]
        by_cases y2 : y = 2
        · rw [if_pos y2, if_pos ⟨c1, by omega⟩, y2]
          refine zS_b (rdI_n sh_9 (by omega)) ?_
          exact zS_r t3
        · rw [if_neg y2]
          by_cases y3 : y = 3
          · rw [if_pos y3, if_pos ⟨c1, by omega⟩, y3]
            refine zS_b (rdI_n sh_10 (by omega)) ?_
            exact zS_r t4
          · rw [if_neg y3, if_neg (by omega)]
            exact zS_r rfl
  · refine zX_g (mName h.2.1 h.1) (fun c1 => zX_g lm_in_eq (fun c2 => ?_) (fun c2 => (if_neg (fun q => c2 q.2)).symm)) (fun c1 => (if_neg (fun q => c1 q.1)).symm)
    rw [if_pos ⟨c1, c2⟩]
    obtain ⟨p, rfl⟩ : ∃ p : Nat, x = (p : Int) := ⟨x.toNat, by omega⟩
    obtain ⟨w, rfl⟩ : ∃ p : Nat, y = (p : Int) := ⟨y.toNat, by omega⟩
    refine zS_b (lm_of_eq (by omega) (by omega)) ?_
    exact zS_r (by rw [h.1]; rfl)
theorem q_walk (h : zInv W M) : zQ0 (lX_walk x y M) (lm_walk x y M) := by
  obtain ⟨u0, u1, _, _, u4, _, u6, u7, _, _, _, _, _, _, unam, _⟩ := h.2.1
  have tn := h.2.2.1.2.2.2.2.2.2.2.2.2.2.2.1
  refine ⟨if (0 ≤ x ∧ x < W 6) ∧ (0 ≤ y ∧ y < W (42 + 12 * x.toNat + 3)) then W (42 + 12 * x.toNat + 4 + y.toNat) else -2, ?_, ?_⟩
  · refine zX_g (xName h) (fun c1 => ?_) (fun c1 => (if_neg (fun q => c1 q.1)).symm)
    obtain ⟨p, rfl⟩ : ∃ p : Nat, x = (p : Int) := ⟨x.toNat, by omega⟩
    rw [Int.toNat_natCast]
    obtain ⟨t1, t2, t3, t4, t5⟩ := tn p (by omega)
    have un := unam p (by omega)
    by_cases y0 : y < 0
    · rw [if_pos y0, if_neg (by omega)]
      exact zS_r rfl
    · rw [if_neg y0]
      refine zS_b (rdI_n sh_10 (by omega)) ?_
      have e10 : M 10 p = W (42 + 12 * p + 3) := t4
      rw [e10]
      by_cases y1 : y < W (42 + 12 * p + 3)
      · rw [if_pos y1, if_pos ⟨c1, by omega, y1⟩]
        obtain ⟨i, rfl⟩ : ∃ p : Nat, y = (p : Int) := ⟨y.toNat, by omega⟩
        have e : w32 (w32 ((p : Int) * 8) + (i : Int)) = ((8 * p + i : Nat) : Int) := by simp (disch := omega) only [w32_eq]; omega
        rw [e]
        refine zS_b (rdI_n sh_11 (by omega)) ?_
        exact zS_r (t5 i (by omega))
      · rw [if_neg y1, if_neg (by omega)]
        exact zS_r rfl
  · refine zX_g (mName h.2.1 h.1) (fun c1 => ?_) (fun c1 => (if_neg (fun q => c1 q.1)).symm)
    obtain ⟨p, rfl⟩ : ∃ p : Nat, x = (p : Int) := ⟨x.toNat, by omega⟩
    rw [Int.toNat_natCast]
    have un := unam p (by omega)
    refine zS_b (lm_of_eq (w := 3) (by omega) (by omega)) ?_
    rw [h.1, w32_eq (by omega) (by omega)]
    refine zX_g lm_in_eq (fun c2 => ?_) (fun c2 => (if_neg (fun q => c2 (by omega))).symm)
    rw [if_pos ⟨c1, by omega⟩]
    obtain ⟨i, rfl⟩ : ∃ p : Nat, y = (p : Int) := ⟨y.toNat, by omega⟩
    have e : w32 (4 + (i : Int)) = ((4 + i : Nat) : Int) := by simp (disch := omega) only [w32_eq]; omega
    rw [e]
    refine zS_b (lm_of_eq (by omega) (by omega)) ?_
    refine zS_r ?_
    rw [h.1]
    show W (42 + 12 * p + (4 + i)) = W (42 + 12 * p + 4 + i)
    congr 1
    omega
theorem q_contract (h : zInv W M) : zQ0 (lX_contract x M) (lm_contract x M) := by
  obtain ⟨u0, u1, _, _, u4, _, u6, u7, _⟩ := h.2.1
  have tc := h.2.2.1.2.2.2.2.2.2.2.2.2.2.2.2
  refine ⟨if (0 ≤ x ∧ x < W 7) then W (102 + x.toNat) else -2, ?_, ?_⟩
  · refine zX_g (xCont h) (fun c1 => ?_) (fun c1 => (if_neg c1).symm)
    rw [if_pos c1]
    obtain ⟨p, rfl⟩ : ∃ p : Nat, x = (p : Int) := ⟨x.toNat, by omega⟩
    refine zS_b (rdI_n sh_12 (by omega)) ?_
    exact zS_r (tc p (by omega))
  · refine zX_g (mCont h.2.1 h.1) (fun c1 => ?_) (fun c1 => (if_neg c1).symm)
    rw [if_pos c1]
    obtain ⟨p, rfl⟩ : ∃ p : Nat, x = (p : Int) := ⟨x.toNat, by omega⟩
    refine zS_b (lm_namesOf_eq (by omega)) ?_
    exact zS_r (by rw [h.1]; rfl)
theorem q_well (h : zInv W M) : zQ1 M (lX_well x M) (lm_well x M) := by
  obtain ⟨u0, u1, _, _, u4, _, u6, u7, _⟩ := h.2.1
  have tw := h.2.2.1.2.2.2.2.2.2.2.2.2.2.1
  refine ⟨if (0 ≤ x ∧ x < W 0) then wfd W x else -2, ?_, ?_⟩
  · refine zX_g (xCorner h) (fun c1 => ?_) (fun c1 => (if_neg c1).symm)
    rw [if_pos c1]
    obtain ⟨p, rfl⟩ : ∃ p : Nat, x = (p : Int) := ⟨x.toNat, by omega⟩
    refine zS_b (rdI_n sh_6 (by omega)) ?_
    exact zS_r (tw p (by omega))
  · unfold lm_well
    refine zS_m (lm_asItIs_ok h.2.1 h.1) ?_
    intro M1 hA
    have hS := zAs_S h.2.1 h.1 hA
    refine zM_g (mCorner h.2.1 hS.1) (zAs_keep hA) (fun c1 => ?_) (fun c1 => (if_neg c1).symm)
    rw [if_pos c1]
    obtain ⟨p, rfl⟩ : ∃ p : Nat, x = (p : Int) := ⟨x.toNat, by omega⟩
    refine zS_b (rdI_n sh_115 (by omega)) ?_
    exact zS_r ⟨hA.2.2.1.2 p (by omega), zAs_keep hA⟩
theorem q_street (h : zInv W M) : zQ1 M (lX_street x y M) (lm_street x y M) := by
  obtain ⟨u0, u1, _, _, u4, _, u6, u7, _⟩ := h.2.1
  have ts := h.2.2.1.2.2.2.2.2.2.2.2.2.1
  refine ⟨if (0 ≤ x ∧ x < W 4) ∧ (0 ≤ y ∧ y ≤ 2) then (if y = 2 then (if wcls W x.toNat = true then 1 else 0) else W (10 + 2 * x.toNat + y.toNat)) else -2, ?_, ?_⟩
  · refine zX_g (xStreet h) (fun c1 => ?_) (fun c1 => (if_neg (fun q => c1 q.1)).symm)
    obtain ⟨p, rfl⟩ : ∃ p : Nat, x = (p : Int) := ⟨x.toNat, by omega⟩
    rw [Int.toNat_natCast]
    obtain ⟨t1, t2⟩ := ts p (by omega)
    by_cases y0 : y = 0
    · rw [if_pos y0, if_pos ⟨c1, by omega⟩, if_neg (by omega), y0]
      refine zS_b (rdI_n sh_4 (by omega)) ?_
      exact zS_r t1
    · rw [if_neg y0]
      by_cases y1 : y = 1
      · rw [if_pos y1, if_pos ⟨c1, by omega⟩, if_neg (by omega), y1]
        refine zS_b (rdI_n sh_5 (by omega)) ?_
        exact zS_r t2
      · rw [if_neg y1]
        by_cases y2 : y = 2
        · rw [if_pos y2, if_pos ⟨c1, by omega⟩, if_pos y2]
          exact zS_r (zset_bit h.2.2.2.1.2.1 (by omega) (by omega))
        · rw [if_neg y2, if_neg (by omega)]
          exact zS_r rfl
  · unfold lm_street
    refine zS_m (lm_asItIs_ok h.2.1 h.1) ?_
    intro M1 hA
    have hS := zAs_S h.2.1 h.1 hA
    refine zM_g (mStreet h.2.1 hS.1) (zAs_keep hA) (fun c1 => zM_g lm_in_eq (zAs_keep hA) (fun c2 => ?_) (fun c2 => (if_neg (fun q => c2 q.2)).symm)) (fun c1 => (if_neg (fun q => c1 q.1)).symm)
    rw [if_pos (show (0 ≤ x ∧ x < W 4) ∧ 0 ≤ y ∧ y ≤ 2 from ⟨c1, c2⟩)]
    obtain ⟨p, rfl⟩ : ∃ p : Nat, x = (p : Int) := ⟨x.toNat, by omega⟩
    rw [Int.toNat_natCast]
    by_cases y2 : y = 2
    · rw [if_pos y2, if_pos y2]
      have hb : lm_bit (M1 106 15) (p : Int) M1 = some (if wcls W p = true then 1 else 0) := by
        unfold lm_bit
        rw [zset_bit hS.2.2.2.2.2.1 (by omega) (by omega)]
      refine zS_b hb ?_
      exact zS_r ⟨rfl, zAs_keep hA⟩
    · rw [if_neg y2, if_neg y2]
      obtain ⟨i, rfl⟩ : ∃ p : Nat, y = (p : Int) := ⟨y.toNat, by omega⟩
      have e : w32 (w32 (10 + w32 (2 * (p : Int))) + (i : Int)) = ((10 + 2 * p + i : Nat) : Int) := by simp (disch := omega) only [w32_eq]; omega
      rw [e]
      refine zS_b (rdI_n sh_107 (by omega)) ?_
      exact zS_r ⟨by rw [hS.1]; rfl, zAs_keep hA⟩
def zWth (E : zE) (t : Nat) : Int := zsum (zeC E) (fun k => if (zeP E k &&& (t ^^^ 4294967295)) = 0 then 1 else 0)
theorem zWth_b {E : zE} {t : Nat} (n : Nat) : 0 ≤ zsum n (fun k => if (zeP E k &&& (t ^^^ 4294967295)) = 0 then (1 : Int) else 0) ∧ zsum n (fun k => if (zeP E k &&& (t ^^^ 4294967295)) = 0 then (1 : Int) else 0) ≤ n := zsum01 (fun _ => zb01) n
theorem mWorth {t : Nat} (h : zInv W M) (ht : t < 2147483648) : lm_worthOf (t : Int) M = some (zWth (zE0 W) t) := by
  obtain ⟨u0, u1, _, _, u4, _, u6, u7, _⟩ := h.2.1
  refine zS_eq ?_
  unfold lm_worthOf
  refine loopI (fun m i (a : Int) => lm_worthOf_c4 (t : Int) M m a (i : Int)) (fun i a => a = zsum i (fun k => if (zeP (zE0 W) k &&& (t ^^^ 4294967295)) = 0 then 1 else 0)) (a0 := 0) 0 (W 7).toNat (by omega) rfl ?_ ?_ zN (zN_gt (by omega))
  · intro m i a _ hi ha k
    have hb := zWth_b (E := zE0 W) (t := t) i
    have hp : W (102 + i) = (zeP (zE0 W) i : Int) := mP7 h.2.1 hi
    have hp32 := zeP_lt (zE0_ok h.2.1) (show i < zeC (zE0 W) from hi)
    have e : zsum (i + 1) (fun k => if (zeP (zE0 W) k &&& (t ^^^ 4294967295)) = 0 then (1 : Int) else 0) = zsum i (fun k => if (zeP (zE0 W) k &&& (t ^^^ 4294967295)) = 0 then (1 : Int) else 0) + (if (zeP (zE0 W) i &&& (t ^^^ 4294967295)) = 0 then 1 else 0) := rfl
    show zS (lm_worthOf_c4 (t : Int) M (m + 1) a (i : Int)) _
    rw [lm_worthOf_c4]
    refine zS_b (w107 (by omega) (by omega)) ?_
    refine zS_it (by rw [h.1]; show (i : Int) < W 7; omega) ?_
    refine zS_b (lm_namesOf_eq (by omega)) ?_
    rw [h.1, hp, zandn_nat (by omega), w1 (by omega), ha]
    by_cases hz : (zeP (zE0 W) i &&& (t ^^^ 4294967295)) = 0
    · rw [if_pos (show ((zeP (zE0 W) i &&& (t ^^^ 4294967295) : Nat) : Int) = 0 by rw [hz]; rfl), w32_eq (by omega) (by omega)]
      exact k _ (by rw [e, if_pos hz])
    · rw [if_neg (by omega), w32_eq (by omega) (by omega)]
      exact k _ (by rw [e, if_neg hz])
  · intro m a ha
    show zS (lm_worthOf_c4 (t : Int) M (m + 1) a ((W 7).toNat : Int)) _
    rw [lm_worthOf_c4]
    refine zS_b (w107 (by omega) (by omega)) ?_
    refine zS_ie (by rw [h.1]; show ¬ (((W 7).toNat : Int) < W 7); omega) ?_
    exact zS_r ha
theorem xPow (h : zInv W M) : zshl 1 (W 6) = ((2 ^ (W 6).toNat : Nat) : Int) ∧ 2 ^ (W 6).toNat ≤ 32 := by
  obtain ⟨u0, u1, _, _, u4, _, u6, u7, _⟩ := h.2.1
  have hpw : 2 ^ (W 6).toNat ≤ 2 ^ 5 := Nat.pow_le_pow_right (by decide) (by omega)
  refine ⟨?_, hpw⟩
  have e := zshl1 (k := (W 6).toNat) (by omega)
  rw [← e]
  congr 1
  omega
theorem q_worth (h : zInv W M) : zQ0 (lX_worth x M) (lm_worth x M) := by
  obtain ⟨b1, b2, b3, b4, b5, b6, b7, b8⟩ := xB h
  obtain ⟨u0, u1, _, _, u4, _, u6, u7, _⟩ := h.2.1
  obtain ⟨p1, p2⟩ := xPow h
  have hpos := Nat.two_pow_pos (W 6).toNat
  have e37 : M 3 7 = W 6 := by omega
  refine ⟨if (0 < W 9) ∧ (0 ≤ x ∧ x < ((2 ^ (W 6).toNat : Nat) : Int)) then zWth (zE0 W) x.toNat else -2, ?_, ?_⟩
  · refine zX_g (xThere h) (fun c1 => ?_) (fun c1 => (if_neg (fun q => c1 q.1)).symm)
    by_cases h1 : x < 0
    · rw [if_pos h1, if_neg (by omega)]
      exact zS_r rfl
    · rw [if_neg h1, e37, p1]
      by_cases h2 : x < ((2 ^ (W 6).toNat : Nat) : Int)
      · rw [if_pos h2, if_pos ⟨c1, by omega, h2⟩]
        obtain ⟨t, rfl⟩ : ∃ p : Nat, x = (p : Int) := ⟨x.toNat, by omega⟩
        rw [Int.toNat_natCast]
        refine loopI (fun m i (a : Int) => lX_worth_c34 (t : Int) M m a (i : Int)) (fun i a => a = zsum i (fun k => if (zeP (zE0 W) k &&& (t ^^^ 4294967295)) = 0 then 1 else 0)) (a0 := 0) 0 (W 7).toNat (by omega) rfl ?_ ?_ zN (zN_gt (by omega))
        · intro m i a _ hi ha k
          have hb := zWth_b (E := zE0 W) (t := t) i
          obtain ⟨q1, q2, q3, q4⟩ := xParty h hi
          have e : zsum (i + 1) (fun k => if (zeP (zE0 W) k &&& (t ^^^ 4294967295)) = 0 then (1 : Int) else 0) = zsum i (fun k => if (zeP (zE0 W) k &&& (t ^^^ 4294967295)) = 0 then (1 : Int) else 0) + (if (zeP (zE0 W) i &&& (t ^^^ 4294967295)) = 0 then 1 else 0) := rfl
          show zS (lX_worth_c34 (t : Int) M (m + 1) a (i : Int)) _
          rw [lX_worth_c34]
          refine zS_it (by omega) ?_
          refine zS_b (rdI_n sh_12 (by omega)) ?_
          rw [q1, zandn_nat (by omega), w1 (by omega), ha]
          by_cases hz : (zeP (zE0 W) i &&& (t ^^^ 4294967295)) = 0
          · rw [if_pos (show ((zeP (zE0 W) i &&& (t ^^^ 4294967295) : Nat) : Int) = 0 by rw [hz]; rfl), w32_eq (by omega) (by omega)]
            exact k _ (by rw [e, if_pos hz])
          · rw [if_neg (by omega)]
            exact k _ (by rw [e, if_neg hz, Int.add_zero])
        · intro m a ha
          show zS (lX_worth_c34 (t : Int) M (m + 1) a ((W 7).toNat : Int)) _
          rw [lX_worth_c34]
          refine zS_ie (by omega) ?_
          exact zS_r ha
      · rw [if_neg h2, if_neg (by omega)]
        exact zS_r rfl
  · have hset : lm_isSet x M = some (zbo ((0 < W 9) ∧ (0 ≤ x ∧ x < ((2 ^ (W 6).toNat : Nat) : Int)))) := by
      refine zS_eq ?_
      unfold lm_isSet
      refine zX_g (by rw [lm_isState_eq, h.1]) (fun c1 => ?_) (fun c1 => (zbo_f (fun q => c1 q.1)).symm)
      refine zS_b lm_names_eq ?_
      rw [h.1, p1, w32_eq (by omega) (by omega)]
      refine zX_g lm_in_eq (fun c2 => ?_) (fun c2 => (zbo_f (fun q => c2 (by omega))).symm)
      exact zS_r (zbo_t ⟨c1, by omega⟩).symm
    refine zX_g hset (fun c1 => ?_) (fun c1 => (if_neg c1).symm)
    rw [if_pos c1]
    obtain ⟨t, rfl⟩ : ∃ p : Nat, x = (p : Int) := ⟨x.toNat, by omega⟩
    refine zS_b (mWorth h (by omega)) ?_
    exact zS_r rfl
/-! rows: what holds of them -/
theorem xSlot : lW_isSlot x M = some (zbo (0 ≤ x ∧ x ≤ 3)) := by
  unfold lW_isSlot zbo
  by_cases h : x < 0
  · rw [if_pos h, if_neg (by omega)]
  · rw [if_neg h]
    by_cases h2 : x < 4
    · rw [if_pos h2, if_pos (by omega)]
    · rw [if_neg h2, if_neg (by omega)]
theorem mSlot : lm_isSlot x M = some (zbo (0 ≤ x ∧ x ≤ 3)) := by
  refine zS_eq ?_
  unfold lm_isSlot
  refine zS_b lm_in_eq ?_
  rw [if_pos zbo_01]
  exact zS_r rfl
theorem xFill {s : Nat} (hs : s < 4) : lW_isFilled (s : Int) M = some (zbo (M 98 s ≠ -1)) := by
  refine zS_eq ?_
  unfold lW_isFilled
  refine zS_b (rdI_n sh_98 hs) ?_
  by_cases h : M 98 s = -1
  · rw [if_pos h]
    exact zS_r (zbo_f (fun q => q h)).symm
  · rw [if_neg h]
    exact zS_r (zbo_t h).symm
theorem rFill (h : zInv W M) {s : Nat} (hs : s < 4) : (M 98 s ≠ -1) ↔ (M 126 s ≠ -1) := by
  rcases h.2.2.2.2.2.2.1 s hs with ⟨a, b⟩ | ⟨a, b, _, c, _⟩ <;> omega
theorem q_count (h : zInv W M) : zQ0 (lX_count x M) (lm_count x M) := by
  have hW := h.1
  obtain ⟨t0, t1, t2, t3, t4, t5, t6, t7, t8, _⟩ := h.2.2.1
  have ha0 := h.2.2.2.1.1
  have htp := h.2.2.2.2.2.1.2.2.1
  refine ⟨if 0 ≤ x ∧ x ≤ 9 then W x.toNat else if x = 10 then M 1 1 else if x = 11 then zsum 4 (fun s => if M 98 s ≠ -1 then 1 else 0) else -1, ?_, ?_⟩
  · unfold lX_count
    by_cases h0 : x = 0
    · rw [if_pos h0, if_pos (by omega), h0]; exact zS_r t0
    rw [if_neg h0]
    by_cases h1 : x = 1
    · rw [if_pos h1, if_pos (by omega), h1]; exact zS_r t1
    rw [if_neg h1]
    by_cases h2 : x = 2
    · rw [if_pos h2, if_pos (by omega), h2]; exact zS_r t2
    rw [if_neg h2]
    by_cases h3 : x = 3
    · rw [if_pos h3, if_pos (by omega), h3]; exact zS_r t3
    rw [if_neg h3]
    by_cases h4 : x = 4
    · rw [if_pos h4, if_pos (by omega), h4]; exact zS_r t5
    rw [if_neg h4]
    by_cases h5 : x = 5
    · rw [if_pos h5, if_pos (by omega), h5]; exact zS_r t6
    rw [if_neg h5]
    by_cases h6 : x = 6
    · rw [if_pos h6, if_pos (by omega), h6]; exact zS_r t7
    rw [if_neg h6]
    by_cases h7 : x = 7
    · rw [if_pos h7, if_pos (by omega), h7]; exact zS_r t8
    rw [if_neg h7]
    by_cases h8 : x = 8
    · rw [if_pos h8, if_pos (by omega), h8]; exact zS_r ha0
    rw [if_neg h8]
    by_cases h9 : x = 9
    · rw [if_pos h9, if_pos (by omega), h9]; exact zS_r t4
    rw [if_neg h9, if_neg (show ¬ (0 ≤ x ∧ x ≤ 9) by omega)]
    by_cases h10 : x = 10
    · rw [if_pos h10, if_pos h10]; exact zS_r rfl
    rw [if_neg h10, if_neg h10]
    by_cases h11 : x = 11
    · rw [if_pos h11, if_pos h11]
      refine zS_m (P := fun v => v = zsum 4 (fun s => if M 98 s ≠ -1 then 1 else 0)) ?_ (fun v hv => zS_r hv)
      unfold lW_howMany
      refine loopI (fun m i (a : Int) => lW_howMany_c4 M m a (i : Int)) (fun i a => a = zsum i (fun s => if M 98 s ≠ -1 then 1 else 0)) (a0 := 0) 0 4 (by omega) rfl ?_ ?_ zN (zN_gt (by omega))
      · intro m i a _ hi ha k
        have hb := zsum01 (f := fun s => if M 98 s ≠ -1 then (1 : Int) else 0) (fun _ => zb01) i
        have e : zsum (i + 1) (fun s => if M 98 s ≠ -1 then (1 : Int) else 0) = zsum i (fun s => if M 98 s ≠ -1 then (1 : Int) else 0) + (if M 98 i ≠ -1 then 1 else 0) := rfl
        show zS (lW_howMany_c4 M (m + 1) a (i : Int)) _
        rw [lW_howMany_c4]
        refine zS_it (by omega) ?_
        rw [w1 (by omega)]
        refine zS_b (xFill hi) ?_
        by_cases hz : M 98 i ≠ -1
        · rw [zbo_t hz, if_neg (by decide), ha, w32_eq (by omega) (by omega)]
          exact k _ (by rw [e, if_pos hz])
        · rw [zbo_f hz, if_pos rfl]
          exact k _ (by rw [e, if_neg hz, ha, Int.add_zero])
      · intro m a ha
        show zS (lW_howMany_c4 M (m + 1) a ((4 : Nat) : Int)) _
        rw [lW_howMany_c4]
        refine zS_ie (by omega) ?_
        exact zS_r ha
    · rw [if_neg h11, if_neg h11]; exact zS_r rfl
  · unfold lm_count
    refine zS_b lm_in_eq ?_
    by_cases hx : 0 ≤ x ∧ x ≤ 9
    · rw [zbo_t hx, if_neg (by decide), if_pos hx]
      refine zS_b (w107 (by omega) (by omega)) ?_
      exact zS_r (by rw [hW])
    · rw [zbo_f hx, if_pos rfl, if_neg hx]
      by_cases h10 : x = 10
      · rw [if_pos h10, if_pos h10]; exact zS_r htp
      rw [if_neg h10, if_neg h10]
      by_cases h11 : x = 11
      · rw [if_pos h11, if_pos h11]
        refine loopI (fun m i (a : Int) => lm_count_c42 x M m a (i : Int)) (fun i a => a = zsum i (fun s => if M 98 s ≠ -1 then 1 else 0)) (a0 := 0) 0 4 (by omega) rfl ?_ ?_ zN (zN_gt (by omega))
        · intro m i a _ hi ha k
          have hb := zsum01 (f := fun s => if M 98 s ≠ -1 then (1 : Int) else 0) (fun _ => zb01) i
          have e : zsum (i + 1) (fun s => if M 98 s ≠ -1 then (1 : Int) else 0) = zsum i (fun s => if M 98 s ≠ -1 then (1 : Int) else 0) + (if M 98 i ≠ -1 then 1 else 0) := rfl
          have hf := rFill h hi
          show zS (lm_count_c42 x M (m + 1) a (i : Int)) _
          rw [lm_count_c42]
          refine zS_it (by omega) ?_
          rw [w1 (by omega)]
          refine zS_b (rdI_n sh_126 hi) ?_
          by_cases hz : M 126 i = -1
          · rw [if_pos hz, ha, w32_eq (by omega) (by omega)]
            exact k _ (by rw [e, if_neg (fun q => (hf.mp q) hz)])
          · rw [if_neg hz, ha, w32_eq (by omega) (by omega)]
            exact k _ (by rw [e, if_pos (hf.mpr hz)])
        · intro m a ha
          show zS (lm_count_c42 x M (m + 1) a ((4 : Nat) : Int)) _
          rw [lm_count_c42]
          refine zS_ie (by omega) ?_
          exact zS_r ha
      · rw [if_neg h11, if_neg h11]; exact zS_r rfl
end ZTO
