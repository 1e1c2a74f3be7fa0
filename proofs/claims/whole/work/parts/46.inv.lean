/-! The reference's day from its cells; what holds between calls. -/
def zmS (M : Nat → Nat → Int) (W H I : Nat → Int) (F : Int → Int) (st cl rn : Nat → Bool) (L : Int) : Prop := M 107 = W ∧ wOk W ∧ (∀ p, p < (W 6).toNat → M 113 p = H p ∧ M 114 p = I p ∧ 0 ≤ H p ∧ H p < 8 ∧ 0 ≤ I p ∧ I p ≤ 60) ∧ (∀ x : Nat, x < 8 → M 115 x = F (x : Int) ∧ 0 ≤ F (x : Int) ∧ F (x : Int) ≤ 1000) ∧ (∀ p n, p < 5 → n < 20 → M 116 (20 * p + n) = wsent W p n) ∧ zset 12 (M 106 15) cl ∧ M 106 16 = L ∧ zset 20 (M 106 17) rn ∧ zset 5 (M 106 18) st
theorem zmS_cg {M M' : Nat → Nat → Int} {W H I : Nat → Int} {F : Int → Int} {st cl rn : Nat → Bool} {L : Int} (h : zmS M W H I F st cl rn L) (g1 : zmg M M') : zmS M' W H I F st cl rn L := by
  unfold zmS at h ⊢
  rw [g1 107 (by omega), g1 113 (by omega), g1 114 (by omega), g1 115 (by omega), g1 116 (by omega), g1 106 (by omega)]
  exact h
theorem lm_isJoined_eq {M : Nat → Nat → Int} {W : Nat → Int} {cl : Nat → Bool} {x y : Int} (hW : M 107 = W) (hw : wOk W) (hcl : zset 12 (M 106 15) cl) : lm_isJoined x y M = some (zbo (wjn W cl x y = true)) := by
  have h4 := hw.2.2.2.2.1
  refine zS_eq ?_
  refine zS_gen (fun Q hQ => ?_)
  unfold lm_isJoined
  refine loopI (A := Unit) (fun m i _ => lm_isJoined_c2 x y M m (i : Int)) (fun i _ => wjnN W cl i x y = false) (a0 := ()) 0 (W 4).toNat (by omega) ?_ ?_ ?_ zN (zN_gt (by omega))
  · rfl
  · intro m i _ _ hi h k
    have k := k ()
    have e1 : w32 (10 + w32 (2 * (i : Int))) = ((10 + 2 * i : Nat) : Int) := by simp (disch := omega) only [w32_eq]; omega
    have e2 : w32 (((10 + 2 * i : Nat) : Int) + 1) = ((10 + 2 * i + 1 : Nat) : Int) := by simp (disch := omega) only [w32_eq]; omega
    have hs : wjnN W cl (i + 1) x y = (wjnN W cl i x y || (!(cl i) && ((decide (W (10 + 2 * i) = x) && decide (W (10 + 2 * i + 1) = y)) || (decide (W (10 + 2 * i) = y) && decide (W (10 + 2 * i + 1) = x))))) := wjnN_s
    rw [h, Bool.false_or] at hs
    have hyes : cl i = false → (W (10 + 2 * i) = x ∧ W (10 + 2 * i + 1) = y) ∨ (W (10 + 2 * i) = y ∧ W (10 + 2 * i + 1) = x) → zS (some (1 : Int)) Q := fun hc hj => zS_r (hQ _ (by
      rw [zbo_t (wjn_1.mpr ⟨i, hi, hc, hj⟩)]))
    show zS (lm_isJoined_c2 x y M (m + 1) (i : Int)) Q
    rw [lm_isJoined_c2]
    refine zS_b (w107 (by omega) (by omega)) ?_
    refine zS_it (by rw [hW]; show (i : Int) < W 4; omega) ?_
    rw [e1, e2, w1 (by omega)]
    refine zS_b (rdI_n sh_107 (by omega)) ?_
    refine zS_b (rdI_n sh_107 (by omega)) ?_
    have hb : lm_bit (M 106 15) (i : Int) M = some (if cl i = true then 1 else 0) := by
      unfold lm_bit
      rw [zset_bit hcl (by omega) (by omega)]
    refine zS_b hb ?_
    rw [hW]
    cases hc : cl i with
    | true =>
      rw [if_pos rfl, if_neg (by decide)]
      exact k (by rw [hs, hc]; rfl)
    | false =>
      rw [if_pos (by decide)]
      rw [hc] at hs
      have hno : ¬ ((W (10 + 2 * i) = x ∧ W (10 + 2 * i + 1) = y) ∨ (W (10 + 2 * i) = y ∧ W (10 + 2 * i + 1) = x)) → zS (lm_isJoined_c2 x y M m ((i + 1 : Nat) : Int)) Q := fun hn => k (by
        rw [hs]
        have a1 : ¬ ((decide (W (10 + 2 * i) = x) && decide (W (10 + 2 * i + 1) = y)) = true) := fun e => hn (Or.inl (by simpa using e))
        have a2 : ¬ ((decide (W (10 + 2 * i) = y) && decide (W (10 + 2 * i + 1) = x)) = true) := fun e => hn (Or.inr (by simpa using e))
        rw [Bool.not_eq_true] at a1 a2
        rw [a1, a2]
        rfl)
      by_cases c1 : x = W (10 + 2 * i)
      · rw [if_pos c1]
        by_cases c2 : y = W (10 + 2 * i + 1)
        · rw [if_pos c2]
          exact hyes hc (Or.inl ⟨c1.symm, c2.symm⟩)
        · rw [if_neg c2]
          by_cases c3 : x = W (10 + 2 * i + 1)
          · rw [if_pos c3]
            by_cases c4 : y = W (10 + 2 * i)
            · rw [if_pos c4]
              exact hyes hc (Or.inr ⟨c4.symm, c3.symm⟩)
            · rw [if_neg c4]
              exact hno (by omega)
          · rw [if_neg c3]
            exact hno (by omega)
      · rw [if_neg c1]
        by_cases c3 : x = W (10 + 2 * i + 1)
        · rw [if_pos c3]
          by_cases c4 : y = W (10 + 2 * i)
          · rw [if_pos c4]
            exact hyes hc (Or.inr ⟨c4.symm, c3.symm⟩)
          · rw [if_neg c4]
            exact hno (by omega)
        · rw [if_neg c3]
          exact hno (by omega)
  · intro m _ h
    show zS (lm_isJoined_c2 x y M (m + 1) ((W 4).toNat : Int)) Q
    rw [lm_isJoined_c2]
    refine zS_b (w107 (by omega) (by omega)) ?_
    refine zS_ie (by rw [hW]; show ¬ (((W 4).toNat : Int) < W 4); omega) ?_
    refine zS_r (hQ _ ?_)
    have h : wjn W cl x y = false := h
    rw [h, zbo_f (by decide)]
theorem zm_env {M : Nat → Nat → Int} {W H I : Nat → Int} {F : Int → Int} {st cl rn : Nat → Bool} {L : Int} (hF : ∀ x, 0 ≤ x → x < 8 → 0 ≤ F x ∧ F x ≤ 1000) (h : zmS M W H I F st cl rn L) : zmE M (zeW W H I F st cl rn L) (W 1).toNat := by
  obtain ⟨hW, hw, hHI, hFF, hs, hcl, hL, hrn, hst⟩ := h
  have hw0 := hw
  obtain ⟨h0, h1, _, _, h4, h5, h6, h7, _, _, _, _, hstr, hwel, hnam, hcon, _⟩ := hw
  refine ⟨zeW_ok hw0 (fun p hp => by have := hHI p hp; omega) (fun p hp => by have := hHI p hp; omega) hF, ?_, ?_, ?_, by omega, fun x x0 x1 => ?_, fun p hp => ⟨(hHI p hp).1, (hHI p hp).2.1⟩, fun p n N hp hn hN => ?_, fun x y x0 x1 y0 y1 hxy => ?_, hL, fun k hk => ?_, fun n hn => zset_bit hrn (by omega) hn⟩
  · rw [hW]; show W 6 = ((W 6).toNat : Int); omega
  · rw [hW]; show W 7 = ((W 7).toNat : Int); omega
  · rw [hW]; omega
  · obtain ⟨X, rfl⟩ : ∃ X : Nat, x = (X : Int) := ⟨x.toNat, by omega⟩
    rw [rdI_n sh_115 (by omega), (hFF X (by omega)).1]
    rfl
  · have hp6 : p < (W 6).toNat := hp
    have hq := hnam p hp6
    show lm_wouldGo (p : Int) (n : Int) N = some (if wam W st p n = -1 then N 117 (5 * n + p) else wam W st p n)
    have hN7 : N 107 = W := (hN 107 (by omega)).trans hW
    have e116 : N 116 (20 * p + n) = wsent W p n := by rw [hN 116 (by omega)]; exact hs p n (by omega) hn
    have hb : lm_bit (N 106 18) (p : Int) N = some (if st p = true then 1 else 0) := by
      unfold lm_bit
      rw [hN 106 (by omega), zset_bit hst (by omega) (by omega)]
    have hwb := wam_b (st := st) (n := n) hw0 hp6
    have hsb := wsn_b hw0 (Nat.le_refl _) p n
    unfold lm_wouldGo
    refine zS_eq (zS_b hb ?_)
    by_cases c1 : st p = true
    · have ew : wam W st p n = -1 := by unfold wam; rw [if_pos c1]
      rw [if_pos c1, if_pos rfl, ew, if_pos rfl]
      refine zS_b (lm_placeOf_eq (by omega) (by omega)) ?_
      exact zS_r rfl
    · rw [if_neg c1, if_neg (by decide), w20 (by omega) (by omega)]
      refine zS_b (rdI_n sh_116 (by omega)) ?_
      rw [e116]
      by_cases c2 : wsent W p n = -1
      · rw [if_pos c2]
        refine zS_b (lm_of_eq (w := 3) (by omega) (by omega)) ?_
        rw [hN7]
        by_cases c3 : W (42 + 12 * p + 3) = 0
        · have ew : wam W st p n = -1 := by unfold wam; rw [if_neg c1, if_neg (show ¬ (wsent W p n ≠ -1) from fun h => h c2), if_pos c3]
          rw [if_pos c3, ew, if_pos rfl]
          refine zS_b (lm_placeOf_eq (by omega) (by omega)) ?_
          exact zS_r rfl
        · have ew : wam W st p n = W (42 + 12 * p + 4 + n % (W (42 + 12 * p + 3)).toNat) := by unfold wam; rw [if_neg c1, if_neg (show ¬ (wsent W p n ≠ -1) from fun h => h c2), if_neg c3]
          rw [if_neg c3]
          refine zS_b (lm_of_eq (w := 3) (by omega) (by omega)) ?_
          rw [hN7, if_neg c3]
          obtain ⟨l, hl⟩ : ∃ l : Nat, W (42 + 12 * p + 3) = (l : Int) := ⟨(W (42 + 12 * p + 3)).toNat, by omega⟩
          have hml : n % l < l := Nat.mod_lt _ (by omega)
          have er : w32 (4 + zrem (n : Int) (W (42 + 12 * p + 3))) = ((4 + n % l : Nat) : Int) := by
            rw [hl, zrem_nat (by omega) (by omega)]
            simp (disch := omega) only [w32_eq]
            omega
          rw [er]
          refine zS_b (lm_of_eq (w := 4 + n % l) (by omega) (by omega)) ?_
          refine zS_r ?_
          have hlt := hq.2.2.2.2.2.2.2.2 (n % l) (by omega)
          rw [hl, Int.toNat_natCast] at ew
          rw [ew, if_neg (by omega), hN7]
          congr 1
          omega
      · have ew : wam W st p n = wsent W p n := by unfold wam; rw [if_neg c1, if_pos c2]
        rw [if_neg c2]
        refine zS_b (rdI_n sh_116 (by omega)) ?_
        exact zS_r (by rw [e116, ew, if_neg c2])
  · exact lm_isJoined_eq hW hw0 hcl
  · obtain ⟨t, e, _⟩ := hcon k hk
    rw [hW]
    show W (102 + k) = ((W (102 + k)).toNat : Int)
    rw [e]
    rfl
/-- the day as it is -/
def zE0 (W : Nat → Int) : zE := zeW W (fun p => W (42 + 12 * p)) (fun p => W (42 + 12 * p + 1)) (wfdg W (-1)) (fun _ => false) (wcls W) (fun _ => false) (W 2)
theorem wfdg_b {W : Nat → Int} {d x : Int} (hw : wOk W) : 0 ≤ wfdg W d x ∧ wfdg W d x ≤ 1000 := by
  have q := wfd_b (W := W) (x := x) hw
  unfold wfdg
  split <;> omega
theorem zE0_ok {W : Nat → Int} (hw : wOk W) : zeOk (zE0 W) := by
  have hw0 := hw
  obtain ⟨h0, h1, _, _, h4, h5, h6, h7, _, _, _, _, hstr, hwel, hnam, hcon, _⟩ := hw
  exact zeW_ok hw0 (fun p hp => by have := hnam p hp; omega) (fun p hp => by have := hnam p hp; omega) (fun x _ _ => wfdg_b hw0)
theorem zAs_S {M0 M : Nat → Nat → Int} {W : Nat → Int} (hw : wOk W) (hW : M0 107 = W) (h : zAs M0 M W) : zmS M W (fun p => W (42 + 12 * p)) (fun p => W (42 + 12 * p + 1)) (wfdg W (-1)) (fun _ => false) (wcls W) (fun _ => false) (W 2) := by
  obtain ⟨⟨a1, a2, a3, a4, a5⟩, b1, ⟨b2, b3⟩, b4⟩ := h
  have hnam := hw.2.2.2.2.2.2.2.2.2.2.2.2.2.2.1
  have h6 := hw.2.2.2.2.2.2.1
  have h0 := hw.1
  refine ⟨(a1 107 (by omega) (by omega) (by omega) (by omega) (by omega)).trans hW, hw, fun p hp => ?_, fun x hx => ⟨?_, wfdg_b hw⟩, b4, b1, a3, by rw [a4]; exact zset_0, by rw [a5]; exact zset_0⟩
  · have q := hnam p hp
    have q2 := b2 p (by omega)
    have q3 : 0 ≤ W (42 + 12 * p) ∧ W (42 + 12 * p) < 8 ∧ 0 ≤ W (42 + 12 * p + 1) ∧ W (42 + 12 * p + 1) ≤ 60 := by omega
    exact ⟨q2.1, q2.2, q3⟩
  · rw [b3 x hx]
    unfold wfdg
    rw [if_neg (by omega), Int.add_zero]
/-! What stays from call to call. -/
def zkp (c i : Nat) : Prop := ¬ (13 ≤ c ∧ c ≤ 22) ∧ ¬ (37 ≤ c ∧ c ≤ 44) ∧ c ≠ 105 ∧ ¬ (c = 106 ∧ i ≠ 5 ∧ i ≠ 12 ∧ i ≠ 13) ∧ ¬ (111 ≤ c ∧ c ≤ 125) ∧ c ≠ 129 ∧ ¬ (c = 1 ∧ 4 ≤ i)
def zKeep (M M' : Nat → Nat → Int) : Prop := ∀ c i, zkp c i → M' c i = M c i
theorem zKeep_r {M : Nat → Nat → Int} : zKeep M M := fun _ _ _ => rfl
theorem zKeep_t {A B C : Nat → Nat → Int} (h : zKeep A B) (k : zKeep B C) : zKeep A C := fun c i hc => (k c i hc).trans (h c i hc)
theorem zKeep_c {M M' : Nat → Nat → Int} (h : zKeep M M') (c : Nat) (hc : (c ≤ 12 ∧ c ≠ 1) ∨ (23 ≤ c ∧ c ≤ 36) ∨ (45 ≤ c ∧ c ≤ 104) ∨ (107 ≤ c ∧ c ≤ 110) ∨ (126 ≤ c ∧ c ≤ 128)) : M' c = M c := by
  funext i
  exact h c i (by unfold zkp; omega)
theorem zAs_keep {M M' : Nat → Nat → Int} {W : Nat → Int} (h : zAs M M' W) : zKeep M M' := by
  obtain ⟨⟨a1, a2, a3, a4, a5⟩, _⟩ := h
  intro c i hc
  unfold zkp at hc
  by_cases h6 : c = 106
  · subst h6
    exact a2 i (by omega)
  · rw [a1 c (by omega) (by omega) (by omega) (by omega) (by omega)]
theorem zmg_keep {M M' : Nat → Nat → Int} (h : zmg M M') : zKeep M M' := by
  intro c i hc
  unfold zkp at hc
  rw [h c (by omega)]
/-- the tape -/
def zTp (M : Nat → Nat → Int) : Prop := 0 ≤ M 1 1 ∧ M 1 1 ≤ 900 ∧ M 106 5 = M 1 1 ∧ (∀ i, i < (M 1 1).toNat → 0 ≤ M 2 i ∧ M 2 i < 256 ∧ M 110 i = if M 2 i < 128 then M 2 i else M 2 i - 256) ∧ M 106 12 = M 1 2 ∧ M 106 13 = M 1 3
def zRw (M : Nat → Nat → Int) : Prop := ∀ s, s < 4 → (M 98 s = -1 ∧ M 126 s = -1) ∨ (0 ≤ M 98 s ∧ M 98 s ≤ 3 ∧ M 127 s = M 98 s ∧ 0 ≤ M 126 s ∧ M 126 s ≤ 60 ∧ M 99 s = M 126 s ∧ ∀ i, i < 60 → M (101 + s) i = M 128 (60 * s + i) ∧ -9223372036854775808 ≤ M (101 + s) i ∧ M (101 + s) i ≤ 9223372036854775807)
def zIg (M : Nat → Nat → Int) : Prop := ∀ k, k < 3 → M 109 k = M (46 + 17 * k) 0 ∧ (M 109 k = 0 ∨ (M 109 k = 1 ∧ wOk (fun i => M 108 (138 * k + i)) ∧ zTold (46 + 17 * k + 1) M (fun i => M 108 (138 * k + i)) ∧ M (46 + 17 * k + 11) 0 = M 108 (138 * k + 8) ∧ ∀ i, i < (M 108 (138 * k + 8)).toNat → zAct (46 + 17 * k + 11) M (fun i => M 108 (138 * k + i)) i))
/-- the day as it is, kept by the class -/
def zNw (M : Nat → Nat → Int) (W : Nat → Int) : Prop := zcE 29 M (zE0 W) ∧ zcT 29 (W 1).toNat (zE0 W) M ∧ (∀ p, p < (W 6).toNat → M 33 p = W (42 + 12 * p + 1)) ∧ (∀ a : Nat, a < 8 → zset 8 (M 31 a) (fun b => wjn W (wcls W) (a : Int) (b : Int)))
def zInv (W : Nat → Int) (M : Nat → Nat → Int) : Prop := M 107 = W ∧ wOk W ∧ zTold 3 M W ∧ zActs 23 M W ∧ zNw M W ∧ zTp M ∧ zRw M ∧ zIg M
theorem zTold_cg {t : Nat} {M M' : Nat → Nat → Int} {W : Nat → Int} (h : zTold t M W) (e : ∀ i, i ≤ 9 → M' (t + i) = M (t + i)) : zTold t M' W := by
  have e0 : M' t = M t := e 0 (by omega)
  unfold zTold at h ⊢
  rw [e0, e 1 (by omega), e 2 (by omega), e 3 (by omega), e 4 (by omega), e 5 (by omega), e 6 (by omega), e 7 (by omega), e 8 (by omega), e 9 (by omega)]
  exact h
theorem zAct_cg {a i : Nat} {M M' : Nat → Nat → Int} {W : Nat → Int} (h : zAct a M W i) (e : ∀ i, i ≤ 4 → M' (a + i) = M (a + i)) : zAct a M' W i := by
  unfold zAct at h ⊢
  rw [e 1 (by omega), e 2 (by omega), e 3 (by omega), e 4 (by omega)]
  exact h
theorem zActs_cg {a : Nat} {M M' : Nat → Nat → Int} {W : Nat → Int} (h : zActs a M W) (e : ∀ i, i ≤ 5 → M' (a + i) = M (a + i)) : zActs a M' W := by
  have e0 : M' a = M a := e 0 (by omega)
  obtain ⟨h1, h2, h3, h4⟩ := h
  refine ⟨by rw [e0]; exact h1, by rw [e0]; exact h2, fun i hi => zAct_cg (h3 i hi) (fun j hj => e j (by omega)), fun p n hp hn => by rw [e 5 (by omega)]; exact h4 p n hp hn⟩
theorem zcT_cg {d T : Nat} {E : zE} {M M' : Nat → Nat → Int} (h : zcT d T E M) (e5 : M' (d + 5) = M (d + 5)) (e6 : M' (d + 6) = M (d + 6)) (e7 : M' (d + 7) = M (d + 7)) : zcT d T E M' := by
  intro n hn
  obtain ⟨a, b⟩ := h n hn
  refine ⟨fun p hp => ?_, ?_⟩
  · rw [e5, e6]; exact a p hp
  · rw [e7]; exact b
theorem zcE_cg2 {d : Nat} {C M : Nat → Nat → Int} {E : zE} (h : zcE d C E) (e3 : M 3 = C 3) (e6 : M 6 = C 6) (e10 : M 10 = C 10) (e11 : M 11 = C 11) (e12 : M 12 = C 12) (e28 : M 28 = C 28) (ed : M d = C d) (ed2 : M (d + 2) = C (d + 2)) : zcE d M E := by
  obtain ⟨hd, hok, hB, hC, hF, hA, hJ, hL, hP⟩ := h
  refine ⟨hd, hok, by rw [e3]; exact hB, by rw [e3]; exact hC, fun x h0 h1 => ?_, fun p n hp hn => ?_, fun x y h0 h1 h2 h3 => ?_, by rw [ed]; exact hL, fun k hk => by rw [e12]; exact hP k hk⟩
  · exact (lD_inkAt_cg ed e6).trans (hF x h0 h1)
  · exact (lD_aimOf_cg ed e28 e10 e11).trans (hA p n hp hn)
  · exact (lN_joins_cg ed2).trans (hJ x y h0 h1 h2 h3)
theorem zNw_cg {M M' : Nat → Nat → Int} {W : Nat → Int} (h : zNw M W) (hc : ∀ c, (3 ≤ c ∧ c ≤ 12) ∨ (23 ≤ c ∧ c ≤ 36) → M' c = M c) : zNw M' W := by
  obtain ⟨a, b, c, d⟩ := h
  refine ⟨zcE_cg2 a (hc 3 (by omega)) (hc 6 (by omega)) (hc 10 (by omega)) (hc 11 (by omega)) (hc 12 (by omega)) (hc 28 (by omega)) (hc 29 (by omega)) (hc 31 (by omega)), zcT_cg b (hc 34 (by omega)) (hc 35 (by omega)) (hc 36 (by omega)), fun p hp => by rw [hc 33 (by omega)]; exact c p hp, fun a ha => by rw [hc 31 (by omega)]; exact d a ha⟩
theorem zIg_cg {M M' : Nat → Nat → Int} (h : zIg M) (h1 : ∀ c, (46 ≤ c ∧ c ≤ 96) → M' c = M c) (h2 : M' 108 = M 108) (h3 : M' 109 = M 109) : zIg M' := by
  intro k hk
  obtain ⟨a, b⟩ := h k hk
  rw [h2, h3, h1 (46 + 17 * k) (by omega), h1 (46 + 17 * k + 11) (by omega)]
  refine ⟨a, ?_⟩
  rcases b with b | ⟨b, c, d, e, f⟩
  · exact Or.inl b
  · exact Or.inr ⟨b, c, zTold_cg d (fun i hi => h1 _ (by omega)), e, fun i hi => zAct_cg (f i hi) (fun j hj => h1 _ (by omega))⟩
theorem zRw_cg {M M' : Nat → Nat → Int} (h : zRw M) (h1 : ∀ c, (98 ≤ c ∧ c ≤ 104) ∨ (126 ≤ c ∧ c ≤ 128) → M' c = M c) : zRw M' := by
  intro s hs
  rw [h1 98 (by omega), h1 99 (by omega), h1 126 (by omega), h1 127 (by omega), h1 128 (by omega), h1 (101 + s) (by omega)]
  exact h s hs
theorem zTp_cg {M M' : Nat → Nat → Int} (h : zTp M) (h1 : M' 1 1 = M 1 1) (h2 : M' 1 2 = M 1 2) (h3 : M' 1 3 = M 1 3) (h4 : M' 2 = M 2) (h5 : M' 110 = M 110) (h6 : M' 106 5 = M 106 5) (h7 : M' 106 12 = M 106 12) (h8 : M' 106 13 = M 106 13) : zTp M' := by
  unfold zTp at h ⊢
  rw [h1, h2, h3, h4, h5, h6, h7, h8]
  exact h
theorem zInv_keep {W : Nat → Int} {M M' : Nat → Nat → Int} (h : zInv W M) (k : zKeep M M') : zInv W M' := by
  obtain ⟨h1, h2, h3, h4, h5, h6, h7, h8⟩ := h
  have hc := zKeep_c k
  refine ⟨(hc 107 (by omega)).trans h1, h2, zTold_cg h3 (fun i hi => hc _ (by omega)), zActs_cg h4 (fun i hi => hc _ (by omega)), zNw_cg h5 (fun c h => hc c (by omega)), ?_, zRw_cg h7 (fun c h => hc c (by omega)), zIg_cg h8 (fun c h => hc c (by omega)) (hc 108 (by omega)) (hc 109 (by omega))⟩
  exact zTp_cg h6 (k 1 1 (by unfold zkp; omega)) (k 1 2 (by unfold zkp; omega)) (k 1 3 (by unfold zkp; omega)) (hc 2 (by omega)) (hc 110 (by omega)) (k 106 5 (by unfold zkp; omega)) (k 106 12 (by unfold zkp; omega)) (k 106 13 (by unfold zkp; omega))
/-! The reference asks. -/
theorem rb_01 {p : Prop} [Decidable p] {α : Type} {a b : α} : (if zbo p = 0 ∨ zbo p = 1 then a else b) = a := if_pos zbo_01
theorem lm_asksState_ok {M : Nat → Nat → Int} {W : Nat → Int} (hw : wOk W) (hW : M 107 = W) : zS (lm_asksState M) (fun r => r.1 = zbo (0 < W 9) ∧ zKeep M r.2 ∧ r.2 107 = W ∧ zmS r.2 W (fun p => W (42 + 12 * p)) (fun p => W (42 + 12 * p + 1)) (wfdg W (-1)) (fun _ => false) (wcls W) (fun _ => false) (W 2) ∧ (0 < W 9 → zmT (W 1).toNat (zE0 W) r.2)) := by
  unfold lm_asksState
  refine zS_m (lm_asItIs_ok hw hW) ?_
  intro M1 ha
  have hS := zAs_S hw hW ha
  have hK := zAs_keep ha
  refine zS_b lm_isState_eq ?_
  rw [hS.1]
  by_cases h9 : 0 < W 9
  · rw [zbo_t h9, if_neg (by decide)]
    refine zS_m (lm_goAll_ok (zm_env (fun x _ _ => wfdg_b hw) hS) zmg_r) ?_
    intro M2 ⟨g1, g2⟩
    refine zS_b lm_isState_eq ?_
    have hM2 : M2 107 = W := (g1 107 (by omega)).trans hS.1
    rw [hM2, zbo_t h9, if_pos (Or.inr rfl)]
    exact zS_r ⟨rfl, zKeep_t hK (zmg_keep g1), hM2, zmS_cg hS g1, fun _ => g2⟩
  · rw [zbo_f h9, if_pos rfl]
    refine zS_b lm_isState_eq ?_
    rw [hS.1, zbo_f h9, if_pos (Or.inl rfl)]
    exact zS_r ⟨rfl, hK, hS.1, hS, fun h => absurd h h9⟩
/-- what the reference knows once it has asked -/
def zmQ (M : Nat → Nat → Int) (W : Nat → Int) (ok : Prop) [Decidable ok] (r : Int × (Nat → Nat → Int)) : Prop := r.1 = zbo ok ∧ zKeep M r.2 ∧ r.2 107 = W ∧ zmS r.2 W (fun p => W (42 + 12 * p)) (fun p => W (42 + 12 * p + 1)) (wfdg W (-1)) (fun _ => false) (wcls W) (fun _ => false) (W 2) ∧ (ok → zmT (W 1).toNat (zE0 W) r.2)
theorem lm_asksStep_ok {M : Nat → Nat → Int} {W : Nat → Int} {x : Int} (hw : wOk W) (hW : M 107 = W) : zS (lm_asksStep x M) (zmQ M W (0 < W 9 ∧ 0 ≤ x ∧ x ≤ W 1)) := by
  unfold lm_asksStep
  refine zS_m (lm_asksState_ok hw hW) ?_
  intro r ⟨a1, a2, a3, a4, a5⟩
  rw [a1]
  by_cases h9 : 0 < W 9
  · rw [zbo_t h9, if_neg (by decide)]
    refine zS_b lm_isStep_eq ?_
    rw [a3]
    by_cases hx : 0 ≤ x ∧ x ≤ W 1
    · rw [zbo_t ⟨h9, hx⟩, if_neg (by decide)]
      exact zS_r ⟨(zbo_t ⟨h9, hx⟩).symm, a2, a3, a4, fun _ => a5 h9⟩
    · rw [zbo_f (fun h => hx h.2), if_pos rfl]
      exact zS_r ⟨(zbo_f (fun h => hx h.2)).symm, a2, a3, a4, fun h => absurd h.2 hx⟩
  · rw [zbo_f h9, if_pos rfl]
    exact zS_r ⟨(zbo_f (fun h => h9 h.1)).symm, a2, a3, a4, fun h => absurd h.1 h9⟩
theorem lm_asksName_ok {M : Nat → Nat → Int} {W : Nat → Int} {x : Int} (hw : wOk W) (hW : M 107 = W) : zS (lm_asksName x M) (zmQ M W (0 ≤ x ∧ x < W 6)) := by
  have h6 := hw.2.2.2.2.2.2.1
  have h99 := hw.2.2.2.2.2.2.2.2.2.2.1
  have h90 := hw.2.2.2.2.2.2.2.2.2.1
  unfold lm_asksName
  refine zS_m (lm_asksState_ok hw hW) ?_
  intro r ⟨a1, a2, a3, a4, a5⟩
  rw [a1]
  by_cases h9 : 0 < W 9
  · rw [zbo_t h9, if_neg (by decide)]
    refine zS_b (lm_isName_eq (by rw [a3]; omega) (by rw [a3]; omega)) ?_
    rw [a3]
    by_cases hx : 0 ≤ x ∧ x < W 6
    · rw [zbo_t hx, if_neg (by decide)]
      exact zS_r ⟨(zbo_t hx).symm, a2, a3, a4, fun _ => a5 h9⟩
    · rw [zbo_f hx, if_pos rfl]
      exact zS_r ⟨(zbo_f hx).symm, a2, a3, a4, fun h => absurd h hx⟩
  · rw [zbo_f h9, if_pos rfl]
    have q := h99 (by omega)
    exact zS_r ⟨(zbo_f (by omega)).symm, a2, a3, a4, fun h => by omega⟩
theorem lm_asksContract_ok {M : Nat → Nat → Int} {W : Nat → Int} {x : Int} (hw : wOk W) (hW : M 107 = W) : zS (lm_asksContract x M) (zmQ M W (0 ≤ x ∧ x < W 7)) := by
  have h6 := hw.2.2.2.2.2.2.2.1
  have h99 := hw.2.2.2.2.2.2.2.2.2.2.1
  have h90 := hw.2.2.2.2.2.2.2.2.2.1
  unfold lm_asksContract
  refine zS_m (lm_asksState_ok hw hW) ?_
  intro r ⟨a1, a2, a3, a4, a5⟩
  rw [a1]
  by_cases h9 : 0 < W 9
  · rw [zbo_t h9, if_neg (by decide)]
    refine zS_b (lm_isContract_eq (by rw [a3]; omega) (by rw [a3]; omega)) ?_
    rw [a3]
    by_cases hx : 0 ≤ x ∧ x < W 7
    · rw [zbo_t hx, if_neg (by decide)]
      exact zS_r ⟨(zbo_t hx).symm, a2, a3, a4, fun _ => a5 h9⟩
    · rw [zbo_f hx, if_pos rfl]
      exact zS_r ⟨(zbo_f hx).symm, a2, a3, a4, fun h => absurd h hx⟩
  · rw [zbo_f h9, if_pos rfl]
    have q := h99 (by omega)
    exact zS_r ⟨(zbo_f (by omega)).symm, a2, a3, a4, fun h => by omega⟩
