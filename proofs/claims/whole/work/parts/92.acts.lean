/-! Acts. -/
def wset (W : Nat → Int) (i : Nat) (v : Int) : Nat → Int := fun j => if j = i then v else W j
theorem wset_s {W : Nat → Int} {i : Nat} {v : Int} : wset W i v i = v := if_pos rfl
theorem wset_n {W : Nat → Int} {i j : Nat} {v : Int} (h : j ≠ i) : wset W i v j = W j := if_neg h
theorem zup_w {M : Nat → Nat → Int} {c i : Nat} {v : Int} : zup M c i v c = wset (M c) i v := by
  funext j
  rw [zup_a]
  rfl
theorem wcl_cg {W W' : Nat → Int} : ∀ n, (∀ i, i < n → W' (108 + i) = W (108 + i)) → wcl W' n = wcl W n
  | 0, _ => rfl
  | n + 1, h => by
    have ih := wcl_cg (W := W) (W' := W') n (fun i hi => h i (by omega))
    have e1 : wcl W' (n + 1) = wclS W' n (wcl W' n) := rfl
    have e2 : wcl W (n + 1) = wclS W n (wcl W n) := rfl
    rw [e1, e2, ih]
    unfold wclS
    rw [h n (by omega)]
theorem wsn_cg {W W' : Nat → Int} : ∀ n, (∀ i, i < n → W' (108 + i) = W (108 + i)) → wsn W' n = wsn W n
  | 0, _ => rfl
  | n + 1, h => by
    have ih := wsn_cg (W := W) (W' := W') n (fun i hi => h i (by omega))
    have e1 : wsn W' (n + 1) = wsnS W' n (wsn W' n) := rfl
    have e2 : wsn W (n + 1) = wsnS W n (wsn W n) := rfl
    rw [e1, e2, ih]
    unfold wsnS
    rw [h n (by omega)]
theorem wfd_cg {W W' : Nat → Int} {x : Int} (h5 : W' 5 = W 5) (hw : 0 ≤ W 5 ∧ W 5 ≤ 4) (h : ∀ i, 34 ≤ i → i < 42 → W' i = W i) : wfd W' x = wfd W x := by
  unfold wfd
  rw [h5]
  exact zsum_congr (fun k hk => by rw [h (34 + 2 * k) (by omega) (by omega), h (34 + 2 * k + 1) (by omega) (by omega)])
theorem zTold_w {t : Nat} {M : Nat → Nat → Int} {W W' : Nat → Int} (hw : wOk W) (h : zTold t M W) (e : ∀ i, i ≠ 8 → i < 108 → W' i = W i) : zTold t M W' := by
  obtain ⟨u0, u1, u2, u3, u4, u5, u6, u7, u8, u9, _, _, _, _, unam, _⟩ := hw
  obtain ⟨t0, t1, t2, t3, t4, t5, t6, t7, t8, ts, tw, tn, tc⟩ := h
  unfold zTold
  rw [e 0 (by omega) (by omega), e 1 (by omega) (by omega), e 2 (by omega) (by omega), e 3 (by omega) (by omega), e 9 (by omega) (by omega), e 4 (by omega) (by omega), e 5 (by omega) (by omega), e 6 (by omega) (by omega), e 7 (by omega) (by omega)]
  refine ⟨t0, t1, t2, t3, t4, t5, t6, t7, t8, fun k hk => ?_, fun x hx => ?_, fun p hp => ?_, fun k hk => ?_⟩
  · rw [e (10 + 2 * k) (by omega) (by omega), e (10 + 2 * k + 1) (by omega) (by omega)]
    exact ts k hk
  · rw [wfd_cg (e 5 (by omega) (by omega)) u5 (fun i h1 h2 => e i (by omega) (by omega))]
    exact tw x hx
  · obtain ⟨n1, n2, n3, n4, n5⟩ := tn p hp
    have q := unam p hp
    rw [e (42 + 12 * p) (by omega) (by omega), e (42 + 12 * p + 1) (by omega) (by omega), e (42 + 12 * p + 2) (by omega) (by omega), e (42 + 12 * p + 3) (by omega) (by omega)]
    refine ⟨n1, n2, n3, n4, fun i hi => ?_⟩
    rw [e (42 + 12 * p + 4 + i) (by omega) (by omega)]
    exact n5 i hi
  · rw [e (102 + k) (by omega) (by omega)]
    exact tc k hk
/-- a world with other acts is a world -/
theorem wOk_acts {W W' : Nat → Int} (hw : wOk W) (e : ∀ i, i ≠ 8 → i < 108 → W' i = W i) (h8 : 0 ≤ W' 8 ∧ W' 8 ≤ 30) (h90 : W 9 = 0 → W' 8 = 0) (ha : ∀ i, i < (W' 8).toNat → wact W (W' (108 + i))) : wOk W' := by
  obtain ⟨u0, u1, u2, u3, u4, u5, u6, u7, u8, u9, u90, u91, ustr, uwel, unam, ucon, uact⟩ := hw
  unfold wOk
  rw [e 0 (by omega) (by omega), e 1 (by omega) (by omega), e 2 (by omega) (by omega), e 3 (by omega) (by omega), e 9 (by omega) (by omega), e 4 (by omega) (by omega), e 5 (by omega) (by omega), e 6 (by omega) (by omega), e 7 (by omega) (by omega)]
  refine ⟨u0, u1, u2, u3, u4, u5, u6, u7, h8, u9, fun q => ?_, u91, fun k hk => ?_, fun k hk => ?_, fun p hp => ?_, fun k hk => ?_, fun i hi => ?_⟩
  · obtain ⟨a, b, c, d, f, _⟩ := u90 q
    exact ⟨a, b, c, d, f, h90 q⟩
  · rw [e (10 + 2 * k) (by omega) (by omega), e (10 + 2 * k + 1) (by omega) (by omega)]
    exact ustr k hk
  · rw [e (34 + 2 * k) (by omega) (by omega), e (34 + 2 * k + 1) (by omega) (by omega)]
    exact uwel k hk
  · have q := unam p hp
    rw [e (42 + 12 * p) (by omega) (by omega), e (42 + 12 * p + 1) (by omega) (by omega), e (42 + 12 * p + 2) (by omega) (by omega), e (42 + 12 * p + 3) (by omega) (by omega)]
    obtain ⟨q1, q2, q3, q4, q5, q6, q7, q8, q9⟩ := q
    refine ⟨q1, q2, q3, q4, q5, q6, q7, q8, fun i hi => ?_⟩
    rw [e (42 + 12 * p + 4 + i) (by omega) (by omega)]
    exact q9 i hi
  · rw [e (102 + k) (by omega) (by omega)]
    exact ucon k hk
  · have q := ha i hi
    unfold wact at q ⊢
    rw [e 0 (by omega) (by omega), e 1 (by omega) (by omega), e 6 (by omega) (by omega), e 4 (by omega) (by omega)]
    exact q
/-- the first i acts are played -/
def zPl (a : Nat) (M : Nat → Nat → Int) (W : Nat → Int) (i : Nat) : Prop := zset 12 (M a 1) (wcl W i) ∧ (∀ p n, p < 5 → n < 20 → M (a + 5) (5 * n + p) = wsn W i p n)
section ZAC
variable {W : Nat → Int} {M M1 : Nat → Nat → Int} {x y : Int} {a : Nat}
theorem zset_dn {n : Nat} {z : Int} {f : Nat → Bool} {i : Nat} {o : Nat} (h : zset n z f) (hi : i < n) (hn : n ≤ 30) (ho : o < 2) : zset n (zor (zand z (zxor (zshl 1 (i : Int)) (-1))) (zshl (o : Int) (i : Int))) (fun k => if k = i then decide (o = 1) else f k) := by
  have h1 := zset_down h hi hn
  have h2 := zset_01 (x := (o : Int)) (a := i) (by omega) hi hn
  refine zset_cg (zset_or h1 h2 hn) (fun k _ => ?_)
  show ((!(decide (k = i)) && f k) || (decide (k = i) && decide ((o : Int) = 1))) = if k = i then decide (o = 1) else f k
  by_cases hk : k = i
  · rw [if_pos hk, decide_eq_true hk]
    have : ((o : Int) = 1) ↔ o = 1 := by omega
    simp only [this]
    simp
  · rw [if_neg hk, decide_eq_false hk]
    simp
theorem lA_takeEffect_ok {i : Nat} (hz : zis 0 a = true) (hw6 : (W 6).toNat ≤ 5) (hw0 : (W 0).toNat ≤ 8) (hw1 : (W 1).toNat ≤ 20) (hw4 : (W 4).toNat ≤ 12) (hi : i < 30) (hA : zAct a M W i) (hP : zPl a M W i) : zS (lA_takeEffect a (i : Int) M) (fun M' => zPl a M' W (i + 1) ∧ (∀ c j, c ≠ a + 5 → ¬ (c = a ∧ j = 1) → M' c j = M c j)) := by
  have ha : 22 < a := by rcases zis_0 hz with rfl | rfl | rfl | rfl <;> omega
  have e1 : wcl W (i + 1) = wclS W i (wcl W i) := rfl
  have e2 : wsn W (i + 1) = wsnS W i (wsn W i) := rfl
  unfold lA_takeEffect
  rw [if_pos hz]
  refine zS_b (rdI_n (sh_A1 hz) hi) ?_
  rcases hA with ⟨k0, p, c, n, hp, hc, hn, m2, m3, m4, hWi⟩ | ⟨k0, k, o, hk, ho, m2, m3, hWi⟩
  · rw [k0, if_pos rfl]
    refine zS_b (rdI_n (sh_A4 hz) hi) ?_
    refine zS_b (rdI_n (sh_A2 hz) hi) ?_
    refine zS_b (rdI_n (sh_A3 hz) hi) ?_
    rw [m2, m3, m4, w5' (by omega) (by omega)]
    refine zS_b (wrI_n (sh_A5 hz) (by omega)) ?_
    refine zS_r ⟨⟨?_, fun q l hq hl => ?_⟩, fun c' j h1 h2 => ?_⟩
    · rw [zup_c (by omega), e1]
      unfold wclS
      rw [if_neg (by omega)]
      exact hP.1
    · rw [e2]
      unfold wsnS
      rw [if_neg (show ¬ (W (108 + i) < 10000) by omega), zup_a, hP.2 q l hq hl]
      show _ = if q + 1 = (W (108 + i)).toNat / 10000 ∧ l = (W (108 + i)).toNat % 100 then W (108 + i) / 100 % 100 else wsn W i q l
      by_cases hql : q = p ∧ l = n
      · rw [if_pos (by omega), if_pos (by omega)]
        omega
      · rw [if_neg (by omega), if_neg (by omega)]
    · rw [zup_c h1]
  · rw [k0, if_neg (by decide)]
    refine zS_b (rdI_n (sh_A2 hz) hi) ?_
    refine zS_b (rdI_n (sh_A3 hz) hi) ?_
    refine zS_b (rdI_n (sh_A2 hz) hi) ?_
    rw [m2, m3]
    refine zS_b rfl ?_
    refine zS_r ⟨⟨?_, fun q l hq hl => ?_⟩, fun c' j h1 h2 => ?_⟩
    · rw [zup_s, e1]
      refine zset_cg (zset_dn hP.1 (show k < 12 by omega) (by omega) ho) (fun x _ => ?_)
      unfold wclS
      rw [if_pos (show W (108 + i) < 10000 by omega)]
      show (if x = k then decide (o = 1) else wcl W i x) = if x = (W (108 + i)).toNat / 2 then decide (W (108 + i) % 2 = 1) else wcl W i x
      rw [show (W (108 + i)).toNat / 2 = k by omega]
      have : (W (108 + i) % 2 = 1) ↔ o = 1 := by omega
      simp only [this]
    · rw [zup_c (by omega), e2]
      unfold wsnS
      rw [if_pos (by omega)]
      exact hP.2 q l hq hl
    · by_cases hca : c' = a
      · rw [hca, zup_i (fun q => h2 ⟨hca, q⟩)]
      · rw [zup_c hca]
theorem zAct_cg1 {a i : Nat} {M M' : Nat → Nat → Int} {W : Nat → Int} (h : zAct a M W i) (e1 : M' (a + 1) i = M (a + 1) i) (e2 : M' (a + 2) i = M (a + 2) i) (e3 : M' (a + 3) i = M (a + 3) i) (e4 : M' (a + 4) i = M (a + 4) i) : zAct a M' W i := by
  unfold zAct at h ⊢
  rw [e1, e2, e3, e4]
  exact h
theorem lA_playAgain_ok (hz : zis 0 a = true) (hw : wOk W) (h0 : M a 0 = W 8) (hA : ∀ i, i < (W 8).toNat → zAct a M W i) : zS (lA_playAgain a M) (fun M' => zActs a M' W ∧ (∀ c j, c ≠ a + 5 → ¬ (c = a ∧ j = 1) → M' c j = M c j)) := by
  obtain ⟨u0, u1, u2, u3, u4, u5, u6, u7, u8, _⟩ := hw
  have ha : 22 < a := by rcases zis_0 hz with rfl | rfl | rfl | rfl <;> omega
  unfold lA_playAgain
  rw [if_pos hz]
  refine zS_b rfl ?_
  refine zS_m (lY_fill_329_ok (n := 100) (sh_A5 hz) (by omega)) ?_
  intro M2 ⟨g1, g2⟩
  have hf : ∀ c j, c ≠ a + 5 → ¬ (c = a ∧ j = 1) → M2 c j = M c j := fun c j h1 h2 => by
    rw [g1 c h1]
    by_cases hca : c = a
    · rw [hca, zup_i (fun q => h2 ⟨hca, q⟩)]
    · rw [zup_c hca]
  refine loopI (fun m i (N : Nat → Nat → Int) => lA_playAgain_c15 a m (i : Int) N) (fun i N => zPl a N W i ∧ (∀ c j, c ≠ a + 5 → ¬ (c = a ∧ j = 1) → N c j = M c j)) (a0 := M2) 0 (W 8).toNat (by omega) ⟨⟨?_, fun p n hp hn => ?_⟩, hf⟩ ?_ ?_ zN (zN_gt (by omega))
  · rw [g1 a (by omega), zup_s]
    exact zset_0
  · rw [g2 _ (by omega)]
    rfl
  · intro m i N _ hi ⟨hP, hN⟩ k
    show zS (lA_playAgain_c15 a (m + 1) (i : Int) N) _
    rw [lA_playAgain_c15]
    refine zS_it (by rw [hN a 0 (by omega) (by omega), h0]; omega) ?_
    rw [w1 (by omega)]
    have hAi : zAct a N W i := zAct_cg1 (hA i hi) (hN _ _ (by omega) (by omega)) (hN _ _ (by omega) (by omega)) (hN _ _ (by omega) (by omega)) (hN _ _ (by omega) (by omega))
    refine zS_m (lA_takeEffect_ok hz (by omega) (by omega) (by omega) (by omega) (by omega) hAi hP) ?_
    intro N2 ⟨q1, q2⟩
    exact k N2 ⟨q1, fun c j h1 h2 => (q2 c j h1 h2).trans (hN c j h1 h2)⟩
  · intro m N ⟨hP, hN⟩
    show zS (lA_playAgain_c15 a (m + 1) ((W 8).toNat : Int) N) _
    rw [lA_playAgain_c15]
    refine zS_ie (by rw [hN a 0 (by omega) (by omega), h0]; omega) ?_
    refine zS_r ⟨⟨?_, hP.1, fun i hi => ?_, hP.2⟩, hN⟩
    · rw [hN a 0 (by omega) (by omega), h0]
    · exact zAct_cg1 (hA i hi) (hN _ _ (by omega) (by omega)) (hN _ _ (by omega) (by omega)) (hN _ _ (by omega) (by omega)) (hN _ _ (by omega) (by omega))
end ZAC
/-- an act as the class keeps it -/
def zNa (W : Nat → Int) (k x y z v : Int) : Prop := (k = 0 ∧ ∃ p c n : Nat, p < (W 6).toNat ∧ c < (W 0).toNat ∧ n < (W 1).toNat ∧ x = (p : Int) ∧ y = (c : Int) ∧ z = (n : Int) ∧ v = ((10000 * (p + 1) + 100 * c + n : Nat) : Int)) ∨ (k = 1 ∧ ∃ q o : Nat, q < (W 4).toNat ∧ o < 2 ∧ x = (q : Int) ∧ y = (o : Int) ∧ v = ((2 * q + o : Nat) : Int))
theorem zNa_w {W : Nat → Int} {k x y z v : Int} (h : zNa W k x y z v) : wact W v := by
  rcases h with ⟨_, p, c, n, hp, hc, hn, _, _, _, e⟩ | ⟨_, q, o, hq, ho, _, _, e⟩
  · exact Or.inl ⟨p, c, n, hp, hc, hn, e⟩
  · exact Or.inr ⟨q, o, hq, ho, e⟩
def wadd (W : Nat → Int) (v : Int) : Nat → Int := wset (wset W (108 + (W 8).toNat) v) 8 (W 8 + 1)
theorem wadd_8 {W : Nat → Int} {v : Int} : wadd W v 8 = W 8 + 1 := wset_s
theorem wadd_n {W : Nat → Int} {v : Int} {i : Nat} (h : i ≠ 8) (h2 : i ≠ 108 + (W 8).toNat) : wadd W v i = W i := by
  unfold wadd
  rw [wset_n h, wset_n h2]
theorem wadd_a {W : Nat → Int} {v : Int} : wadd W v (108 + (W 8).toNat) = v := by
  unfold wadd
  rw [wset_n (by omega), wset_s]
theorem wadd_ok {W : Nat → Int} {k x y z v : Int} (hw : wOk W) (h30 : W 8 < 30) (h9 : 0 < W 9) (h : zNa W k x y z v) : wOk (wadd W v) := by
  have hact := hw.2.2.2.2.2.2.2.2.2.2.2.2.2.2.2.2
  have h8 := hw.2.2.2.2.2.2.2.2.1
  have hv := zNa_w h
  clear h
  refine wOk_acts hw (fun i h1 h2 => wadd_n h1 (by omega)) ?_ (fun q => by omega) (fun i hi => ?_)
  · rw [wadd_8]; omega
  · rw [wadd_8] at hi
    by_cases e : i = (W 8).toNat
    · rw [e, wadd_a]; exact hv
    · rw [wadd_n (by omega) (by omega)]; exact hact i (by omega)
theorem lA_add_ok {W : Nat → Int} {M : Nat → Nat → Int} {a : Nat} {k x y z v : Int} (hz : zis 0 a = true) (hw : wOk W) (h30 : W 8 < 30) (h : zActs a M W) (hA : zNa W k x y z v) : zS (lA_add a k x y z M) (fun M' => zActs a M' (wadd W v) ∧ (∀ c, c < a ∨ a + 5 < c → M' c = M c)) := by
  obtain ⟨u0, u1, u2, u3, u4, u5, u6, u7, u8, _⟩ := hw
  obtain ⟨a0, a1, a2, a3⟩ := h
  have ha : 22 < a := by rcases zis_0 hz with rfl | rfl | rfl | rfl <;> omega
  obtain ⟨n, hn⟩ : ∃ n : Nat, W 8 = (n : Int) := ⟨(W 8).toNat, by omega⟩
  have hnn : (W 8).toNat = n := by omega
  have w0 : wadd W v 0 = W 0 := wadd_n (by omega) (by omega)
  have w1' : wadd W v 1 = W 1 := wadd_n (by omega) (by omega)
  have w4 : wadd W v 4 = W 4 := wadd_n (by omega) (by omega)
  have w6 : wadd W v 6 = W 6 := wadd_n (by omega) (by omega)
  have wi : ∀ i, i < n → wadd W v (108 + i) = W (108 + i) := fun i hi => wadd_n (by omega) (by omega)
  have wn : wadd W v (108 + n) = v := by rw [← hnn]; exact wadd_a
  have w8' : wadd W v 8 = ((n + 1 : Nat) : Int) := by rw [wadd_8, hn]; omega
  have c1 : wcl (wadd W v) n = wcls W := by
    unfold wcls
    rw [wcl_cg n wi, hnn]
  have c2 : wsn (wadd W v) n = wsent W := by
    unfold wsent
    rw [wsn_cg n wi, hnn]
  generalize wadd W v = W' at w0 w1' w4 w6 wi wn w8' c1 c2 ⊢
  rw [hn] at a0 h30
  unfold lA_add
  rw [if_pos hz, a0]
  refine zS_it h30 ?_
  refine zS_b (wrI_n (sh_A1 hz) (by omega)) ?_
  rw [zup_c (show a ≠ a + 1 by omega), a0]
  refine zS_b (wrI_n (sh_A2 hz) (by omega)) ?_
  rw [zup_c (show a ≠ a + 2 by omega), zup_c (show a ≠ a + 1 by omega), a0]
  refine zS_b (wrI_n (sh_A3 hz) (by omega)) ?_
  rw [zup_c (show a ≠ a + 3 by omega), zup_c (show a ≠ a + 2 by omega), zup_c (show a ≠ a + 1 by omega), a0]
  refine zS_b (wrI_n (sh_A4 hz) (by omega)) ?_
  refine zS_b rfl ?_
  have g0 : zup (zup (zup (zup M (a + 1) n k) (a + 2) n x) (a + 3) n y) (a + 4) n z a 0 = (n : Int) := by
    rw [zup_c (by omega), zup_c (by omega), zup_c (by omega), zup_c (by omega), a0]
  have gc : ∀ c, c < a + 1 ∨ a + 4 < c → zup (zup (zup (zup M (a + 1) n k) (a + 2) n x) (a + 3) n y) (a + 4) n z c = M c := fun c hc => by
    rw [zup_c (by omega), zup_c (by omega), zup_c (by omega), zup_c (by omega)]
  have g1 : ∀ i, zup (zup (zup (zup M (a + 1) n k) (a + 2) n x) (a + 3) n y) (a + 4) n z (a + 1) i = if i = n then k else M (a + 1) i := fun i => by
    rw [zup_c (by omega), zup_c (by omega), zup_c (by omega), zup_a]
  have g2 : ∀ i, zup (zup (zup (zup M (a + 1) n k) (a + 2) n x) (a + 3) n y) (a + 4) n z (a + 2) i = if i = n then x else M (a + 2) i := fun i => by
    rw [zup_c (by omega), zup_c (by omega), zup_a, zup_c (by omega)]
  have g3 : ∀ i, zup (zup (zup (zup M (a + 1) n k) (a + 2) n x) (a + 3) n y) (a + 4) n z (a + 3) i = if i = n then y else M (a + 3) i := fun i => by
    rw [zup_c (by omega), zup_a, zup_c (by omega), zup_c (by omega)]
  have g4 : ∀ i, zup (zup (zup (zup M (a + 1) n k) (a + 2) n x) (a + 3) n y) (a + 4) n z (a + 4) i = if i = n then z else M (a + 4) i := fun i => by
    rw [zup_a, zup_c (by omega), zup_c (by omega), zup_c (by omega)]
  generalize zup (zup (zup (zup M (a + 1) n k) (a + 2) n x) (a + 3) n y) (a + 4) n z = N at g0 gc g1 g2 g3 g4 ⊢
  rw [g0, w1 (by omega), zup_s, w32_eq (by omega) (by omega), show ((n + 1 : Nat) : Int) - 1 = (n : Int) by omega]
  have hN : ∀ c, c ≠ a → zup N a 0 ((n + 1 : Nat) : Int) c = N c := fun c hc => zup_c hc
  have hN0 : zup N a 0 ((n + 1 : Nat) : Int) a 0 = ((n + 1 : Nat) : Int) := zup_s
  have hN1 : zup N a 0 ((n + 1 : Nat) : Int) a 1 = M a 1 := by rw [zup_i (by omega), gc a (by omega)]
  generalize zup N a 0 ((n + 1 : Nat) : Int) = N2 at hN hN0 hN1 ⊢
  have hAll : ∀ i, i < n + 1 → zAct a N2 W' i := fun i hi => by
    unfold zAct
    rw [hN (a + 1) (by omega), hN (a + 2) (by omega), hN (a + 3) (by omega), hN (a + 4) (by omega), g1, g2, g3, g4, w0, w1', w4, w6]
    by_cases e : i = n
    · rw [if_pos e, if_pos e, if_pos e, if_pos e, e, wn]
      exact hA
    · rw [if_neg e, if_neg e, if_neg e, if_neg e, wi i (by omega)]
      exact a2 i (by omega)
  have hP : zPl a N2 W' n := by
    refine ⟨?_, fun p l hp hl => ?_⟩
    · rw [hN1, c1]; exact a1
    · rw [hN (a + 5) (by omega), gc (a + 5) (by omega), c2]; exact a3 p l hp hl
  refine zS_m (lA_takeEffect_ok (i := n) hz (by omega) (by omega) (by omega) (by omega) (by omega) (hAll n (by omega)) hP) ?_
  intro M' ⟨q1, q2⟩
  have e8 : (W' 8).toNat = n + 1 := by omega
  refine zS_r ⟨⟨?_, ?_, fun i hi => ?_, fun p l hp hl => ?_⟩, fun c hc => ?_⟩
  · rw [q2 a 0 (by omega) (by omega), hN0, w8']
  · unfold wcls
    rw [e8]
    exact q1.1
  · exact zAct_cg1 (hAll i (by omega)) (q2 _ _ (by omega) (by omega)) (q2 _ _ (by omega) (by omega)) (q2 _ _ (by omega) (by omega)) (q2 _ _ (by omega) (by omega))
  · unfold wsent
    rw [e8]
    exact q1.2 p l hp hl
  · funext j
    rw [q2 c j (by omega) (by omega), hN c (by omega), gc c (by omega)]
/-- fewer acts -/
def wfew (W : Nat → Int) (n : Nat) : Nat → Int := wset W 8 (n : Int)
theorem wfew_8 {W : Nat → Int} {n : Nat} : wfew W n 8 = (n : Int) := wset_s
theorem wfew_n {W : Nat → Int} {n i : Nat} (h : i ≠ 8) : wfew W n i = W i := wset_n h
theorem wfew_ok {W : Nat → Int} {n : Nat} (hw : wOk W) (hn : (n : Int) ≤ W 8) : wOk (wfew W n) := by
  have hact := hw.2.2.2.2.2.2.2.2.2.2.2.2.2.2.2.2
  have h8 := hw.2.2.2.2.2.2.2.2.1
  have h90 := hw.2.2.2.2.2.2.2.2.2.2.1
  refine wOk_acts hw (fun i h1 h2 => wfew_n h1) ?_ (fun q => ?_) (fun i hi => ?_)
  · rw [wfew_8]; omega
  · have := h90 q
    rw [wfew_8]; omega
  · rw [wfew_8] at hi
    rw [wfew_n (by omega)]; exact hact i (by omega)
theorem zfew_ok {W : Nat → Int} {M : Nat → Nat → Int} {a n : Nat} (hz : zis 0 a = true) (hw : wOk W) (hn : (n : Int) ≤ W 8) (h0 : M a 0 = (n : Int)) (h : ∀ i, i < (W 8).toNat → zAct a M W i) : zS (lA_playAgain a M) (fun M' => zActs a M' (wfew W n) ∧ (∀ c, c < a ∨ a + 5 < c → M' c = M c)) := by
  have ha : 22 < a := by rcases zis_0 hz with rfl | rfl | rfl | rfl <;> omega
  refine zS_mono (lA_playAgain_ok hz (wfew_ok hw hn) (by rw [wfew_8]; exact h0) (fun i hi => ?_)) ?_
  · rw [wfew_8] at hi
    have q := h i (by omega)
    unfold zAct at q ⊢
    rw [wfew_n (by omega), wfew_n (by omega), wfew_n (by omega), wfew_n (by omega), wfew_n (by omega)]
    exact q
  · intro M' ⟨q1, q2⟩
    refine ⟨q1, fun c hc => ?_⟩
    funext j
    exact q2 c j (by omega) (by omega)
