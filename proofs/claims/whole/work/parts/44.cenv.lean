/-! What the class's day rests on, from what is told. -/
theorem lY_fill_329_ok {c n : Nat} {v : Int} {M : Nat → Nat → Int} (h : zSH[c]? = some (0, n)) (hn : n ≤ 1000) : zS (lY_fill_329 c v M) (fun M' => (∀ e, e ≠ c → M' e = M e) ∧ ∀ i, i < n → M' c i = v) := by
  have hl : lnA c = some (n : Int) := by
    unfold lnA
    rw [h]
    show (if 0 < 6 then some (w32 (n : Int)) else none) = _
    rw [if_pos (by decide), w32_eq (by omega) (by omega)]
  unfold lY_fill_329
  refine zS_b hl ?_
  refine loopI (fun m i M => lY_fill_329_c5 c v m (i : Int) (n : Int) M) (fun i M' => (∀ e, e ≠ c → M' e = M e) ∧ ∀ j, j < i → M' c j = v) 0 n (by omega) ?_ ?_ ?_ zN (zN_gt (by omega))
  · exact ⟨fun _ _ => rfl, fun i hi => by omega⟩
  · intro m i M1 _ hi ⟨h1, h2⟩ k
    show zS (lY_fill_329_c5 c v (m + 1) (i : Int) (n : Int) M1) _
    rw [lY_fill_329_c5]
    refine zS_it (by omega) ?_
    rw [w1 (by omega)]
    refine zS_b (wrI_n h hi) ?_
    refine k _ ⟨fun e he => (zup_c he).trans (h1 e he), fun j hj => ?_⟩
    rw [zup_a]
    by_cases hji : j = i
    · rw [if_pos hji]
    · rw [if_neg hji]; exact h2 j (by omega)
  · intro m M1 hI
    show zS (lY_fill_329_c5 c v (m + 1) (n : Int) (n : Int) M1) _
    rw [lY_fill_329_c5]
    refine zS_ie (by omega) ?_
    exact zS_r hI
theorem cpA_n {a b k n0 n1 sp dp n : Nat} {M : Nat → Nat → Int} (ha : zSH[a]? = some (k, n0)) (hb : zSH[b]? = some (k, n1)) (hk : k = 0 ∨ k = 2) (h0 : sp + n ≤ n0) (h1 : dp + n ≤ n1) : cpA a (sp : Int) b (dp : Int) (n : Int) M = some (zcpy M a sp b dp n) := by
  unfold cpA
  rw [ha, hb]
  show (if k = k ∧ (k = 0 ∨ k = 2) ∧ 0 ≤ (sp : Int) ∧ 0 ≤ (dp : Int) ∧ 0 ≤ (n : Int) ∧ (sp : Int) + n ≤ n0 ∧ (dp : Int) + n ≤ n1 then some (zcpy M a (sp : Int).toNat b (dp : Int).toNat (n : Int).toNat) else none) = _
  rw [if_pos ⟨rfl, hk, by omega, by omega, by omega, by omega, by omega⟩]
  rfl
theorem zcpy_c {M : Nat → Nat → Int} {a b c sp dp n : Nat} (h : c ≠ b) : zcpy M a sp b dp n c = M c := by
  funext j
  exact if_neg (fun e => h e.1)
theorem zcpy_0 {M : Nat → Nat → Int} {a b n j : Nat} (h : j < n) : zcpy M a 0 b 0 n b j = M a j := by
  have e : zcpy M a 0 b 0 n b j = if b = b ∧ 0 ≤ j ∧ j < 0 + n then M a (0 + (j - 0)) else M b j := rfl
  rw [e, if_pos ⟨rfl, by omega, by omega⟩]
  rw [show 0 + (j - 0) = j by omega]
theorem zis_13 {d : Nat} (hd : zis 1 d = true) : zis 3 (d + 1) = true := by
  rcases zis_1 hd with rfl | rfl
  · exact zis_3_30
  · exact zis_3_38
set_option maxHeartbeats 4000000 in
theorem lN_build_ok {d : Nat} {x : Int} {M : Nat → Nat → Int} {W : Nat → Int} {cl : Nat → Bool} (hd : zis 1 d = true) (hw : wOk W) (ht : zTold 3 M W) (hx : zset 12 x cl) : zS (lN_build (d + 1) 3 x M) (fun C => (∀ c, c ≠ d + 2 → C c = M c) ∧ ∀ a : Nat, a < 8 → zset 8 (C (d + 2) a) (fun b => wjn W cl (a : Int) (b : Int))) := by
  have h4 := hw.2.2.2.2.1
  have h0 := hw.1
  have hst := hw.2.2.2.2.2.2.2.2.2.2.2.2.1
  have hd2 : 28 < d := by rcases zis_1 hd with rfl | rfl <;> omega
  unfold lN_build
  rw [if_pos (zis_13 hd), if_pos zis_6_3]
  refine zS_m (lY_fill_329_ok (n := 8) (sh_D2 hd) (by omega)) ?_
  intro M0 ⟨a1, a2⟩
  refine loopI (fun m i M => lN_build_c10 (d + 1) 3 x m (i : Int) M) (fun i M' => (∀ c, c ≠ d + 2 → M' c = M c) ∧ ∀ a : Nat, a < 8 → zset 8 (M' (d + 2) a) (fun b => wjnN W cl i (a : Int) (b : Int))) 0 (W 4).toNat (by omega) ?_ ?_ ?_ zN (zN_gt (by omega))
  · refine ⟨a1, fun a ha => ?_⟩
    have e := a2 a ha
    have e : M0 (d + 2) a = 0 := e
    rw [e]
    exact zset_0
  · intro m i M1 _ hi ⟨h1, h2⟩ k
    obtain ⟨s1, s2, s3, s4, s5⟩ := hst i hi
    obtain ⟨t1, t2⟩ := ht.2.2.2.2.2.2.2.2.2.1 i hi
    show zS (lN_build_c10 (d + 1) 3 x (m + 1) (i : Int) M1) _
    rw [lN_build_c10]
    refine zS_it (by rw [h1 3 (by omega), ht.2.2.2.2.2.1]; omega) ?_
    rw [w1 (by omega), zset_bit hx (by omega) (by omega)]
    cases hcl : cl i with
    | true =>
      rw [if_pos rfl, if_neg (by decide)]
      refine k _ ⟨h1, fun a ha => zset_cg (h2 a ha) (fun b _ => ?_)⟩
      rw [wjnN_s, hcl]
      simp
    | false =>
      rw [if_pos (by decide)]
      obtain ⟨u, hu⟩ : ∃ u : Nat, W (10 + 2 * i) = (u : Int) := ⟨(W (10 + 2 * i)).toNat, by omega⟩
      obtain ⟨v, hv⟩ : ∃ v : Nat, W (10 + 2 * i + 1) = (v : Int) := ⟨(W (10 + 2 * i + 1)).toNat, by omega⟩
      rw [hu] at t1
      rw [hv] at t2
      have f4 : ∀ N : Nat → Nat → Int, N 4 = M 4 → rdI (3 + 1) (i : Int) N = some (u : Int) := fun N e => by
        rw [rdI_n sh_4 (by omega), e]
        exact congrArg some t1
      have f5 : ∀ N : Nat → Nat → Int, N 5 = M 5 → rdI (3 + 2) (i : Int) N = some (v : Int) := fun N e => by
        rw [rdI_n sh_5 (by omega), e]
        exact congrArg some t2
      refine zS_b (f4 M1 (h1 4 (by omega))) ?_
      refine zS_b (rdI_n (sh_D2 hd) (by omega)) ?_
      refine zS_b (f5 M1 (h1 5 (by omega))) ?_
      refine zS_b (wrI_n (sh_D2 hd) (by omega)) ?_
      refine zS_b (f5 _ (by rw [zup_c (show 5 ≠ d + 2 by omega)]; exact h1 5 (by omega))) ?_
      refine zS_b (rdI_n (sh_D2 hd) (by omega)) ?_
      refine zS_b (f4 _ (by rw [zup_c (show 4 ≠ d + 2 by omega)]; exact h1 4 (by omega))) ?_
      refine zS_b (wrI_n (sh_D2 hd) (by omega)) ?_
      rw [zup_i (show v ≠ u by omega)]
      refine k _ ⟨fun c hc => by rw [zup_c hc, zup_c hc]; exact h1 c hc, fun a ha => ?_⟩
      rw [zup_a, zup_a]
      have hup : ∀ b : Nat, b < 8 → zset 8 (zor (M1 (d + 2) a) (zshl 1 (b : Int))) (fun k => decide (k = b) || wjnN W cl i (a : Int) (k : Int)) := fun b hb => zset_up (h2 a ha) hb (by omega)
      by_cases hav : a = v
      · rw [if_pos hav, ← hav]
        refine zset_cg (hup u (by omega)) (fun b _ => ?_)
        show (decide (b = u) || wjnN W cl i (a : Int) (b : Int)) = wjnN W cl (i + 1) (a : Int) (b : Int)
        rw [wjnN_s, hcl, hu, hv, Bool.or_comm]
        congr 1
        rw [decide_eq_false (show ¬ ((u : Int) = (a : Int)) by omega), decide_eq_true (show ((v : Int) = (a : Int)) by omega)]
        by_cases hb : b = u
        · rw [decide_eq_true hb, decide_eq_true (show (u : Int) = (b : Int) by omega)]
          simp
        · rw [decide_eq_false hb, decide_eq_false (show ¬ ((u : Int) = (b : Int)) by omega)]
          simp
      · rw [if_neg hav]
        by_cases hau : a = u
        · rw [if_pos hau, ← hau]
          refine zset_cg (hup v (by omega)) (fun b _ => ?_)
          show (decide (b = v) || wjnN W cl i (a : Int) (b : Int)) = wjnN W cl (i + 1) (a : Int) (b : Int)
          rw [wjnN_s, hcl, hu, hv, Bool.or_comm]
          congr 1
          rw [decide_eq_true (show ((u : Int) = (a : Int)) by omega), decide_eq_false (show ¬ ((v : Int) = (a : Int)) by omega)]
          by_cases hb : b = v
          · rw [decide_eq_true hb, decide_eq_true (show (v : Int) = (b : Int) by omega)]
            simp
          · rw [decide_eq_false hb, decide_eq_false (show ¬ ((v : Int) = (b : Int)) by omega)]
            simp
        · rw [if_neg hau]
          refine zset_cg (h2 a ha) (fun b _ => ?_)
          rw [wjnN_s, hcl, hu, hv, decide_eq_false (show ¬ ((u : Int) = (a : Int)) by omega), decide_eq_false (show ¬ ((v : Int) = (a : Int)) by omega)]
          simp
  · intro m M1 ⟨h1, h2⟩
    show zS (lN_build_c10 (d + 1) 3 x (m + 1) ((W 4).toNat : Int) M1) _
    rw [lN_build_c10]
    refine zS_ie (by rw [h1 3 (by omega), ht.2.2.2.2.2.1]; omega) ?_
    exact zS_r ⟨h1, h2⟩
theorem zcE_cg {d : Nat} {C M : Nat → Nat → Int} {E : zE} (h : zcE d C E) (ha : zag d C M) : zcE d M E := by
  obtain ⟨hd, hok, hB, hC, hF, hA, hJ, hL, hP⟩ := h
  have hMd : M d = C d := ha d (by omega) (by omega) (by omega)
  refine ⟨hd, hok, by rw [zag_lt hd ha (by omega)]; exact hB, by rw [zag_lt hd ha (by omega)]; exact hC, fun x h0 h1 => ?_, fun p n hp hn => ?_, fun x y h0 h1 h2 h3 => ?_, by rw [hMd]; exact hL, fun k hk => by rw [zag_lt hd ha (by omega)]; exact hP k hk⟩
  · exact (lD_inkAt_cg hMd (zag_lt hd ha (by omega))).trans (hF x h0 h1)
  · exact (lD_aimOf_cg hMd (zag_lt hd ha (by omega)) (zag_lt hd ha (by omega)) (zag_lt hd ha (by omega))).trans (hA p n hp hn)
  · exact (lN_joins_cg (ha (d + 1 + 1) (by omega) (by omega) (by omega))).trans (hJ x y h0 h1 h2 h3)
/-- what a day of the class is told -/
def zcI (d : Nat) (M : Nat → Nat → Int) (W H I : Nat → Int) (st cl : Nat → Bool) (L dug : Int) : Prop := zis 1 d = true ∧ wOk W ∧ zTold 3 M W ∧ (∀ p n, p < 5 → n < 20 → M 28 (5 * n + p) = wsent W p n) ∧ M d 8 = L ∧ zset 12 (M d 9) cl ∧ zset 5 (M d 10) st ∧ M d 11 = dug ∧ (∀ p, p < (W 6).toNat → M (d + 3) p = H p ∧ M (d + 4) p = I p ∧ 0 ≤ H p ∧ H p < 8 ∧ 0 ≤ I p ∧ I p ≤ 60)
def wfdg (W : Nat → Int) (dug x : Int) : Int := wfd W x + (if x = dug then 20 else 0)
theorem zc_env {d : Nat} {M C : Nat → Nat → Int} {W H I : Nat → Int} {st cl rn : Nat → Bool} {L dug : Int} (h : zcI d M W H I st cl L dug) (hc : ∀ c, c ≠ d + 2 → C c = M c) (hn : ∀ a : Nat, a < 8 → zset 8 (C (d + 2) a) (fun b => wjn W cl (a : Int) (b : Int))) : zcE d C (zeW W H I (wfdg W dug) st cl rn L) ∧ (∀ p, p < (W 6).toNat → C (d + 3) p = H p ∧ C (d + 4) p = I p) ∧ C 3 1 = ((W 1).toNat : Int) ∧ (W 1).toNat ≤ 20 := by
  obtain ⟨hd, hw, ht, hs, hL, hcl, hst, hdug, hHI⟩ := h
  have hw0 := hw
  obtain ⟨h0, h1, _, _, h4, h5, h6, h7, _, _, _, _, hstr, hwel, hnam, hcon, _⟩ := hw
  have ht0 := ht
  obtain ⟨_, t1, _, _, _, _, _, t7, t8, _, tw, tn, tc⟩ := ht
  have hd30 : 28 < d := by rcases zis_1 hd with rfl | rfl <;> omega
  have hok : zeOk (zeW W H I (wfdg W dug) st cl rn L) := zeW_ok hw0 (fun p hp => by have := hHI p hp; omega) (fun p hp => by have := hHI p hp; omega) (fun x _ _ => by
    have q := wfd_b (W := W) (x := x) hw0
    unfold wfdg
    split <;> omega)
  refine ⟨⟨hd, hok, ?_, ?_, fun x x0 x1 => ?_, fun p n hp hn20 => ?_, fun x y x0 x1 y0 y1 => ?_, ?_, fun k hk => ?_⟩, fun p hp => ?_, ?_, by omega⟩
  · rw [hc 3 (by omega), t7]
    show W 6 = ((W 6).toNat : Int)
    omega
  · rw [hc 3 (by omega), t8]
    show W 7 = ((W 7).toNat : Int)
    omega
  · obtain ⟨X, rfl⟩ : ∃ X : Nat, x = (X : Int) := ⟨x.toNat, by omega⟩
    have q := wfd_b (W := W) (x := (X : Int)) hw0
    unfold lD_inkAt
    rw [if_pos hd, rdI_n sh_6 (by omega), hc 6 (by omega), hc d (by omega), hdug]
    show (if (X : Int) = dug then some (w32 (M 6 X + 20)) else some (w32 (M 6 X + 0))) = some (wfdg W dug (X : Int))
    have e6 : M 6 X = wfd W (X : Int) := tw X (by omega)
    unfold wfdg
    rw [e6]
    by_cases hx : (X : Int) = dug
    · rw [if_pos hx, if_pos hx, w32_eq (by omega) (by omega)]
    · rw [if_neg hx, if_neg hx, w32_eq (by omega) (by omega)]
  · show lD_aimOf d (p : Int) (n : Int) C = some (wam W st p n)
    have hp6 : p < (W 6).toNat := hp
    have hq := hnam p hp6
    obtain ⟨_, _, _, tl, twk⟩ := tn p hp6
    have e28 : C 28 (5 * n + p) = wsent W p n := by rw [hc 28 (by omega)]; exact hs p n (by omega) hn20
    have e10 : C 10 p = W (42 + 12 * p + 3) := by rw [hc 10 (by omega)]; exact tl
    unfold lD_aimOf wam
    rw [if_pos hd, hc d (by omega), zset_bit hst (by omega) (by omega), w5' (by omega) (by omega), rdI_n sh_28 (by omega), rdI_n sh_10 (by omega), e28, e10]
    by_cases c1 : st p = true
    · rw [if_pos c1, if_pos c1, if_neg (by decide)]
    · rw [if_neg c1, if_neg c1, if_pos rfl]
      show (if wsent W p n = -1 then (if 0 < W (42 + 12 * p + 3) then _ else _) else _) = _
      by_cases c2 : wsent W p n = -1
      · rw [if_pos c2, if_neg (show ¬ (wsent W p n ≠ -1) from fun h => h c2)]
        by_cases c3 : W (42 + 12 * p + 3) = 0
        · rw [if_neg (by omega), if_pos c3]
        · rw [if_pos (by omega), if_neg c3, if_neg c3]
          obtain ⟨l, hl⟩ : ∃ l : Nat, W (42 + 12 * p + 3) = (l : Int) := ⟨(W (42 + 12 * p + 3)).toNat, by omega⟩
          have hml : n % l < l := Nat.mod_lt _ (by omega)
          have er : zrem (n : Int) (W (42 + 12 * p + 3)) = ((n % l : Nat) : Int) := by rw [hl]; exact zrem_nat (by omega) (by omega)
          have ew : w32 (w32 ((p : Int) * 8) + zrem (n : Int) (W (42 + 12 * p + 3))) = ((8 * p + n % l : Nat) : Int) := by
            rw [er]
            simp (disch := omega) only [w32_eq]
            omega
          rw [ew, rdI_n sh_11 (by omega), hc 11 (by omega)]
          show some (M 11 (8 * p + n % l)) = _
          have e11 : M 11 (8 * p + n % l) = W (42 + 12 * p + 4 + n % l) := twk (n % l) (by omega)
          rw [e11, hl, Int.toNat_natCast]
      · rw [if_neg c2, if_pos c2]
  · obtain ⟨X, rfl⟩ : ∃ X : Nat, x = (X : Int) := ⟨x.toNat, by omega⟩
    show lN_joins (d + 1) (X : Int) y C = some (zbo (wjn W cl (X : Int) y = true))
    unfold lN_joins
    rw [if_pos (zis_13 hd)]
    by_cases hy : y < 0
    · rw [if_pos hy, zbo_f]
      intro hj
      obtain ⟨k, hk, _, h⟩ := wjn_1.mp hj
      have q := hstr k hk
      rcases h with ⟨a, b⟩ | ⟨a, b⟩ <;> omega
    · rw [if_neg hy]
      obtain ⟨Y, rfl⟩ : ∃ Y : Nat, y = (Y : Int) := ⟨y.toNat, by omega⟩
      rw [rdI_n (sh_D2 hd) (by omega)]
      have e := zset_bit (hn X (by omega)) (by omega) (show Y < 8 by omega)
      show (if zand (zshr (C (d + 2) X) (Y : Int)) 1 = 0 then some 0 else some 1) = _
      rw [e]
      cases hj : wjn W cl (X : Int) (Y : Int) with
      | true => rw [zbo_t rfl]; rfl
      | false => rw [zbo_f (by decide)]; rfl
  · rw [hc d (by omega)]; exact hL
  · obtain ⟨t, e, _⟩ := hcon k hk
    show C 12 k = ((W (102 + k)).toNat : Int)
    have e12 : M 12 k = W (102 + k) := tc k hk
    rw [hc 12 (by omega), e12, e]
    rfl
  · have q := hHI p hp
    rw [hc (d + 3) (by omega), hc (d + 4) (by omega)]
    exact ⟨q.1, q.2.1⟩
  · rw [hc 3 (by omega), t1]
    omega
/-- a day of the class is run -/
theorem zc_run {d : Nat} {M : Nat → Nat → Int} {W H I : Nat → Int} {st cl rn : Nat → Bool} {L dug x : Int} (h : zcI d M W H I st cl L dug) (hx : zset 20 x rn) : zS (lD_runAll d x M) (fun r => r.1 = zdCnt (zeW W H I (wfdg W dug) st cl rn L) (zdD (zeW W H I (wfdg W dug) st cl rn L) (W 1).toNat) ∧ (∀ c, c ≠ d + 2 → c ≠ d + 5 → c ≠ d + 6 → c ≠ d + 7 → r.2 c = M c) ∧ zcT d (W 1).toNat (zeW W H I (wfdg W dug) st cl rn L) r.2 ∧ zcE d r.2 (zeW W H I (wfdg W dug) st cl rn L)) := by
  have h0 := h
  obtain ⟨hd, hw, ht, hs, hL, hcl, hst, hdug, hHI⟩ := h
  obtain ⟨C, hb, hc, hn⟩ := lN_build_ok hd hw ht hcl
  obtain ⟨he, hh, hT, hT20⟩ := zc_env (rn := rn) h0 hc hn
  refine zS_mono (lD_runAll_ok he hb hh hT hT20 (fun n hn => ?_)) ?_
  · rw [zset_bit hx (by omega) (by omega)]
    show (if rn n = true then (1 : Int) else 0) = 0 ↔ rn n = false
    cases rn n <;> simp
  · intro r ⟨r1, r2, r3⟩
    exact ⟨r1, fun c c1 c2 c3 c4 => (r2 c c2 c3 c4).trans (hc c c1), r3, zcE_cg he r2⟩
theorem lD_asNow_ok {d : Nat} {M : Nat → Nat → Int} (hd : zis 1 d = true) : zS (lD_asNow d M) (fun M' => (∀ c, c ≠ d → c ≠ d + 3 → c ≠ d + 4 → M' c = M c) ∧ (∀ p, p < 5 → M' (d + 3) p = M 7 p ∧ M' (d + 4) p = M 8 p) ∧ M' d 8 = M 3 2 ∧ M' d 9 = M 23 1 ∧ M' d 10 = 0 ∧ M' d 11 = -1) := by
  have hd30 : 28 < d := by rcases zis_1 hd with rfl | rfl <;> omega
  unfold lD_asNow
  rw [if_pos hd]
  refine zS_b (cpA_n (sp := 0) (dp := 0) (n := 5) sh_7 (sh_D3 hd) (Or.inl rfl) (by omega) (by omega)) ?_
  refine zS_b (cpA_n (sp := 0) (dp := 0) (n := 5) sh_8 (sh_D4 hd) (Or.inl rfl) (by omega) (by omega)) ?_
  refine zS_b rfl ?_
  refine zS_b rfl ?_
  refine zS_b rfl ?_
  refine zS_b rfl ?_
  refine zS_r ⟨fun c c1 c2 c3 => ?_, fun p hp => ⟨?_, ?_⟩, ?_, ?_, ?_, ?_⟩
  · simp (disch := omega) only [zup_c, zcpy_c]
  · simp (disch := omega) only [zup_c, zcpy_c, zcpy_0]
  · simp (disch := omega) only [zup_c, zcpy_c, zcpy_0]
  · simp (disch := omega) only [zup_i, zup_s, zup_c, zcpy_c]
  · simp (disch := omega) only [zup_i, zup_s, zup_c, zcpy_c]
  · simp (disch := omega) only [zup_i, zup_s, zup_c, zcpy_c]
  · simp (disch := omega) only [zup_i, zup_s, zup_c, zcpy_c]
