/-! rate. -/
section ZRT
variable {W : Nat → Int} {M : Nat → Nat → Int} {x y : Int}
theorem wrt_c {p : Nat} {v : Int} (hw : wOk W) (hp : p < (W 6).toNat) (h8 : W 8 = 0) : wcls (wset W (42 + 12 * p + 2) v) = wcls W ∧ wsent (wset W (42 + 12 * p + 2) v) = wsent W := by
  have h6 := hw.2.2.2.2.2.2.1
  have e8 : wset W (42 + 12 * p + 2) v 8 = W 8 := wset_n (by omega)
  unfold wcls wsent
  rw [e8, h8]
  exact ⟨rfl, rfl⟩
theorem wrt_j {p : Nat} {v : Int} (hw : wOk W) : wjn (wset W (42 + 12 * p + 2) v) (wcls W) = wjn W (wcls W) := by
  have h4 := hw.2.2.2.2.1
  have e4 : wset W (42 + 12 * p + 2) v 4 = W 4 := wset_n (by omega)
  funext a b
  unfold wjn wjnN zan
  rw [e4]
  refine zfo_congr _ (fun k hk => ?_)
  show (_ || (!(wcls W k) && ((decide (wset W (42 + 12 * p + 2) v (10 + 2 * k) = a) && decide (wset W (42 + 12 * p + 2) v (10 + 2 * k + 1) = b)) || (decide (wset W (42 + 12 * p + 2) v (10 + 2 * k) = b) && decide (wset W (42 + 12 * p + 2) v (10 + 2 * k + 1) = a))))) = _
  rw [wset_n (show 10 + 2 * k ≠ 42 + 12 * p + 2 by omega), wset_n (show 10 + 2 * k + 1 ≠ 42 + 12 * p + 2 by omega)]
theorem wrt_E {p : Nat} {v : Int} (hw : wOk W) (hp : p < (W 6).toNat) (h8 : W 8 = 0) : zE0 (wset W (42 + 12 * p + 2) v) = zE0 W := by
  obtain ⟨ec, es⟩ := wrt_c (v := v) hw hp h8
  have ej := wrt_j (p := p) (v := v) hw
  have h5 := hw.2.2.2.2.2.1
  have h6 := hw.2.2.2.2.2.2.1
  have hnam := hw.2.2.2.2.2.2.2.2.2.2.2.2.2.2.1
  have e : ∀ i, i ≠ 42 + 12 * p + 2 → wset W (42 + 12 * p + 2) v i = W i := fun i hi => wset_n hi
  generalize wset W (42 + 12 * p + 2) v = W' at ec es ej e ⊢
  have eA : wam W' (fun _ => false) = wam W (fun _ => false) := by
    funext q n
    unfold wam
    rw [es, e (42 + 12 * q + 3) (by omega)]
    by_cases c1 : wsent W q n ≠ -1
    · rw [if_pos c1, if_pos c1]
    · rw [if_neg c1, if_neg c1]
      by_cases c2 : W (42 + 12 * q + 3) = 0
      · rw [if_pos c2, if_pos c2]
      · rw [if_neg c2, if_neg c2]
        by_cases hq : q ≤ p
        · have g := hnam q (by omega)
          have hm : n % (W (42 + 12 * q + 3)).toNat < (W (42 + 12 * q + 3)).toNat := Nat.mod_lt _ (by omega)
          rw [e _ (by omega)]
        · rw [e _ (by omega)]
  have eF : wfdg W' (-1) = wfdg W (-1) := by
    funext a
    unfold wfdg
    rw [wfd_cg (e 5 (by omega)) h5 (fun i h1 h2 => e i (by omega))]
  have eH : (fun q => W' (42 + 12 * q)) = (fun q => W (42 + 12 * q)) := funext (fun q => e _ (by omega))
  have eI : (fun q => W' (42 + 12 * q + 1)) = (fun q => W (42 + 12 * q + 1)) := funext (fun q => e _ (by omega))
  have eP : (fun k => (W' (102 + k)).toNat) = (fun k => (W (102 + k)).toNat) := funext (fun k => by rw [e _ (by omega)])
  unfold zE0 zeW
  rw [ec, ej, eA, eF, eH, eI, eP, e 6 (by omega), e 7 (by omega), e 2 (by omega)]
theorem wrt_ok {p : Nat} {v : Int} (hw : wOk W) (hp : p < (W 6).toNat) (h8 : W 8 = 0) (hv : 0 ≤ v ∧ v ≤ 59) : wOk (wset W (42 + 12 * p + 2) v) := by
  obtain ⟨u0, u1, u2, u3, u4, u5, u6, u7, u8, u9, u90, u91, ustr, uwel, unam, ucon, uact⟩ := hw
  have e : ∀ i, i ≠ 42 + 12 * p + 2 → wset W (42 + 12 * p + 2) v i = W i := fun i hi => wset_n hi
  have ep : wset W (42 + 12 * p + 2) v (42 + 12 * p + 2) = v := wset_s
  generalize wset W (42 + 12 * p + 2) v = W' at e ep ⊢
  unfold wOk
  rw [e 0 (by omega), e 1 (by omega), e 2 (by omega), e 3 (by omega), e 9 (by omega), e 4 (by omega), e 5 (by omega), e 6 (by omega), e 7 (by omega), e 8 (by omega)]
  refine ⟨u0, u1, u2, u3, u4, u5, u6, u7, u8, u9, u90, u91, fun k hk => ?_, fun k hk => ?_, fun q hq => ?_, fun k hk => ?_, fun i hi => by omega⟩
  · rw [e (10 + 2 * k) (by omega), e (10 + 2 * k + 1) (by omega)]
    exact ustr k hk
  · rw [e (34 + 2 * k) (by omega), e (34 + 2 * k + 1) (by omega)]
    exact uwel k hk
  · rw [e (42 + 12 * q) (by omega), e (42 + 12 * q + 1) (by omega), e (42 + 12 * q + 3) (by omega)]
    obtain ⟨q1, q2, q3, q4, q5, q6, q7, q8, q9⟩ := unam q hq
    have hl : 0 ≤ W' (42 + 12 * q + 2) ∧ W' (42 + 12 * q + 2) ≤ 59 := by
      by_cases c : q = p
      · rw [c, ep]; exact hv
      · rw [e _ (by omega)]; exact ⟨q5, q6⟩
    refine ⟨q1, q2, q3, q4, hl.1, hl.2, q7, q8, fun i hi => ?_⟩
    rw [e (42 + 12 * q + 4 + i) (by omega)]
    exact q9 i hi
  · rw [e (102 + k) (by omega)]
    exact ucon k hk
theorem wrt_told {p : Nat} {v : Int} (hw : wOk W) (hp : p < (W 6).toNat) (h : zTold 3 M W) : zTold 3 (zup M 9 p v) (wset W (42 + 12 * p + 2) v) := by
  obtain ⟨u0, u1, u2, u3, u4, u5, u6, u7, u8, u9, u90, u91, ustr, uwel, unam, ucon, uact⟩ := hw
  obtain ⟨t0, t1, t2, t3, t4, t5, t6, t7, t8, ts, tw, tn, tc⟩ := h
  have e : ∀ i, i ≠ 42 + 12 * p + 2 → wset W (42 + 12 * p + 2) v i = W i := fun i hi => wset_n hi
  have ep : wset W (42 + 12 * p + 2) v (42 + 12 * p + 2) = v := wset_s
  generalize wset W (42 + 12 * p + 2) v = W' at e ep ⊢
  have m : ∀ c, c ≠ 9 → zup M 9 p v c = M c := fun c hc => zup_c hc
  unfold zTold
  rw [e 0 (by omega), e 1 (by omega), e 2 (by omega), e 3 (by omega), e 9 (by omega), e 4 (by omega), e 5 (by omega), e 6 (by omega), e 7 (by omega), m 3 (by omega), m (3 + 1) (by omega), m (3 + 2) (by omega), m (3 + 3) (by omega), m (3 + 4) (by omega), m (3 + 5) (by omega), m (3 + 7) (by omega), m (3 + 8) (by omega), m (3 + 9) (by omega)]
  refine ⟨t0, t1, t2, t3, t4, t5, t6, t7, t8, fun k hk => ?_, fun x hx => ?_, fun q hq => ?_, fun k hk => ?_⟩
  · rw [e (10 + 2 * k) (by omega), e (10 + 2 * k + 1) (by omega)]
    exact ts k hk
  · rw [wfd_cg (e 5 (by omega)) u5 (fun i h1 h2 => e i (by omega))]
    exact tw x hx
  · obtain ⟨n1, n2, n3, n4, n5⟩ := tn q hq
    have g := unam q hq
    rw [e (42 + 12 * q) (by omega), e (42 + 12 * q + 1) (by omega), e (42 + 12 * q + 3) (by omega)]
    refine ⟨n1, n2, ?_, n4, fun i hi => ?_⟩
    · show zup M 9 p v 9 q = _
      rw [zup_a]
      by_cases c : q = p
      · rw [if_pos c, c, ep]
      · rw [if_neg c, e _ (by omega)]
        exact n3
    · rw [e (42 + 12 * q + 4 + i) (by omega)]
      exact n5 i hi
  · rw [e (102 + k) (by omega)]
    exact tc k hk
theorem wrt_mid {p : Nat} {v : Int} (h : zInv W M) (hp : p < (W 6).toNat) (h8 : W 8 = 0) (hv : 0 ≤ v ∧ v ≤ 59) : zMid W (wset W (42 + 12 * p + 2) v) (zup M 9 p v) := by
  have hw := h.2.1
  have hok := wrt_ok hw hp h8 hv
  have ht := wrt_told (v := v) hw hp h.2.2.1
  have hE := wrt_E (v := v) hw hp h8
  obtain ⟨ec, es⟩ := wrt_c (v := v) hw hp h8
  have ej := wrt_j (p := p) (v := v) hw
  have h6 := hw.2.2.2.2.2.2.1
  have e : ∀ i, i ≠ 42 + 12 * p + 2 → wset W (42 + 12 * p + 2) v i = W i := fun i hi => wset_n hi
  generalize wset W (42 + 12 * p + 2) v = W' at hok ht hE ec es ej e ⊢
  have hM : ∀ c, c ≠ 107 → c ≠ 9 → zWd W' (zup M 9 p v) c = M c := fun c h1 h2 => (zWd_n h1).trans (zup_c h2)
  obtain ⟨h1, h2, h3, h4, h5, h6', h7, h8'⟩ := h
  refine ⟨(zup_c (by omega)).trans h1, rfl, hok, zTold_cg ht (fun i hi => zWd_n (by omega)), ?_, ?_, ?_, zRw_cg h7 (fun c h => hM c (by omega) (by omega)), zIg_cg h8' (fun c h => hM c (by omega) (by omega)) (hM 108 (by omega) (by omega)) (hM 109 (by omega) (by omega))⟩
  · obtain ⟨a1, a2, a3, a4⟩ := h4
    refine zActs_cg (M := M) ⟨by rw [e 8 (by omega)]; exact a1, by rw [ec]; exact a2, fun i hi => ?_, by rw [es]; exact a4⟩ (fun i hi => hM _ (by omega) (by omega))
    rw [e 8 (by omega)] at hi
    omega
  · obtain ⟨b1, b2, b3, b4⟩ := h5
    refine ⟨?_, ?_, fun q hq => ?_, fun a ha => ?_⟩
    · rw [hE]
      exact zcE_cg2 b1 (hM 3 (by omega) (by omega)) (hM 6 (by omega) (by omega)) (hM 10 (by omega) (by omega)) (hM 11 (by omega) (by omega)) (hM 12 (by omega) (by omega)) (hM 28 (by omega) (by omega)) (hM 29 (by omega) (by omega)) (hM 31 (by omega) (by omega))
    · rw [hE, e 1 (by omega)]
      exact zcT_cg b2 (hM 34 (by omega) (by omega)) (hM 35 (by omega) (by omega)) (hM 36 (by omega) (by omega))
    · rw [e 6 (by omega)] at hq
      rw [hM 33 (by omega) (by omega), e _ (by omega)]
      exact b3 q hq
    · rw [hM 31 (by omega) (by omega), ec, ej]
      exact b4 a ha
  · exact zTp_cg h6' (by rw [hM 1 (by omega) (by omega)]) (by rw [hM 1 (by omega) (by omega)]) (by rw [hM 1 (by omega) (by omega)]) (hM 2 (by omega) (by omega)) (hM 110 (by omega) (by omega)) (by rw [hM 106 (by omega) (by omega)]) (by rw [hM 106 (by omega) (by omega)]) (by rw [hM 106 (by omega) (by omega)])
theorem q_rate (h : zInv W M) : zQ4 (lX_rate x y) (lm_rate x y) M := by
  have hw := h.2.1
  have h6 := hw.2.2.2.2.2.2.1
  have u8 := hw.2.2.2.2.2.2.2.2.1
  have tn := h.2.2.1.2.2.2.2.2.2.2.2.2.2.2.1
  have e0 : M 23 0 = W 8 := h.2.2.2.1.1
  have hrd : ∀ N : Nat → Nat → Int, N 107 = W → rdI 107 8 N = some (W 8) := fun N hN => by
    rw [w107 (by omega) (by omega), hN]
    rfl
  have hbad : ¬ ((0 ≤ x ∧ x < W 6) ∧ (0 ≤ y ∧ y ≤ 59)) → zS (lm_rate x y M) (fun s => s.1 = -2 ∧ ∃ W', zInv W' s.2) := fun hb => by
    unfold lm_rate
    refine zG_m (mName hw h.1) (fun c1 => zG_m lm_in_eq (fun c2 => absurd ⟨c1, c2⟩ hb) (fun _ => ⟨rfl, W, h⟩)) (fun _ => ⟨rfl, W, h⟩)
  show zS (lX_rate x y M) (fun r => zS (lm_rate x y r.2) (fun s => s.1 = r.1 ∧ ∃ W', zInv W' s.2))
  unfold lX_rate
  refine zG_m (xName h) (fun c1 => ?_) (fun c => hbad (fun q => c q.1))
  refine zS_if (fun q => zS_r (hbad (fun p => by omega))) (fun q1 => ?_)
  refine zS_if (fun q => zS_r (hbad (fun p => by omega))) (fun q2 => ?_)
  obtain ⟨p, rfl⟩ : ∃ p : Nat, x = (p : Int) := ⟨x.toNat, by omega⟩
  have c2 : 0 ≤ y ∧ y ≤ 59 := by omega
  rw [e0]
  by_cases c3 : 0 < W 8
  · rw [if_pos c3]
    refine zS_r ?_
    show zS (lm_rate (p : Int) y M) (fun s => s.1 = -5 ∧ _)
    unfold lm_rate
    refine zG_m (mName hw h.1) (fun _ => zG_m lm_in_eq (fun _ => ?_) (fun q => absurd c2 q)) (fun q => absurd c1 q)
    refine zS_b (hrd M h.1) ?_
    rw [if_pos c3]
    exact zS_r ⟨rfl, W, h⟩
  · rw [if_neg c3]
    have hm := wrt_mid (p := p) (v := y) h (by omega) (by omega) c2
    have t9 : M 9 p = W (42 + 12 * p + 2) := (tn p (by omega)).2.2.1
    refine zS_b (rdI_n sh_9 (by omega)) ?_
    refine zS_b (wrI_n sh_9 (by omega)) ?_
    refine zS_r ?_
    show zS (lm_rate (p : Int) y (zup M 9 p y)) (fun s => s.1 = M 9 p ∧ _)
    rw [t9]
    unfold lm_rate
    refine zG_m (mName hw hm.1) (fun _ => zG_m lm_in_eq (fun _ => ?_) (fun q => absurd c2 q)) (fun q => absurd c1 q)
    refine zS_b (hrd _ hm.1) ?_
    rw [if_neg c3]
    refine zS_b (lm_of_eq (w := 2) (by omega) (by omega)) ?_
    rw [show w32 (w32 (42 + w32 (12 * (p : Int))) + 2) = ((42 + 12 * p + 2 : Nat) : Int) by
      simp (disch := omega) only [w32_eq]
      omega]
    refine zS_b (wrI_n sh_107 (by omega)) ?_
    refine zS_r ⟨?_, _, zMid_inv hm ?_ (fun c hc => zup_c hc)⟩
    · rw [hm.1]
    · show zup (zup M 9 p y) 107 (42 + 12 * p + 2) y 107 = _
      rw [zup_w, hm.1]
end ZRT
