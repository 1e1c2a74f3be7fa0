/-! Calls that change the acts. -/
theorem zG_m {c : Prop} [Decidable c] {f : Option Int} {k : Option (Int × (Nat → Nat → Int))} {b : Int} {M : Nat → Nat → Int} {R : Int × (Nat → Nat → Int) → Prop} (h : f = some (zbo c)) (ht : c → zS k R) (hf : ¬ c → R (b, M)) : zS (f.bind (fun v => if v = 0 then some (b, M) else k)) R := by
  refine zS_b h ?_
  by_cases hc : c
  · rw [zbo_t hc, if_neg (by decide)]; exact ht hc
  · rw [zbo_f hc, if_pos rfl]; exact zS_r (hf hc)
theorem lX_settle_ok {W : Nat → Int} {M : Nat → Nat → Int} (hw : wOk W) (ht : zTold 3 M W) (ha : zActs 23 M W) : zS (lX_settle M) (fun M2 => zNw M2 W ∧ ∀ c, c < 29 ∨ 36 < c → M2 c = M c) := by
  have h0 := hw.1
  have h6 := hw.2.2.2.2.2.2.1
  have hnam := hw.2.2.2.2.2.2.2.2.2.2.2.2.2.2.1
  unfold lX_settle
  refine zS_m (lD_asNow_ok (d := 29) rfl) ?_
  intro M1 ⟨a1, a2, a3, a4, a5, a6⟩
  have ht1 : zTold 3 M1 W := zTold_cg ht (fun i hi => a1 (3 + i) (by omega) (by omega) (by omega))
  have hcl : zset 12 (M1 29 9) (wcls W) := by rw [a4]; exact ha.2.1
  have hI : zcI 29 M1 W (fun p => W (42 + 12 * p)) (fun p => W (42 + 12 * p + 1)) (fun _ => false) (wcls W) (W 2) (-1) := by
    refine ⟨rfl, hw, ht1, fun p n hp hn => ?_, ?_, hcl, ?_, a6, fun p hp => ?_⟩
    · rw [a1 28 (by omega) (by omega) (by omega)]; exact ha.2.2.2 p n hp hn
    · rw [a3]; exact ht.2.2.1
    · rw [a5]; exact zset_0
    · have q := hnam p hp
      have t := ht.2.2.2.2.2.2.2.2.2.2.2.1 p hp
      have s := a2 p (by omega)
      exact ⟨s.1.trans t.1, s.2.trans t.2.1, q.1, show W (42 + 12 * p) < 8 by omega, q.2.2.1, show W (42 + 12 * p + 1) ≤ 60 by omega⟩
  obtain ⟨C, hb, hc, hn⟩ := lN_build_ok (d := 29) rfl hw ht1 hcl
  obtain ⟨he, hh, hT, hT20⟩ := zc_env (rn := fun _ => false) hI hc hn
  refine zS_m (lD_runAll_ok (x := 0) he hb hh hT hT20 (fun n hn => ?_)) ?_
  · rw [zset_bit (zset_0 (n := 20)) (by omega) (by omega)]
    show (if false = true then (1 : Int) else 0) = 0 ↔ false = false
    simp
  · intro r ⟨r1, r2, r3⟩
    refine zS_r ⟨⟨zcE_cg he r2, r3, fun p hp => ?_, fun a ha => ?_⟩, fun c hc2 => ?_⟩
    · rw [r2 33 (by omega) (by omega) (by omega)]; exact (hh p hp).2
    · rw [r2 31 (by omega) (by omega) (by omega)]; exact hn a ha
    · exact (r2 c (by omega) (by omega) (by omega)).trans ((hc c (by omega)).trans (a1 c (by omega) (by omega) (by omega)))
/-- the class has gone on to another world, the reference not yet -/
def zWd (W' : Nat → Int) (M : Nat → Nat → Int) : Nat → Nat → Int := fun c => if c = 107 then W' else M c
theorem zWd_n {W' : Nat → Int} {M : Nat → Nat → Int} {c : Nat} (h : c ≠ 107) : zWd W' M c = M c := if_neg h
def zMid (W W' : Nat → Int) (M : Nat → Nat → Int) : Prop := M 107 = W ∧ zInv W' (zWd W' M)
theorem zMid_keep {W W' : Nat → Int} {M M' : Nat → Nat → Int} (h : zMid W W' M) (k : zKeep M M') : zMid W W' M' := by
  refine ⟨(zKeep_c k 107 (by omega)).trans h.1, zInv_keep h.2 (fun c i hc => ?_)⟩
  by_cases e : c = 107
  · rw [e]; rfl
  · rw [zWd_n e, zWd_n e]; exact k c i hc
theorem zMid_inv {W W' : Nat → Int} {M N : Nat → Nat → Int} (h : zMid W W' M) (h1 : N 107 = W') (h2 : ∀ c, c ≠ 107 → N c = M c) : zInv W' N := by
  have e : N = zWd W' M := by
    funext c
    by_cases e : c = 107
    · rw [e]; exact h1
    · rw [zWd_n e]; exact h2 c e
  rw [e]
  exact h.2
theorem zMid_settle {W W' : Nat → Int} {M M1 : Nat → Nat → Int} (h : zInv W M) (hw' : wOk W') (e : ∀ i, i ≠ 8 → i < 108 → W' i = W i) (ha : zActs 23 M1 W') (hc : ∀ c, c < 23 ∨ 23 + 5 < c → M1 c = M c) : zS (lX_settle M1) (fun M2 => zMid W W' M2) := by
  have ht1 : zTold 3 M1 W' := zTold_cg (zTold_w h.2.1 h.2.2.1 e) (fun i hi => hc (3 + i) (by omega))
  refine zS_mono (lX_settle_ok hw' ht1 ha) ?_
  intro M2 ⟨n1, n2⟩
  have hM : ∀ c, c ≠ 107 → c < 23 ∨ 36 < c → zWd W' M2 c = M c := fun c h1 h2 => (zWd_n h1).trans ((n2 c (by omega)).trans (hc c (by omega)))
  obtain ⟨h1, h2, h3, h4, h5, h6, h7, h8⟩ := h
  refine ⟨(n2 107 (by omega)).trans ((hc 107 (by omega)).trans h1), rfl, hw', zTold_cg ht1 (fun i hi => ?_), zActs_cg ha (fun i hi => ?_), zNw_cg n1 (fun c h => zWd_n (by omega)), ?_, zRw_cg h7 (fun c h => hM c (by omega) (by omega)), zIg_cg h8 (fun c h => hM c (by omega) (by omega)) (hM 108 (by omega) (by omega)) (hM 109 (by omega) (by omega))⟩
  · rw [zWd_n (by omega), n2 (3 + i) (by omega)]
  · rw [zWd_n (by omega), n2 (23 + i) (by omega)]
  · exact zTp_cg h6 (by rw [hM 1 (by omega) (by omega)]) (by rw [hM 1 (by omega) (by omega)]) (by rw [hM 1 (by omega) (by omega)]) (hM 2 (by omega) (by omega)) (hM 110 (by omega) (by omega)) (by rw [hM 106 (by omega) (by omega)]) (by rw [hM 106 (by omega) (by omega)]) (by rw [hM 106 (by omega) (by omega)])
theorem lm_keepAct_ok {W : Nat → Int} {M : Nat → Nat → Int} {v : Int} (hM : M 107 = W) (h8 : 0 ≤ W 8 ∧ W 8 < 30) : zS (lm_keepAct v M) (fun r => r.1 = 0 ∧ r.2 107 = wadd W v ∧ ∀ c, c ≠ 107 → r.2 c = M c) := by
  obtain ⟨n, hn⟩ : ∃ n : Nat, W 8 = (n : Int) := ⟨(W 8).toNat, by omega⟩
  have hnn : (W 8).toNat = n := by omega
  have e : M 107 (Int.toNat 8) = (n : Int) := by rw [hM]; exact hn
  unfold lm_keepAct
  refine zS_b (w107 (by omega) (by omega)) ?_
  rw [e, if_neg (by omega)]
  refine zS_b (w107 (by omega) (by omega)) ?_
  rw [e, show w32 (108 + (n : Int)) = ((108 + n : Nat) : Int) by rw [w32_eq (by omega) (by omega)]; omega]
  refine zS_b (wrI_n sh_107 (by omega)) ?_
  refine zS_b (w107 (by omega) (by omega)) ?_
  have e2 : zup M 107 (108 + n) v 107 (Int.toNat 8) = (n : Int) := by
    rw [zup_i (show Int.toNat 8 ≠ 108 + n by show 8 ≠ 108 + n; omega)]; exact e
  rw [e2, w1 (by omega)]
  refine zS_b (wrI_n (i := 8) sh_107 (by omega)) ?_
  refine zS_r ⟨rfl, ?_, fun c hc => ?_⟩
  · show zup (zup M 107 (108 + n) v) 107 8 ((n + 1 : Nat) : Int) 107 = wadd W v
    rw [zup_w, zup_w, hM]
    unfold wadd
    rw [hnn, hn]
    rfl
  · show zup (zup M 107 (108 + n) v) 107 8 ((n + 1 : Nat) : Int) c = M c
    rw [zup_c hc, zup_c hc]
theorem lm_keepAct_no {W : Nat → Int} {M : Nat → Nat → Int} {v : Int} (hM : M 107 = W) (h8 : W 8 = 30) : lm_keepAct v M = some (-5, M) := by
  unfold lm_keepAct
  rw [w107 (by omega) (by omega), hM]
  show (if W 8 = 30 then _ else _) = _
  rw [if_pos h8]
def zQ4 (f g : (Nat → Nat → Int) → Option (Int × (Nat → Nat → Int))) (M : Nat → Nat → Int) : Prop := zS (f M) (fun r => zS (g r.2) (fun s => s.1 = r.1 ∧ ∃ W', zInv W' s.2))
section ZSE
variable {W : Nat → Int} {M : Nat → Nat → Int} {x y z : Int}
theorem lX_send_eq (h : zInv W M) : lX_send x y z M = lX_send_c27 x y z (zbo (0 < W 9 ∧ 0 ≤ z ∧ z < W 1)) M := by
  have h1 := h.2.2.1.2.1
  unfold lX_send
  rw [xStep h]
  show (if zbo _ = 0 then _ else _) = _
  by_cases c : 0 < W 9 ∧ 0 ≤ z ∧ z ≤ W 1
  · rw [zbo_t c, if_neg (by decide), h1]
    by_cases c2 : z < W 1
    · rw [if_pos c2, zbo_t ⟨c.1, c.2.1, c2⟩]
    · rw [if_neg c2, zbo_f (fun q => c2 q.2.2)]
  · rw [zbo_f c, if_pos rfl, zbo_f (fun q => c ⟨q.1, q.2.1, by omega⟩)]
theorem q_send (h : zInv W M) : zQ4 (lX_send x y z) (lm_send x y z) M := by
  have hw := h.2.1
  obtain ⟨u0, u1, _, _, u4, _, u6, u7, u8, u9, _⟩ := h.2.1
  have hbad : ¬ ((0 ≤ x ∧ x < W 6) ∧ (0 ≤ y ∧ y < W 0) ∧ (0 < W 9 ∧ 0 ≤ z ∧ z < W 1)) → zS (lm_send x y z M) (fun s => s.1 = -2 ∧ ∃ W', zInv W' s.2) := fun hb => by
    unfold lm_send
    refine zG_m (mName hw h.1) (fun c1 => zG_m (mCorner hw h.1) (fun c2 => zG_m (lm_isAhead_eq (by rw [h.1]; omega) (by rw [h.1]; omega)) (fun c3 => ?_) (fun _ => ⟨rfl, W, h⟩)) (fun _ => ⟨rfl, W, h⟩)) (fun _ => ⟨rfl, W, h⟩)
    rw [h.1] at c3
    exact absurd ⟨c1, c2, c3⟩ hb
  have e0 : M 23 0 = W 8 := h.2.2.2.1.1
  show zS (lX_send x y z M) (fun r => zS (lm_send x y z r.2) (fun s => s.1 = r.1 ∧ ∃ W', zInv W' s.2))
  rw [lX_send_eq h]
  unfold lX_send_c27
  refine zG_m (xName h) (fun c1 => zG_m (xCorner h) (fun c2 => ?_) (fun c => hbad (fun q => c q.2.1))) (fun c => hbad (fun q => c q.1))
  by_cases c3 : 0 < W 9 ∧ 0 ≤ z ∧ z < W 1
  · rw [zbo_t c3, if_neg (by decide), e0]
    obtain ⟨p, rfl⟩ : ∃ p : Nat, x = (p : Int) := ⟨x.toNat, by omega⟩
    obtain ⟨c, rfl⟩ : ∃ p : Nat, y = (p : Int) := ⟨y.toNat, by omega⟩
    obtain ⟨n, rfl⟩ : ∃ p : Nat, z = (p : Int) := ⟨z.toNat, by omega⟩
    have ev : w32 (w32 (w32 (10000 * w32 ((p : Int) + 1)) + w32 (100 * (c : Int))) + (n : Int)) = ((10000 * (p + 1) + 100 * c + n : Nat) : Int) := by
      simp (disch := omega) only [w32_eq]
      omega
    by_cases c4 : W 8 < 30
    · rw [if_pos c4]
      have hNa : zNa W 0 (p : Int) (c : Int) (n : Int) ((10000 * (p + 1) + 100 * c + n : Nat) : Int) := Or.inl ⟨rfl, p, c, n, by omega, by omega, by omega, rfl, rfl, rfl, rfl⟩
      have hw' := wadd_ok hw c4 c3.1 hNa
      refine zS_m (lA_add_ok rfl hw c4 h.2.2.2.1 hNa) ?_
      intro M1 ⟨a1, a2⟩
      have w16 : wadd W ((10000 * (p + 1) + 100 * c + n : Nat) : Int) 6 = W 6 := wadd_n (by omega) (by omega)
      have w11 : wadd W ((10000 * (p + 1) + 100 * c + n : Nat) : Int) 1 = W 1 := wadd_n (by omega) (by omega)
      have w19 : wadd W ((10000 * (p + 1) + 100 * c + n : Nat) : Int) 9 = W 9 := wadd_n (by omega) (by omega)
      have hk : ∀ N : Nat → Nat → Int, N 107 = W → zS (lm_keepAct (w32 (w32 (w32 (10000 * w32 ((p : Int) + 1)) + w32 (100 * (c : Int))) + (n : Int))) N) (fun r => r.1 = 0 ∧ r.2 107 = wadd W ((10000 * (p + 1) + 100 * c + n : Nat) : Int) ∧ ∀ c, c ≠ 107 → r.2 c = N c) := fun N hN => by
        rw [ev]
        exact lm_keepAct_ok hN (by omega)
      have he : ∀ i, i ≠ 8 → i < 108 → wadd W ((10000 * (p + 1) + 100 * c + n : Nat) : Int) i = W i := fun i h1 h2 => wadd_n h1 (by omega)
      generalize wadd W ((10000 * (p + 1) + 100 * c + n : Nat) : Int) = W' at hw' a1 w16 w11 w19 hk he ⊢
      refine zS_m (zMid_settle h hw' he a1 a2) ?_
      intro M2 hm
      have t1 : M2 3 1 = ((W 1).toNat : Int) := by
        have t : M2 3 1 = W' 1 := hm.2.2.2.1.2.1
        rw [t, w11]; omega
      rw [t1, w5' (by omega) (by omega)]
      refine zS_b (rdI_n sh_34 (by omega)) ?_
      have hP : M2 34 (5 * (W 1).toNat + p) = zdP (zdD (zE0 W') (W 1).toNat) p := cP hm.2 (by omega) (by omega)
      refine zS_r ?_
      show zS (lm_send (p : Int) (c : Int) (n : Int) M2) (fun s => s.1 = M2 34 (5 * (W 1).toNat + p) ∧ _)
      rw [hP]
      unfold lm_send
      refine zG_m (mName hw hm.1) (fun _ => zG_m (mCorner hw hm.1) (fun _ => zG_m (lm_isAhead_eq (by rw [hm.1]; omega) (by rw [hm.1]; omega)) (fun _ => ?_) (fun q => ?_)) (fun q => absurd c2 q)) (fun q => absurd c1 q)
      · refine zS_m (hk M2 hm.1) ?_
        intro r ⟨r1, r2, r3⟩
        rw [r1, if_neg (by omega)]
        have hI := zMid_inv hm r2 r3
        refine zS_m (lm_asksState_ok hw' r2) ?_
        intro s ⟨s1, s2, s3, s4, s5⟩
        refine zS_b lm_last_eq ?_
        rw [s3, w11, show W 1 = ((W 1).toNat : Int) by omega]
        refine zS_b (lm_placeOf_eq (by omega) (by omega)) ?_
        exact zS_r ⟨mP (s5 (by omega)) (by omega) (show p < (W' 6).toNat by omega), W', zInv_keep hI s2⟩
      · rw [hm.1] at q
        exact absurd c3 q
    · rw [if_neg c4]
      refine zS_r ?_
      show zS (lm_send (p : Int) (c : Int) (n : Int) M) (fun s => s.1 = -5 ∧ _)
      unfold lm_send
      refine zG_m (mName hw h.1) (fun _ => zG_m (mCorner hw h.1) (fun _ => zG_m (lm_isAhead_eq (by rw [h.1]; omega) (by rw [h.1]; omega)) (fun _ => ?_) (fun q => ?_)) (fun q => absurd c2 q)) (fun q => absurd c1 q)
      · refine zS_b (lm_keepAct_no h.1 (by omega)) ?_
        rw [if_pos (show (-5 : Int) < 0 by decide)]
        exact zS_r ⟨rfl, W, h⟩
      · rw [h.1] at q
        exact absurd c3 q
  · rw [zbo_f c3, if_pos rfl]
    exact zS_r (hbad (fun q => c3 q.2.2))
end ZSE
