/-! The reference: where a name can live; what to ask. -/
section ZMH
variable {W : Nat → Int} {M M1 : Nat → Nat → Int} {x y : Int}
theorem zmS_home {H I : Nat → Int} {st cl rn : Nat → Bool} {L dug : Int} {a : Nat} {v : Int} (hv : 0 ≤ v ∧ v < 8) (hS : zmS M W H I (wfdg W dug) st cl rn L) : zmS (zup M 113 a v) W (wup H a v) I (wfdg W dug) st cl rn L := by
  obtain ⟨q1, q2, q3, q4, q5, q6, q7, q8, q9⟩ := hS
  refine ⟨by rw [zup_c (by omega)]; exact q1, q2, fun p hp => ?_, fun x hx => by rw [zup_c (by omega)]; exact q4 x hx, fun p n hp hn => by rw [zup_c (by omega)]; exact q5 p n hp hn, by rw [zup_c (by omega)]; exact q6, by rw [zup_c (by omega)]; exact q7, by rw [zup_c (by omega)]; exact q8, by rw [zup_c (by omega)]; exact q9⟩
  have q := q3 p hp
  rw [zup_a, zup_c (show 114 ≠ 113 by decide)]
  unfold wup
  by_cases hpa : p = a
  · rw [if_pos hpa, if_pos hpa]
    exact ⟨rfl, q.2.1, hv.1, hv.2, q.2.2.2.2⟩
  · rw [if_neg hpa, if_neg hpa]
    exact q
theorem zmS_125 {H I : Nat → Int} {F : Int → Int} {st cl rn : Nat → Bool} {L : Int} {i : Nat} {v : Int} (hS : zmS M W H I F st cl rn L) : zmS (zup M 125 i v) W H I F st cl rn L := by
  unfold zmS at hS ⊢
  rw [zup_c (show 107 ≠ 125 by decide), zup_c (show 113 ≠ 125 by decide), zup_c (show 114 ≠ 125 by decide), zup_c (show 115 ≠ 125 by decide), zup_c (show 116 ≠ 125 by decide), zup_c (show 106 ≠ 125 by decide)]
  exact hS
theorem mHomes (h : zInv W M) : zS (lm_layHomes x y M) (fun r => r.1 = zHv W M x y ∧ zKeep M r.2 ∧ (0 ≤ zHv W M x y → zTrc 125 r.2 W y.toNat (W 0).toNat)) := by
  obtain ⟨u0, u1, _, _, u4, _, u6, u7, _, u9, u90, _⟩ := h.2.1
  have hw := h.2.1
  refine zS_gen (fun Q hQ => ?_)
  have hm2 : zHv W M x y = -2 → zS (some ((-2 : Int), M)) Q := fun e => zS_r (hQ _ ⟨e.symm, zKeep_r, fun q => by omega⟩)
  unfold lm_layHomes
  refine zS_b mSlot ?_
  by_cases c1 : 0 ≤ x ∧ x ≤ 3
  · rw [zbo_t c1, if_neg (by decide)]
    refine zS_b (mName h.2.1 h.1) ?_
    by_cases c2 : 0 ≤ y ∧ y < W 6
    · rw [zbo_t c2, if_neg (by decide)]
      obtain ⟨s, rfl⟩ : ∃ p : Nat, x = (p : Int) := ⟨x.toNat, by omega⟩
      obtain ⟨a, rfl⟩ : ∃ p : Nat, y = (p : Int) := ⟨y.toNat, by omega⟩
      have hs : s < 4 := by omega
      have ha : a < (W 6).toNat := by omega
      have h9 : 0 < W 9 := by
        apply Decidable.byContradiction
        intro q
        have := u90 (by omega)
        omega
      have hV : zHv W M (s : Int) (a : Int) = if M 126 s ≠ -1 then (if M 126 s % 2 = 0 ∧ zHo W M s = true then zst (W 0).toNat (zHa W M s a) else -2) else -6 := if_pos ⟨c1, c2⟩
      refine zS_b (rdI_n sh_126 hs) ?_
      by_cases hf : M 126 s = -1
      · rw [if_pos hf]
        rw [if_neg (fun q => q hf)] at hV
        exact zS_r (hQ _ ⟨hV.symm, zKeep_r, fun q => by omega⟩)
      · rw [if_neg hf]
        rw [if_pos hf] at hV
        obtain ⟨r1, r2, r3, r4⟩ := rLen h hs hf
        refine zS_b (rdI_n sh_126 hs) ?_
        obtain ⟨n, hn⟩ : ∃ n : Nat, M 126 s = (n : Int) := ⟨(M 126 s).toNat, by omega⟩
        have er : zrem (n : Int) 2 = ((n % 2 : Nat) : Int) := zrem_nat (b := 2) (by omega) (by omega)
        rw [hn, er]
        by_cases h2 : n % 2 = 0
        · rw [if_pos (by omega)]
          have hend : zHo W M s = true → zS ((lm_asItIs M).bind (fun M95 => lm_layHomes_c103 (s : Int) (a : Int) zN 0 0 M95)) Q := fun ho => by
            rw [if_pos ⟨by omega, ho⟩] at hV
            refine zS_m (lm_asItIs_ok hw h.1) ?_
            intro M1 hA
            have hS := zAs_S hw h.1 hA
            refine loopI (fun m i (t : Int × (Nat → Nat → Int)) => lm_layHomes_c103 (s : Int) (a : Int) m t.1 (i : Int) t.2) (fun i t => t.1 = zst i (zHa W M s a) ∧ zKeep M t.2 ∧ zTrc 125 t.2 W a i ∧ ∃ v, 0 ≤ v ∧ v < 8 ∧ zmS t.2 W (wup (whm W) a v) (wik W) (wfdg W (-1)) zno (wcls W) zno (W 2)) (a0 := (0, M1)) 0 (W 0).toNat (by omega) ⟨rfl, zAs_keep hA, fun c n hc => by omega, whm W a, (whm_b hw ha).1, (whm_b hw ha).2.1, by rw [wup_self]; exact hS⟩ ?_ ?_ zN (zN_gt (by omega))
            · intro m i t _ hi ⟨ht, hK, hT, v, v0, v8, hS⟩ k
              obtain ⟨t1, M2⟩ := t
              have ht : t1 = zst i (zHa W M s a) := ht
              have hK : zKeep M M2 := hK
              have hT : zTrc 125 M2 W a i := hT
              have hS : zmS M2 W (wup (whm W) a v) (wik W) (wfdg W (-1)) zno (wcls W) zno (W 2) := hS
              have e := zor_st (n := i) (f := zHa W M s a) (by omega)
              show zS (lm_layHomes_c103 (s : Int) (a : Int) (m + 1) t1 (i : Int) M2) _
              rw [lm_layHomes_c103]
              refine zS_b (w107 (by omega) (by omega)) ?_
              refine zS_it (by rw [hS.1]; show (i : Int) < W 0; omega) ?_
              refine zS_b (wrI_n sh_113 (by omega)) ?_
              have hS2 := zmS_home (a := a) (v := (i : Int)) (by omega) hS
              rw [wup_up] at hS2
              refine mAll hS2 (fun M3 g1 g2 => ?_)
              have hS3 := zmS_cg hS2 g1
              have hK3 : zKeep M M3 := zKeep_t hK (zKeep_t (zKeep_m (by omega)) (zmg_keep g1))
              have hT3 : zTrc 125 M3 W a i := fun c n hc hn => by rw [g1 125 (by omega), zup_c (by omega)]; exact hT c n hc hn
              have e126 : M3 126 = M 126 := zKeep_c hK3 126 (by omega)
              have hPl : ∀ n, n ≤ (W 1).toNat → M3 117 (5 * n + a) = zPh W a i n := fun n hn => (g2.1 n hn a ha).1
              refine loopI (fun m' j (f : Int) => lm_layHomes_c132 (s : Int) (a : Int) (lm_layHomes_c103 (s : Int) (a : Int) m) m' t1 (i : Int) f ((2 * j : Nat) : Int) M3) (fun j f => f = if zal j (fun j => decide (zPh W a i (zNb M s (2 * j)).toNat = zNb M s (2 * j + 1))) = true then 1 else 0) (a0 := 1) 0 (n / 2) (by omega) rfl ?_ ?_ zN (zN_gt (by omega))
              · intro m' j f _ hj hf2 kk
                have e1 : w32 (((2 * j : Nat) : Int) + 1) = ((2 * j + 1 : Nat) : Int) := by rw [w32_eq (by omega) (by omega)]; omega
                have e2 : w32 (((2 * j : Nat) : Int) + 2) = ((2 * (j + 1) : Nat) : Int) := by rw [w32_eq (by omega) (by omega)]; omega
                have hoj := of_decide_eq_true (zal_1.mp ho j (by rw [hn]; exact hj))
                have es : zal (j + 1) (fun j => decide (zPh W a i (zNb M s (2 * j)).toNat = zNb M s (2 * j + 1))) = (zal j (fun j => decide (zPh W a i (zNb M s (2 * j)).toNat = zNb M s (2 * j + 1))) && decide (zPh W a i (zNb M s (2 * j)).toNat = zNb M s (2 * j + 1))) := rfl
                show zS (lm_layHomes_c132 (s : Int) (a : Int) (lm_layHomes_c103 (s : Int) (a : Int) m) (m' + 1) t1 (i : Int) f ((2 * j : Nat) : Int) M3) _
                rw [lm_layHomes_c132]
                refine zS_b (rdI_n sh_126 hs) ?_
                rw [e126, hn, e1, e2]
                refine zS_it (by omega) ?_
                cases hz : zal j (fun j => decide (zPh W a i (zNb M s (2 * j)).toNat = zNb M s (2 * j + 1))) with
                | false =>
                  rw [hz, if_neg (by decide)] at hf2
                  rw [hz] at es
                  rw [if_pos hf2]
                  exact kk _ (by rw [es]; rfl)
                | true =>
                  rw [hz, if_pos rfl] at hf2
                  rw [hz] at es
                  rw [if_neg (by omega)]
                  refine zS_b (lm_numberAt_eq hs (by omega)) ?_
                  rw [zNb_keep hK3, w32_eq (x := zNb M s (2 * j)) (by omega) (by omega)]
                  have hu : zNb M s (2 * j) = ((zNb M s (2 * j)).toNat : Int) := by omega
                  have hTT : lm_placeOf (a : Int) (zNb M s (2 * j)) M3 = some (zPh W a i (zNb M s (2 * j)).toNat) := by
                    conv => lhs; rw [hu]
                    rw [lm_placeOf_eq (by omega) (by omega), hPl _ (by omega)]
                  refine zS_b hTT ?_
                  refine zS_b (lm_numberAt_eq hs (by omega)) ?_
                  rw [zNb_keep hK3]
                  by_cases hq : zPh W a i (zNb M s (2 * j)).toNat = zNb M s (2 * j + 1)
                  · rw [if_pos hq]
                    exact kk _ (by rw [es, decide_eq_true hq]; rfl)
                  · rw [if_neg hq]
                    exact kk _ (by rw [es, decide_eq_false hq]; rfl)
              · intro m' f hf2
                have hf3 : f = if zHa W M s a i = true then 1 else 0 := by
                  rw [hf2]
                  unfold zHa zPr
                  rw [hn]
                  rfl
                show zS (lm_layHomes_c132 (s : Int) (a : Int) (lm_layHomes_c103 (s : Int) (a : Int) m) (m' + 1) t1 (i : Int) f ((2 * (n / 2) : Nat) : Int) M3) _
                rw [lm_layHomes_c132]
                refine zS_b (rdI_n sh_126 hs) ?_
                rw [e126, hn]
                refine zS_ie (by omega) ?_
                refine loopI (fun m'' l (N : Nat → Nat → Int) => lm_layHomes_c191 (s : Int) (a : Int) (lm_layHomes_c103 (s : Int) (a : Int) m) m'' t1 (i : Int) f (l : Int) N) (fun l N => zKeep M N ∧ N 117 = M3 117 ∧ zTrc 125 N W a i ∧ (∀ n, n < l → N 125 (21 * i + n) = zPh W a i n) ∧ zmS N W (wup (whm W) a (i : Int)) (wik W) (wfdg W (-1)) zno (wcls W) zno (W 2)) (a0 := M3) 0 ((W 1).toNat + 1) (by omega) ⟨hK3, rfl, hT3, fun n hn => by omega, hS3⟩ ?_ ?_ zN (zN_gt (by omega))
                · intro m'' l N _ hl ⟨d1, d2, d3, d4, d5⟩ k2
                  show zS (lm_layHomes_c191 (s : Int) (a : Int) (lm_layHomes_c103 (s : Int) (a : Int) m) (m'' + 1) t1 (i : Int) f (l : Int) N) _
                  rw [lm_layHomes_c191]
                  refine zS_b lm_last_eq ?_
                  refine zS_ie (by rw [d5.1]; omega) ?_
                  refine zS_b (lm_placeOf_eq (by omega) (by omega)) ?_
                  rw [w21' (by omega) (by omega), w1 (n := l) (by omega), d2, hPl l (by omega)]
                  refine zS_b (wrI_n sh_125 (by omega)) ?_
                  refine k2 _ ⟨zKeep_t d1 (zKeep_m (by omega)), by rw [zup_c (by omega)]; exact d2, fun c q hc hq => ?_, fun q hq => ?_, zmS_125 d5⟩
                  · rw [zup_i (by omega)]; exact d3 c q hc hq
                  · rw [zup_a]
                    by_cases hql : q = l
                    · rw [if_pos (by omega), hql]
                    · rw [if_neg (by omega)]; exact d4 q (by omega)
                · intro m'' N ⟨d1, d2, d3, d4, d5⟩
                  show zS (lm_layHomes_c191 (s : Int) (a : Int) (lm_layHomes_c103 (s : Int) (a : Int) m) (m'' + 1) t1 (i : Int) f (((W 1).toNat + 1 : Nat) : Int) N) _
                  rw [lm_layHomes_c191]
                  refine zS_b lm_last_eq ?_
                  refine zS_it (by rw [d5.1]; omega) ?_
                  rw [w1 (n := i) (by omega)]
                  have hTn : zTrc 125 N W a (i + 1) := fun c q hc hq => by
                    by_cases hci : c = i
                    · rw [hci]; exact d4 q (by omega)
                    · exact d3 c q (by omega) hq
                  by_cases hz : zHa W M s a i = true
                  · rw [if_pos hz] at hf3
                    rw [if_neg (by omega)]
                    exact k (zor t1 (zshl 1 (i : Int)), N) ⟨by rw [← e, if_pos hz, ← ht], d1, hTn, (i : Int), by omega, by omega, d5⟩
                  · rw [if_neg hz] at hf3
                    rw [if_pos hf3]
                    exact k (zor t1 0, N) ⟨by rw [← e, if_neg hz, ← ht], d1, hTn, (i : Int), by omega, by omega, d5⟩
            · intro m t ⟨ht, hK, hT, v, v0, v8, hS⟩
              show zS (lm_layHomes_c103 (s : Int) (a : Int) (m + 1) t.1 ((W 0).toNat : Int) t.2) _
              rw [lm_layHomes_c103]
              refine zS_b (w107 (by omega) (by omega)) ?_
              refine zS_ie (by rw [hS.1]; show ¬ (((W 0).toNat : Int) < W 0); omega) ?_
              exact zS_r (hQ _ ⟨by rw [hV]; exact ht, hK, fun _ => hT⟩)
          refine loopI (A := Unit) (fun m i _ => lm_layHomes_c47 (s : Int) (a : Int) m ((2 * i : Nat) : Int) M) (fun i _ => ∀ j, j < i → decide (0 ≤ zNb M s (2 * j) ∧ zNb M s (2 * j) ≤ W 1 ∧ 0 ≤ zNb M s (2 * j + 1) ∧ zNb M s (2 * j + 1) ≤ W 0 - 1) = true) (a0 := ()) 0 (n / 2) (by omega) (fun j hj => by omega) ?_ ?_ zN (zN_gt (by omega))
          · intro m i _ _ hi hI k
            have k := k ()
            have e1 : w32 (((2 * i : Nat) : Int) + 1) = ((2 * i + 1 : Nat) : Int) := by rw [w32_eq (by omega) (by omega)]; omega
            have e2 : w32 (((2 * i : Nat) : Int) + 2) = ((2 * (i + 1) : Nat) : Int) := by rw [w32_eq (by omega) (by omega)]; omega
            have hbad : ¬ (0 ≤ zNb M s (2 * i) ∧ zNb M s (2 * i) ≤ W 1 ∧ 0 ≤ zNb M s (2 * i + 1) ∧ zNb M s (2 * i + 1) ≤ W 0 - 1) → zS (some ((-2 : Int), M)) Q := fun hb => by
              refine hm2 ?_
              rw [hV, if_neg]
              intro ⟨_, q⟩
              exact hb (of_decide_eq_true (zal_1.mp q i (by rw [hn]; exact hi)))
            show zS (lm_layHomes_c47 (s : Int) (a : Int) (m + 1) ((2 * i : Nat) : Int) M) _
            rw [lm_layHomes_c47]
            refine zS_b (rdI_n sh_126 hs) ?_
            rw [hn, e1, e2]
            refine zS_it (by omega) ?_
            refine zS_b (lm_numberAt_eq hs (by omega)) ?_
            refine zS_b lm_isStep_eq ?_
            rw [h.1]
            by_cases d1 : 0 ≤ zNb M s (2 * i) ∧ zNb M s (2 * i) ≤ W 1
            · rw [zbo_t ⟨h9, d1⟩, if_neg (by decide)]
              refine zS_b (lm_numberAt_eq hs (by omega)) ?_
              refine zS_b (mCorner h.2.1 h.1) ?_
              by_cases d2 : 0 ≤ zNb M s (2 * i + 1) ∧ zNb M s (2 * i + 1) < W 0
              · rw [zbo_t d2, if_neg (by decide)]
                exact k (fun j hj => by
                  by_cases hji : j = i
                  · rw [hji]; exact decide_eq_true ⟨d1.1, d1.2, d2.1, by omega⟩
                  · exact hI j (by omega))
              · rw [zbo_f d2, if_pos rfl]
                exact hbad (fun q => d2 (by omega))
            · rw [zbo_f (fun q => d1 q.2), if_pos rfl]
              exact hbad (fun q => d1 ⟨q.1, q.2.1⟩)
          · intro m _ hI
            show zS (lm_layHomes_c47 (s : Int) (a : Int) (m + 1) ((2 * (n / 2) : Nat) : Int) M) _
            rw [lm_layHomes_c47]
            refine zS_b (rdI_n sh_126 hs) ?_
            rw [hn]
            refine zS_ie (by omega) ?_
            exact hend (zal_1.mpr (fun j hj => hI j (by rw [hn] at hj; exact hj)))
        · rw [if_neg (by omega)]
          rw [if_neg (fun q => by omega)] at hV
          exact hm2 hV
    · rw [zbo_f c2, if_pos rfl]
      exact hm2 (if_neg (fun q => c2 q.2))
  · rw [zbo_f c1, if_pos rfl]
    exact hm2 (if_neg (fun q => c1 q.1))
theorem zHv_keep (h : zInv W M) (hK : zKeep M M1) : zHv W M1 x y = zHv W M x y := by
  have e126 : M1 126 = M 126 := zKeep_c hK 126 (by omega)
  have e128 : M1 128 = M 128 := zKeep_c hK 128 (by omega)
  have e1 : ∀ s, zHo W M1 s = zHo W M s := fun s => by
    unfold zHo zPr zNb
    rw [e126, e128]
  have e2 : ∀ s a, zHa W M1 s a = zHa W M s a := fun s a => by
    funext c
    unfold zHa zPr zNb
    rw [e126, e128]
  unfold zHv
  rw [e126, e1, e2]
theorem q_homes (h : zInv W M) : zQ2 M (lX_homes x y) (lm_homes x y) := by
  refine ⟨zHv W M x y, ?_, fun M' hk => ?_⟩
  · unfold lX_homes
    exact zS_m (xHomes h) (fun r hr => zS_r ⟨hr.1, hr.2.1⟩)
  · unfold lm_homes
    exact zS_m (mHomes (zInv_keep h hk)) (fun r hr => zS_r ⟨by rw [← zHv_keep h hk]; exact hr.1, hr.2.1⟩)
theorem zHv_set (h : zInv W M) (hn : ¬ zHv W M x y < 0) : ∃ A : Nat, zHv W M x y = (A : Int) ∧ A < 256 := by
  obtain ⟨u0, u1, _, _, u4, _, u6, u7, _⟩ := h.2.1
  unfold zHv at hn ⊢
  by_cases c1 : (0 ≤ x ∧ x ≤ 3) ∧ (0 ≤ y ∧ y < W 6)
  · rw [if_pos c1] at hn ⊢
    by_cases c2 : M 126 x.toNat ≠ -1
    · rw [if_pos c2] at hn ⊢
      by_cases c3 : M 126 x.toNat % 2 = 0 ∧ zHo W M x.toNat = true
      · rw [if_pos c3]
        obtain ⟨A, e, hA, _⟩ := zst_bits (n := (W 0).toNat) (f := zHa W M x.toNat y.toNat) (by omega)
        have hpw : 2 ^ (W 0).toNat ≤ 2 ^ 8 := Nat.pow_le_pow_right (by decide) (by omega)
        exact ⟨A, e, by omega⟩
      · rw [if_neg c3] at hn; omega
    · rw [if_neg c2] at hn; omega
  · rw [if_neg c1] at hn; omega
/-- how many homes stay, seen at a corner at a step -/
def zSe (W : Nat → Int) (A a n seen : Nat) : Int := zsum (W 0).toNat (fun c => if (A.testBit c && decide (zPh W a c n = (seen : Int))) = true then 1 else 0)
theorem zSe_b {A a n seen : Nat} (k : Nat) : 0 ≤ zsum k (fun c => if (A.testBit c && decide (zPh W a c n = (seen : Int))) = true then (1 : Int) else 0) ∧ zsum k (fun c => if (A.testBit c && decide (zPh W a c n = (seen : Int))) = true then (1 : Int) else 0) ≤ k := zsum01 (fun _ => zb01) k
def zSw (W : Nat → Int) (A a n : Nat) : Int := zfo (fun seen v => zmax v (zSe W A a n seen)) (W 0).toNat 0
def zAk (W : Nat → Int) (A a : Nat) (n : Nat) (s : Int × Int) : Int × Int := if zSw W A a n < s.2 then ((n : Int), zSw W A a n) else s
def zAr (W : Nat → Int) (A a : Nat) : Int × Int := zfo (zAk W A a) ((W 1).toNat + 1) (-1, zpc 12 A)
theorem zAr_l {A a : Nat} : ∀ k, ((zfo (zAk W A a) k (-1, zpc 12 A)).1 = -1 ∧ (zfo (zAk W A a) k (-1, zpc 12 A)).2 = zpc 12 A) ∨ (∃ n, n < k ∧ (zfo (zAk W A a) k (-1, zpc 12 A)).1 = (n : Int) ∧ (zfo (zAk W A a) k (-1, zpc 12 A)).2 = zSw W A a n)
  | 0 => Or.inl ⟨rfl, rfl⟩
  | k + 1 => by
    have ih := zAr_l (A := A) (a := a) k
    have e : zfo (zAk W A a) (k + 1) (-1, zpc 12 A) = if zSw W A a k < (zfo (zAk W A a) k (-1, zpc 12 A)).2 then ((k : Int), zSw W A a k) else zfo (zAk W A a) k (-1, zpc 12 A) := rfl
    rw [e]
    by_cases hz : zSw W A a k < (zfo (zAk W A a) k (-1, zpc 12 A)).2
    · rw [if_pos hz]
      exact Or.inr ⟨k, by omega, rfl, rfl⟩
    · rw [if_neg hz]
      rcases ih with q | ⟨n, hn, q⟩
      · exact Or.inl q
      · exact Or.inr ⟨n, by omega, q⟩
theorem xHl {A a n : Nat} (h : zInv W M) (hA : A < 256) (ha : a < (W 6).toNat) (hn : n ≤ (W 1).toNat) (ht : zTrc 105 M W a (W 0).toNat) : lX_homesLeft (A : Int) (n : Int) M = some (zSw W A a n) := by
  obtain ⟨b1, b2, b3, b4, b5, b6, b7, b8⟩ := xB h
  refine zS_eq ?_
  unfold lX_homesLeft
  refine loopI (fun m i (v : Int) => lX_homesLeft_c5 (A : Int) (n : Int) M m v (i : Int)) (fun i v => v = zfo (fun seen v => zmax v (zSe W A a n seen)) i 0) (a0 := 0) 0 (W 0).toNat (by omega) rfl ?_ ?_ zN (zN_gt (by omega))
  · intro m i v _ hi hv k
    show zS (lX_homesLeft_c5 (A : Int) (n : Int) M (m + 1) v (i : Int)) _
    rw [lX_homesLeft_c5]
    refine zS_it (by omega) ?_
    refine loopI (fun m' c (u : Int) => lX_homesLeft_c23 (A : Int) (n : Int) M (lX_homesLeft_c5 (A : Int) (n : Int) M m) m' v (i : Int) u (c : Int)) (fun c u => u = zsum c (fun c => if (A.testBit c && decide (zPh W a c n = (i : Int))) = true then 1 else 0)) (a0 := 0) 0 (W 0).toNat (by omega) rfl ?_ ?_ zN (zN_gt (by omega))
    · intro m' c u _ hc hu kk
      have hb := zSe_b (W := W) (A := A) (a := a) (n := n) (seen := i) c
      have e : zsum (c + 1) (fun c => if (A.testBit c && decide (zPh W a c n = (i : Int))) = true then (1 : Int) else 0) = zsum c (fun c => if (A.testBit c && decide (zPh W a c n = (i : Int))) = true then (1 : Int) else 0) + (if (A.testBit c && decide (zPh W a c n = (i : Int))) = true then 1 else 0) := rfl
      show zS (lX_homesLeft_c23 (A : Int) (n : Int) M (lX_homesLeft_c5 (A : Int) (n : Int) M m) (m' + 1) v (i : Int) u (c : Int)) _
      rw [lX_homesLeft_c23]
      refine zS_it (by omega) ?_
      rw [w1 (n := c) (by omega), zbit_nat (by omega) (by omega)]
      cases hb2 : A.testBit c with
      | false =>
        rw [if_pos (by decide)]
        exact kk _ (by rw [e, hb2, hu]; simp)
      | true =>
        rw [if_pos rfl, if_neg (by decide)]
        refine zS_b (xTraced ht hc b8 hn b4) ?_
        by_cases hq : zPh W a c n = (i : Int)
        · rw [if_pos hq, hu, w32_eq (by omega) (by omega)]
          exact kk _ (by rw [e, hb2, decide_eq_true hq]; rfl)
        · rw [if_neg hq]
          exact kk _ (by rw [e, hb2, decide_eq_false hq, hu]; simp)
    · intro m' u hu
      show zS (lX_homesLeft_c23 (A : Int) (n : Int) M (lX_homesLeft_c5 (A : Int) (n : Int) M m) (m' + 1) v (i : Int) u ((W 0).toNat : Int)) _
      rw [lX_homesLeft_c23]
      refine zS_ie (by omega) ?_
      rw [w1 (n := i) (by omega)]
      exact k _ (by rw [hu, hv]; rfl)
  · intro m v hv
    show zS (lX_homesLeft_c5 (A : Int) (n : Int) M (m + 1) v ((W 0).toNat : Int)) _
    rw [lX_homesLeft_c5]
    refine zS_ie (by omega) ?_
    exact zS_r hv
theorem xStepAsk {A a : Nat} (h : zInv W M) (hA : A < 256) (ha : a < (W 6).toNat) (ht : zTrc 105 M W a (W 0).toNat) : lX_stepToAsk (A : Int) M = some (zAr W A a).1 := by
  obtain ⟨b1, b2, b3, b4, b5, b6, b7, b8⟩ := xB h
  refine zS_eq ?_
  unfold lX_stepToAsk
  refine zS_b (lJ_bitCount_eq (by omega)) ?_
  refine loopI (fun m i (s : Int × Int) => lX_stepToAsk_c10 (A : Int) M m s.1 s.2 (i : Int)) (fun i s => s = zfo (zAk W A a) i (-1, zpc 12 A)) (a0 := (-1, zpc 12 A)) 0 ((W 1).toNat + 1) (by omega) rfl ?_ ?_ zN (zN_gt (by omega))
  · intro m i s _ hi hs k
    have e : zfo (zAk W A a) (i + 1) (-1, zpc 12 A) = zAk W A a i s := by rw [hs]; rfl
    show zS (lX_stepToAsk_c10 (A : Int) M (m + 1) s.1 s.2 (i : Int)) _
    rw [lX_stepToAsk_c10]
    refine zS_ie (by omega) ?_
    rw [w1 (by omega)]
    refine zS_b (xHl h hA ha (by omega) ht) ?_
    by_cases hz : zSw W A a i < s.2
    · rw [if_pos hz]
      exact k ((i : Int), zSw W A a i) (by rw [e]; exact (if_pos hz).symm)
    · rw [if_neg hz]
      exact k (s.1, s.2) (by rw [e]; exact (if_neg hz).symm)
  · intro m s hs
    show zS (lX_stepToAsk_c10 (A : Int) M (m + 1) s.1 s.2 (((W 1).toNat + 1 : Nat) : Int)) _
    rw [lX_stepToAsk_c10]
    refine zS_it (by omega) ?_
    exact zS_r (by rw [hs]; rfl)
theorem mAskOf {A a : Nat} (h : zInv W M) (hA : A < 256) (ha : a < (W 6).toNat) (ht : zTrc 125 M W a (W 0).toNat) : zS (lm_askOf (A : Int) M) (fun r => r.1 = (zAr W A a).1 ∧ r.2 106 32 = (zAr W A a).2 ∧ zKeep M r.2) := by
  obtain ⟨u0, u1, _, _, u4, _, u6, u7, _⟩ := h.2.1
  unfold lm_askOf
  refine zS_b (lm_bits_eq (by omega)) ?_
  rw [zpc_up (k := 12) (by omega) 8]
  refine zS_b rfl ?_
  refine loopI (fun m i (s : Int × (Nat → Nat → Int)) => lm_askOf_c12 (A : Int) m s.1 (i : Int) s.2) (fun i s => s.1 = (zfo (zAk W A a) i (-1, zpc 12 A)).1 ∧ s.2 106 32 = (zfo (zAk W A a) i (-1, zpc 12 A)).2 ∧ zKeep M s.2 ∧ s.2 125 = M 125) (a0 := (-1, zup M 106 32 (zpc 12 A))) 0 ((W 1).toNat + 1) (by omega) ⟨rfl, (show zup M 106 32 (zpc 12 A) 106 32 = zpc 12 A from zup_s), (show zKeep M (zup M 106 32 (zpc 12 A)) from zKeep_f (by omega)), (show zup M 106 32 (zpc 12 A) 125 = M 125 from zup_c (by omega))⟩ ?_ ?_ zN (zN_gt (by omega))
  · intro m i s _ hi ⟨hs1, hs2, hK, h125⟩ k
    obtain ⟨s1, M2⟩ := s
    have hs1 : s1 = (zfo (zAk W A a) i (-1, zpc 12 A)).1 := hs1
    have hs2 : M2 106 32 = (zfo (zAk W A a) i (-1, zpc 12 A)).2 := hs2
    have hK : zKeep M M2 := hK
    have h125 : M2 125 = M 125 := h125
    have hW2 : M2 107 = W := (zKeep_c hK 107 (by omega)).trans h.1
    have e : zfo (zAk W A a) (i + 1) (-1, zpc 12 A) = if zSw W A a i < (zfo (zAk W A a) i (-1, zpc 12 A)).2 then ((i : Int), zSw W A a i) else zfo (zAk W A a) i (-1, zpc 12 A) := rfl
    show zS (lm_askOf_c12 (A : Int) (m + 1) s1 (i : Int) M2) _
    rw [lm_askOf_c12]
    refine zS_b lm_last_eq ?_
    refine zS_ie (by rw [hW2]; omega) ?_
    refine loopI (fun m' o (v : Int) => lm_askOf_c26 (A : Int) (lm_askOf_c12 (A : Int) m) m' s1 (i : Int) v (o : Int) M2) (fun o v => v = zfo (fun seen v => zmax v (zSe W A a i seen)) o 0) (a0 := 0) 0 (W 0).toNat (by omega) rfl ?_ ?_ zN (zN_gt (by omega))
    · intro m' o v _ ho hv kk
      show zS (lm_askOf_c26 (A : Int) (lm_askOf_c12 (A : Int) m) (m' + 1) s1 (i : Int) v (o : Int) M2) _
      rw [lm_askOf_c26]
      refine zS_b (w107 (by omega) (by omega)) ?_
      refine zS_it (by rw [hW2]; show (o : Int) < W 0; omega) ?_
      refine loopI (fun m'' c (u : Int) => lm_askOf_c43 (A : Int) (lm_askOf_c12 (A : Int) m) (lm_askOf_c26 (A : Int) (lm_askOf_c12 (A : Int) m) m') m'' s1 (i : Int) v (o : Int) u (c : Int) M2) (fun c u => u = zsum c (fun c => if (A.testBit c && decide (zPh W a c i = (o : Int))) = true then 1 else 0)) (a0 := 0) 0 (W 0).toNat (by omega) rfl ?_ ?_ zN (zN_gt (by omega))
      · intro m'' c u _ hc hu k2
        have hb := zSe_b (W := W) (A := A) (a := a) (n := i) (seen := o) c
        have e : zsum (c + 1) (fun c => if (A.testBit c && decide (zPh W a c i = (o : Int))) = true then (1 : Int) else 0) = zsum c (fun c => if (A.testBit c && decide (zPh W a c i = (o : Int))) = true then (1 : Int) else 0) + (if (A.testBit c && decide (zPh W a c i = (o : Int))) = true then 1 else 0) := rfl
        show zS (lm_askOf_c43 (A : Int) (lm_askOf_c12 (A : Int) m) (lm_askOf_c26 (A : Int) (lm_askOf_c12 (A : Int) m) m') (m'' + 1) s1 (i : Int) v (o : Int) u (c : Int) M2) _
        rw [lm_askOf_c43]
        refine zS_b (w107 (by omega) (by omega)) ?_
        refine zS_it (by rw [hW2]; show (c : Int) < W 0; omega) ?_
        rw [w1 (n := c) (by omega)]
        refine zS_b (lm_bit_eq (by omega) (by omega)) ?_
        cases hb2 : A.testBit c with
        | false =>
          rw [if_neg (by decide)]
          rw [hu, w32_eq (by omega) (by omega)]
          exact k2 _ (by rw [e, hb2]; simp)
        | true =>
          rw [if_pos rfl, if_pos rfl, w21' (by omega) (by omega)]
          refine zS_b (rdI_n sh_125 (by omega)) ?_
          rw [h125, ht c i hc (by omega)]
          by_cases hq : zPh W a c i = (o : Int)
          · rw [if_pos hq, hu, w32_eq (by omega) (by omega)]
            exact k2 _ (by rw [e, hb2, decide_eq_true hq]; rfl)
          · rw [if_neg hq, hu, w32_eq (by omega) (by omega)]
            exact k2 _ (by rw [e, hb2, decide_eq_false hq]; simp)
      · intro m'' u hu
        show zS (lm_askOf_c43 (A : Int) (lm_askOf_c12 (A : Int) m) (lm_askOf_c26 (A : Int) (lm_askOf_c12 (A : Int) m) m') (m'' + 1) s1 (i : Int) v (o : Int) u ((W 0).toNat : Int) M2) _
        rw [lm_askOf_c43]
        refine zS_b (w107 (by omega) (by omega)) ?_
        refine zS_ie (by rw [hW2]; show ¬ (((W 0).toNat : Int) < W 0); omega) ?_
        rw [w1 (n := o) (by omega)]
        exact kk _ (by rw [hu, hv]; rfl)
    · intro m' v hv
      show zS (lm_askOf_c26 (A : Int) (lm_askOf_c12 (A : Int) m) (m' + 1) s1 (i : Int) v ((W 0).toNat : Int) M2) _
      rw [lm_askOf_c26]
      refine zS_b (w107 (by omega) (by omega)) ?_
      refine zS_ie (by rw [hW2]; show ¬ (((W 0).toNat : Int) < W 0); omega) ?_
      have hv : v = zSw W A a i := hv
      rw [w1 (n := i) (by omega), hv, hs2]
      by_cases hz : zSw W A a i < (zfo (zAk W A a) i (-1, zpc 12 A)).2
      · rw [if_pos hz]
        refine zS_b rfl ?_
        have q1 : zup M2 106 32 (zSw W A a i) 106 32 = zSw W A a i := zup_s
        have q2 : zup M2 106 32 (zSw W A a i) 125 = M 125 := by
          rw [zup_c (by omega)]
          exact h125
        exact k ((i : Int), zup M2 106 32 (zSw W A a i)) ⟨by rw [e, if_pos hz], by rw [e, if_pos hz]; exact q1, zKeep_t hK (zKeep_f (by omega)), q2⟩
      · rw [if_neg hz]
        exact k (s1, M2) ⟨by rw [e, if_neg hz]; exact hs1, by rw [e, if_neg hz]; exact hs2, hK, h125⟩
  · intro m s ⟨hs1, hs2, hK, h125⟩
    have hW2 : s.2 107 = W := (zKeep_c hK 107 (by omega)).trans h.1
    show zS (lm_askOf_c12 (A : Int) (m + 1) s.1 (((W 1).toNat + 1 : Nat) : Int) s.2) _
    rw [lm_askOf_c12]
    refine zS_b lm_last_eq ?_
    refine zS_it (by rw [hW2]; omega) ?_
    exact zS_r ⟨hs1, hs2, hK⟩
theorem zHv_name (hn : ¬ zHv W M x y < 0) : 0 ≤ y ∧ y < W 6 := by
  unfold zHv at hn
  apply Decidable.byContradiction
  intro q
  rw [if_neg (fun w => q w.2)] at hn
  omega
theorem q_ask (h : zInv W M) : zQ2 M (lX_ask x y) (lm_ask x y) := by
  refine ⟨if zHv W M x y < 0 then zHv W M x y else (zAr W (zHv W M x y).toNat y.toNat).1, ?_, fun M' hk => ?_⟩
  · unfold lX_ask
    refine zS_m (xHomes h) (fun r hr => ?_)
    obtain ⟨r1, r2, r3⟩ := hr
    rw [r1]
    by_cases hn : zHv W M x y < 0
    · rw [if_pos hn, if_pos hn]; exact zS_r ⟨rfl, r2⟩
    · rw [if_neg hn, if_neg hn]
      obtain ⟨A, eA, hA⟩ := zHv_set h hn
      have hy := zHv_name hn
      have r3 := r3 (by omega)
      rw [eA, Int.toNat_natCast]
      refine zS_b (xStepAsk (zInv_keep h r2) hA (by omega) r3) ?_
      exact zS_r ⟨rfl, r2⟩
  · have h' := zInv_keep h hk
    have e := zHv_keep (x := x) (y := y) h hk
    unfold lm_ask
    refine zS_m (mHomes h') (fun r hr => ?_)
    obtain ⟨r1, r2, r3⟩ := hr
    rw [e] at r1 r3
    rw [r1]
    by_cases hn : zHv W M x y < 0
    · rw [if_pos hn, if_pos hn]; exact zS_r ⟨rfl, r2⟩
    · rw [if_neg hn, if_neg hn]
      obtain ⟨A, eA, hA⟩ := zHv_set h hn
      have hy := zHv_name hn
      have r3 := r3 (by omega)
      rw [eA, Int.toNat_natCast]
      refine zS_m (mAskOf (zInv_keep h' r2) hA (by omega) r3) (fun t ht => ?_)
      exact zS_r ⟨ht.1, zKeep_t r2 ht.2.2⟩
theorem q_leaves (h : zInv W M) : zQ2 M (lX_leaves x y) (lm_leaves x y) := by
  obtain ⟨u0, u1, _, _, u4, _, u6, u7, _⟩ := h.2.1
  refine ⟨if zHv W M x y < 0 then zHv W M x y else (zAr W (zHv W M x y).toNat y.toNat).2, ?_, fun M' hk => ?_⟩
  · unfold lX_leaves
    refine zS_m (xHomes h) (fun r hr => ?_)
    obtain ⟨r1, r2, r3⟩ := hr
    rw [r1]
    by_cases hn : zHv W M x y < 0
    · rw [if_pos hn, if_pos hn]; exact zS_r ⟨rfl, r2⟩
    · rw [if_neg hn, if_neg hn]
      obtain ⟨A, eA, hA⟩ := zHv_set h hn
      have hy := zHv_name hn
      have r3 := r3 (by omega)
      rw [eA, Int.toNat_natCast]
      refine zS_b (xStepAsk (zInv_keep h r2) hA (by omega) r3) ?_
      have hl := zAr_l (W := W) (A := A) (a := y.toNat) ((W 1).toNat + 1)
      have hl : ((zAr W A y.toNat).1 = -1 ∧ (zAr W A y.toNat).2 = zpc 12 A) ∨ (∃ n, n < (W 1).toNat + 1 ∧ (zAr W A y.toNat).1 = (n : Int) ∧ (zAr W A y.toNat).2 = zSw W A y.toNat n) := hl
      rcases hl with ⟨q1, q2⟩ | ⟨n, hn2, q1, q2⟩
      · rw [q1, if_pos rfl]
        refine zS_b (lJ_bitCount_eq (by omega)) ?_
        exact zS_r ⟨q2.symm, r2⟩
      · rw [q1, if_neg (by omega)]
        refine zS_b (xHl (zInv_keep h r2) hA (by omega) (by omega) r3) ?_
        exact zS_r ⟨q2.symm, r2⟩
  · have h' := zInv_keep h hk
    have e := zHv_keep (x := x) (y := y) h hk
    unfold lm_leaves
    refine zS_m (mHomes h') (fun r hr => ?_)
    obtain ⟨r1, r2, r3⟩ := hr
    rw [e] at r1 r3
    rw [r1]
    by_cases hn : zHv W M x y < 0
    · rw [if_pos hn, if_pos hn]; exact zS_r ⟨rfl, r2⟩
    · rw [if_neg hn, if_neg hn]
      obtain ⟨A, eA, hA⟩ := zHv_set h hn
      have hy := zHv_name hn
      have r3 := r3 (by omega)
      rw [eA, Int.toNat_natCast]
      refine zS_m (mAskOf (zInv_keep h' r2) hA (by omega) r3) (fun t ht => ?_)
      exact zS_r ⟨ht.2.1, zKeep_t r2 ht.2.2⟩
end ZMH
