/-! needs, dig, shut. -/
section ZTS
variable {W H I : Nat → Int} {M M1 : Nat → Nat → Int} {x L dug : Int} {st cl rn : Nat → Bool} {α : Type} {Q : α → Prop}
theorem xInk {a c : Nat} (h : zInv W M) (ha : a < (W 6).toNat) (hc : c ≤ 40) : zS (lX_signedWithInk (a : Int) (c : Int) M) (fun r => r.1 = zCn W (whm W) (wup (wik W) a c) (-1) zno (wcls W) zno (W 2) ∧ zKeep M r.2) := by
  obtain ⟨u0, u1, _, _, u4, _, u6, u7, _⟩ := h.2.1
  unfold lX_signedWithInk
  refine xTr h (fun M1 k1 i1 => ?_)
  have i1' := i1
  obtain ⟨_, _, _, _, i8, i9, i10, i11, iHI⟩ := i1
  refine zS_b (wrI_n sh_41 (by omega)) ?_
  refine xRun (zKeep_37 k1 (by omega)) (zcI_cg i1' (H' := whm W) (I' := wup (wik W) a c) (L' := W 2) (dug' := -1) (fun e he => zup_c (by omega)) (by rw [zup_c (by omega)]; exact i8) (by rw [zup_c (by omega)]; exact i9) (by rw [zup_c (by omega)]; exact i10) (by rw [zup_c (by omega)]; exact i11) (fun p hp => ?_)) zset_no (fun r r1 r2 r3 _ => ?_)
  · have q := iHI p hp
    rw [zup_a, zup_c (show 40 ≠ 41 by decide)]
    unfold wup
    by_cases hpa : p = a
    · rw [if_pos hpa, if_pos hpa]
      exact ⟨q.1, rfl, q.2.2.1, q.2.2.2.1, by omega, by omega⟩
    · rw [if_neg hpa, if_neg hpa]
      exact q
  · exact zS_r ⟨r1, r2⟩
theorem zmS_ink {a : Nat} {v : Int} (hv : 0 ≤ v ∧ v ≤ 60) (hS : zmS M W H I (wfdg W dug) st cl rn L) : zmS (zup M 114 a v) W H (wup I a v) (wfdg W dug) st cl rn L := by
  obtain ⟨q1, q2, q3, q4, q5, q6, q7, q8, q9⟩ := hS
  refine ⟨by rw [zup_c (by omega)]; exact q1, q2, fun p hp => ?_, fun x hx => by rw [zup_c (by omega)]; exact q4 x hx, fun p n hp hn => by rw [zup_c (by omega)]; exact q5 p n hp hn, by rw [zup_c (by omega)]; exact q6, by rw [zup_c (by omega)]; exact q7, by rw [zup_c (by omega)]; exact q8, by rw [zup_c (by omega)]; exact q9⟩
  have q := q3 p hp
  rw [zup_a, zup_c (show 113 ≠ 114 by decide)]
  unfold wup
  by_cases hpa : p = a
  · rw [if_pos hpa, if_pos hpa]
    exact ⟨q.1, rfl, q.2.2.1, q.2.2.2.1, hv⟩
  · rw [if_neg hpa, if_neg hpa]
    exact q
theorem zKeep_m {c i : Nat} {v : Int} (hc : 111 ≤ c ∧ c ≤ 125) : zKeep M (zup M c i v) := fun e j he => by
  unfold zkp at he
  rw [zup_c (by omega)]
theorem zKeep_f {i : Nat} {v : Int} (hi : i ≠ 5 ∧ i ≠ 12 ∧ i ≠ 13) : zKeep M (zup M 106 i v) := fun e j he => by
  unfold zkp at he
  by_cases h6 : e = 106
  · subst h6
    rw [zup_i (by omega)]
  · rw [zup_c h6]
theorem wup_up {f : Nat → Int} {a : Nat} {u v : Int} : wup (wup f a u) a v = wup f a v := by
  funext p
  unfold wup
  by_cases h : p = a
  · rw [if_pos h, if_pos h]
  · rw [if_neg h, if_neg h, if_neg h]
theorem wup_self {f : Nat → Int} {a : Nat} : wup f a (f a) = f := by
  funext p
  unfold wup
  by_cases h : p = a
  · rw [if_pos h, h]
  · rw [if_neg h]
theorem q_needs (h : zInv W M) : zQ2 M (lX_needs x) (lm_needs_279 x) := by
  obtain ⟨b1, b2, b3, b4, b5, b6, b7, b8⟩ := xB h
  obtain ⟨u0, u1, _, _, u4, _, u6, u7, _⟩ := h.2.1
  generalize hcn : (fun c : Nat => zCn W (whm W) (wup (wik W) x.toNat (c : Int)) (-1) zno (wcls W) zno (W 2)) = cnt
  have hcn : ∀ c : Nat, zCn W (whm W) (wup (wik W) x.toNat (c : Int)) (-1) zno (wcls W) zno (W 2) = cnt c := fun k => congrFun hcn k
  refine ⟨if 0 ≤ x ∧ x < W 6 then zfs 41 (fun i => decide (cnt i = cnt 40)) else -2, ?_, fun M' hk => ?_⟩
  · refine zX_g2 (xName h) (fun c1 => ?_) (fun c1 => (if_neg c1).symm)
    rw [if_pos c1]
    obtain ⟨a, rfl⟩ : ∃ a : Nat, x = (a : Int) := ⟨x.toNat, by omega⟩
    rw [Int.toNat_natCast] at hcn
    refine zS_m (xInk (c := 40) h (show a < (W 6).toNat by omega) (by omega)) (fun r hr => ?_)
    rw [hr.1, hcn]
    refine loopI (fun m i (s : Nat → Nat → Int) => lX_needs_c24 (a : Int) m (cnt 40) (i : Int) s) (fun i s => (∀ j, j < i → decide (cnt j = cnt 40) = false) ∧ zKeep M s) (a0 := r.2) 0 40 (by omega) ⟨fun j hj => by omega, hr.2⟩ ?_ ?_ zN (zN_gt (by omega))
    · intro m i s _ hi ⟨hs, hK⟩ k
      show zS (lX_needs_c24 (a : Int) (m + 1) (cnt 40) (i : Int) s) _
      rw [lX_needs_c24]
      refine zS_it (by omega) ?_
      rw [w1 (by omega)]
      refine zS_m (xInk (zInv_keep h hK) (show a < (W 6).toNat by omega) (show i ≤ 40 by omega)) (fun t ht => ?_)
      rw [ht.1, hcn]
      by_cases hz : cnt i = cnt 40
      · rw [if_pos hz]
        exact zS_r ⟨(zfs_at (by omega) (decide_eq_true hz) hs).symm, zKeep_t hK ht.2⟩
      · rw [if_neg hz]
        exact k _ ⟨fun j hj => by
          by_cases hji : j = i
          · rw [hji]; exact decide_eq_false hz
          · exact hs j (by omega), zKeep_t hK ht.2⟩
    · intro m s ⟨hs, hK⟩
      show zS (lX_needs_c24 (a : Int) (m + 1) (cnt 40) ((40 : Nat) : Int) s) _
      rw [lX_needs_c24]
      refine zS_ie (by omega) ?_
      exact zS_r ⟨(zfs_at (i := 40) (by omega) (decide_eq_true rfl) hs).symm, hK⟩
  · have h' := zInv_keep h hk
    refine mAsk h' (lm_asksName_ok h'.2.1 h'.1) (fun c1 r r1 r2 _ => ?_) (fun c1 => (if_neg c1).symm)
    rw [if_pos c1]
    obtain ⟨a, rfl⟩ : ∃ a : Nat, x = (a : Int) := ⟨x.toNat, by omega⟩
    rw [Int.toNat_natCast] at hcn
    refine zS_b (wrI_n sh_114 (by omega)) ?_
    have hS1 := zmS_ink (a := a) (v := ((40 : Nat) : Int)) (by omega) r2
    refine mRun hS1 (fun s s1 s2 => ?_)
    rw [s1, hcn]
    refine zS_b (wrI_n sh_114 (by omega)) ?_
    have hS2 := zmS_ink (a := a) (v := ((0 : Nat) : Int)) (by omega) (zmS_cg hS1 s2)
    rw [wup_up] at hS2
    refine loopI (fun m i (s : Nat → Nat → Int) => lm_needs_279_c31 (a : Int) m (cnt 40) s) (fun i s => (∀ j, j < i → decide (cnt j = cnt 40) = false) ∧ zKeep M' s ∧ zmS s W (whm W) (wup (wik W) a (i : Int)) (wfdg W (-1)) zno (wcls W) zno (W 2) ∧ s 114 a = (i : Int)) (a0 := _) 0 40 (by omega) ⟨fun j hj => by omega, ?_, hS2, zup_s⟩ ?_ ?_ zN (zN_gt (by omega))
    · exact zKeep_t r1 (zKeep_t (zKeep_m (by omega)) (zKeep_t (zmg_keep s2) (zKeep_m (by omega))))
    · intro m i s _ hi ⟨hs, hK, hS, hM⟩ k
      show zS (lm_needs_279_c31 (a : Int) (m + 1) (cnt 40) s) _
      rw [lm_needs_279_c31]
      refine mRun hS (fun t t1 t2 => ?_)
      rw [t1, hcn]
      have hM2 : t.2 114 a = (i : Int) := by rw [t2 114 (by omega)]; exact hM
      have hK2 : zKeep M' t.2 := zKeep_t hK (zmg_keep t2)
      by_cases hz : cnt i = cnt 40
      · rw [if_pos hz]
        refine zS_b (rdI_n sh_114 (by omega)) ?_
        rw [hM2]
        exact zS_r ⟨(zfs_at (by omega) (decide_eq_true hz) hs).symm, hK2⟩
      · rw [if_neg hz]
        refine zS_b (rdI_n sh_114 (by omega)) ?_
        rw [hM2, w1 (by omega)]
        refine zS_b (wrI_n sh_114 (by omega)) ?_
        have hS3 := zmS_ink (a := a) (v := ((i + 1 : Nat) : Int)) (by omega) (zmS_cg hS t2)
        rw [wup_up] at hS3
        exact k _ ⟨fun j hj => by
          by_cases hji : j = i
          · rw [hji]; exact decide_eq_false hz
          · exact hs j (by omega), zKeep_t hK2 (zKeep_m (by omega)), hS3, zup_s⟩
    · intro m s ⟨hs, hK, hS, hM⟩
      show zS (lm_needs_279_c31 (a : Int) (m + 1) (cnt 40) s) _
      rw [lm_needs_279_c31]
      refine mRun hS (fun t t1 t2 => ?_)
      have hM2 : t.2 114 a = ((40 : Nat) : Int) := by rw [t2 114 (by omega)]; exact hM
      rw [t1, hcn, if_pos rfl]
      refine zS_b (rdI_n sh_114 (by omega)) ?_
      rw [hM2]
      exact zS_r ⟨(zfs_at (i := 40) (by omega) (decide_eq_true rfl) hs).symm, zKeep_t hK (zmg_keep t2)⟩
theorem xNow (h : zInv W M) : lX_signedNow M = some (zCn W (whm W) (wik W) (-1) zno (wcls W) zno (W 2)) := by
  obtain ⟨b1, b2, b3, b4, b5, b6, b7, b8⟩ := xB h
  refine zS_eq ?_
  unfold lX_signedNow
  rw [b3]
  refine zS_b (rdI_n sh_36 (by omega)) ?_
  rw [show M 36 (W 1).toNat = zst (W 7).toNat (fun k => decide (zdA (zdD (zE0 W) (W 1).toNat) k ≠ -1)) from cD h (Nat.le_refl _), zst_nat _ (by omega)]
  have hl := zsn_lt (f := fun k => decide (zdA (zdD (zE0 W) (W 1).toNat) k ≠ -1)) (W 7).toNat
  have hp : 2 ^ (W 7).toNat ≤ 2 ^ 6 := Nat.pow_le_pow_right (by decide) b6
  refine zS_b (lJ_bitCount_eq (by omega)) ?_
  exact zS_r rfl
theorem mNow (hS : zmS M W (whm W) (wik W) (wfdg W (-1)) zno (wcls W) zno (W 2)) (h3 : zmT (W 1).toNat (zE0 W) M) : lm_manySigned M = some (zCn W (whm W) (wik W) (-1) zno (wcls W) zno (W 2)) := by
  have hE := zm_env (fun x _ _ => wfdg_b hS.2.1) hS
  obtain ⟨hok, hB, hC, hT, hT20, _⟩ := hE
  exact mMany hok hT hC hT20 h3
theorem wfdg_dig (hw : wOk W) {c : Nat} {y : Nat} : wfdg W (c : Int) (y : Int) = wfdg W (-1) (y : Int) + (if y = c then 20 else 0) := by
  unfold wfdg
  rw [if_neg (show ¬ ((y : Int) = -1) by omega)]
  by_cases hy : y = c
  · rw [if_pos hy, if_pos (show (y : Int) = (c : Int) by omega)]
    omega
  · rw [if_neg hy, if_neg (show ¬ ((y : Int) = (c : Int)) by omega)]
    omega
theorem q_dig (h : zInv W M) : zQ2 M lX_dig lm_dig := by
  obtain ⟨b1, b2, b3, b4, b5, b6, b7, b8⟩ := xB h
  obtain ⟨u0, u1, _, _, u4, _, u6, u7, _⟩ := h.2.1
  have hw := h.2.1
  generalize hcn : (fun c : Nat => zCn W (whm W) (wik W) (c : Int) zno (wcls W) zno (W 2)) = cnt
  have hcn : ∀ c : Nat, zCn W (whm W) (wik W) (c : Int) zno (wcls W) zno (W 2) = cnt c := fun k => congrFun hcn k
  generalize hbase : zCn W (whm W) (wik W) (-1) zno (wcls W) zno (W 2) = base
  refine ⟨if 0 < W 9 then (zfo (zBf cnt) (W 0).toNat (-1, base)).1 else -2, ?_, fun M' hk => ?_⟩
  · refine zX_g2 (xThere h) (fun c1 => ?_) (fun c1 => (if_neg c1).symm)
    rw [if_pos c1]
    refine zS_b (xNow h) ?_
    rw [hbase]
    refine loopI (fun m i (s : (Int × Int) × (Nat → Nat → Int)) => lX_dig_c22 m s.1.1 s.1.2 (i : Int) s.2) (fun i s => s.1 = zfo (zBf cnt) i (-1, base) ∧ zKeep M s.2) (a0 := ((-1, base), M)) 0 (W 0).toNat (by omega) ⟨rfl, zKeep_r⟩ ?_ ?_ zN (zN_gt (by omega))
    · intro m i s _ hi ⟨hs, hK⟩ k
      obtain ⟨⟨s1, s2⟩, M1⟩ := s
      have hs : (s1, s2) = zfo (zBf cnt) i (-1, base) := hs
      have hK : zKeep M M1 := hK
      show zS (lX_dig_c22 (m + 1) s1 s2 (i : Int) M1) _
      rw [lX_dig_c22]
      refine zS_it (by rw [zKeep_c hK 3 (by omega)]; omega) ?_
      rw [w1 (by omega)]
      refine xTr (zInv_keep h hK) (fun M2 k1 i1 => ?_)
      have i1' := i1
      obtain ⟨_, _, _, _, i8, i9, i10, i11, iHI⟩ := i1
      refine zS_b rfl ?_
      refine xRun (zKeep_37 k1 (by omega)) (zcI_cg i1' (H' := whm W) (I' := wik W) (L' := W 2) (dug' := (i : Int)) (fun e he => zup_c (by omega)) (by rw [zup_i (by omega)]; exact i8) (by rw [zup_i (by omega)]; exact i9) (by rw [zup_i (by omega)]; exact i10) (by rw [zup_s]) (fun p hp => by rw [zup_c (by omega), zup_c (by omega)]; exact iHI p hp)) zset_no (fun r r1 r2 r3 _ => ?_)
      rw [r1, hcn]
      have e : zfo (zBf cnt) (i + 1) (-1, base) = zBf cnt i (s1, s2) := by rw [hs]; rfl
      by_cases hz : s2 < cnt i
      · rw [if_pos hz]
        exact k ((_, _), _) ⟨by rw [e]; exact (zBf_t (a := (s1, s2)) hz).symm, zKeep_t hK r2⟩
      · rw [if_neg hz]
        exact k ((_, _), _) ⟨by rw [e]; exact (zBf_f (a := (s1, s2)) hz).symm, zKeep_t hK r2⟩
    · intro m s ⟨hs, hK⟩
      show zS (lX_dig_c22 (m + 1) s.1.1 s.1.2 ((W 0).toNat : Int) s.2) _
      rw [lX_dig_c22]
      refine zS_ie (by rw [zKeep_c hK 3 (by omega)]; omega) ?_
      exact zS_r ⟨by rw [hs], hK⟩
  · have h' := zInv_keep h hk
    refine mAsk h' (lm_asksState_ok h'.2.1 h'.1) (fun c1 r r1 r2 r3 => ?_) (fun c1 => (if_neg c1).symm)
    rw [if_pos c1]
    refine zS_b (mNow r2 r3) ?_
    rw [hbase]
    refine loopI (fun m i (s : (Int × Int) × (Nat → Nat → Int)) => lm_dig_c19 m s.1.2 s.1.1 (i : Int) s.2) (fun i s => s.1 = zfo (zBf cnt) i (-1, base) ∧ zKeep M' s.2 ∧ zmS s.2 W (whm W) (wik W) (wfdg W (-1)) zno (wcls W) zno (W 2)) (a0 := ((-1, base), r.2)) 0 (W 0).toNat (by omega) ⟨rfl, r1, r2⟩ ?_ ?_ zN (zN_gt (by omega))
    · intro m i s _ hi ⟨hs, hK, hS⟩ k
      obtain ⟨⟨s1, s2⟩, M1⟩ := s
      have hs : (s1, s2) = zfo (zBf cnt) i (-1, base) := hs
      have hK : zKeep M' M1 := hK
      have hS : zmS M1 W (whm W) (wik W) (wfdg W (-1)) zno (wcls W) zno (W 2) := hS
      show zS (lm_dig_c19 (m + 1) s2 s1 (i : Int) M1) _
      rw [lm_dig_c19]
      refine zS_b (w107 (by omega) (by omega)) ?_
      refine zS_it (by rw [hS.1]; show (i : Int) < W 0; omega) ?_
      rw [w1 (by omega)]
      refine zS_b (rdI_n sh_115 (by omega)) ?_
      have hFi := hS.2.2.2.1 i (by omega)
      have hFb := wfd_b (W := W) (x := (i : Int)) hw
      have hFd : wfdg W (-1) (i : Int) = wfd W (i : Int) := by
        unfold wfdg
        rw [if_neg (by omega), Int.add_zero]
      refine zS_b (wrI_n sh_115 (by omega)) ?_
      rw [hFi.1, w32_eq (by omega) (by omega)]
      have hS2 : zmS (zup M1 115 i (wfdg W (-1) (i : Int) + 20)) W (whm W) (wik W) (wfdg W (i : Int)) zno (wcls W) zno (W 2) := by
        obtain ⟨q1, q2, q3, q4, q5, q6, q7, q8, q9⟩ := hS
        refine ⟨by rw [zup_c (by omega)]; exact q1, q2, fun p hp => by rw [zup_c (by omega), zup_c (by omega)]; exact q3 p hp, fun y hy => ⟨?_, wfdg_b hw⟩, fun p n hp hn => by rw [zup_c (by omega)]; exact q5 p n hp hn, by rw [zup_c (by omega)]; exact q6, by rw [zup_c (by omega)]; exact q7, by rw [zup_c (by omega)]; exact q8, by rw [zup_c (by omega)]; exact q9⟩
        rw [zup_a, wfdg_dig hw]
        by_cases hyi : y = i
        · rw [if_pos hyi, if_pos hyi, hyi]
        · rw [if_neg hyi, if_neg hyi, Int.add_zero]
          exact (q4 y hy).1
      refine mRun hS2 (fun t t1 t2 => ?_)
      rw [t1, hcn]
      refine zS_b (rdI_n sh_115 (by omega)) ?_
      refine zS_b (wrI_n sh_115 (by omega)) ?_
      have e115 : t.2 115 i = wfdg W (-1) (i : Int) + 20 := by rw [t2 115 (by omega), zup_s]
      rw [e115, w32_eq (x := wfdg W (-1) (i : Int) + 20 - 20) (by omega) (by omega)]
      have hS3 : zmS (zup t.2 115 i (wfdg W (-1) (i : Int) + 20 - 20)) W (whm W) (wik W) (wfdg W (-1)) zno (wcls W) zno (W 2) := by
        have q := zmS_cg hS2 t2
        obtain ⟨q1, q2, q3, q4, q5, q6, q7, q8, q9⟩ := q
        refine ⟨by rw [zup_c (by omega)]; exact q1, q2, fun p hp => by rw [zup_c (by omega), zup_c (by omega)]; exact q3 p hp, fun y hy => ⟨?_, wfdg_b hw⟩, fun p n hp hn => by rw [zup_c (by omega)]; exact q5 p n hp hn, by rw [zup_c (by omega)]; exact q6, by rw [zup_c (by omega)]; exact q7, by rw [zup_c (by omega)]; exact q8, by rw [zup_c (by omega)]; exact q9⟩
        rw [zup_a]
        by_cases hyi : y = i
        · rw [if_pos hyi, hyi]
          omega
        · rw [if_neg hyi, (q4 y hy).1, wfdg_dig hw, if_neg hyi, Int.add_zero]
      have hK3 : zKeep M' (zup t.2 115 i (wfdg W (-1) (i : Int) + 20 - 20)) := zKeep_t hK (zKeep_t (zKeep_m (by omega)) (zKeep_t (zmg_keep t2) (zKeep_m (by omega))))
      have e : zfo (zBf cnt) (i + 1) (-1, base) = zBf cnt i (s1, s2) := by rw [hs]; rfl
      by_cases hz : s2 < cnt i
      · rw [if_pos hz]
        exact k ((_, _), _) ⟨by rw [e]; exact (zBf_t (a := (s1, s2)) hz).symm, hK3, hS3⟩
      · rw [if_neg hz]
        exact k ((_, _), _) ⟨by rw [e]; exact (zBf_f (a := (s1, s2)) hz).symm, hK3, hS3⟩
    · intro m s ⟨hs, hK, hS⟩
      show zS (lm_dig_c19 (m + 1) s.1.2 s.1.1 ((W 0).toNat : Int) s.2) _
      rw [lm_dig_c19]
      refine zS_b (w107 (by omega) (by omega)) ?_
      refine zS_ie (by rw [hS.1]; show ¬ (((W 0).toNat : Int) < W 0); omega) ?_
      exact zS_r ⟨by rw [hs], hK⟩
theorem q_shut (h : zInv W M) : zQ2 M lX_shut lm_shut := by
  obtain ⟨b1, b2, b3, b4, b5, b6, b7, b8⟩ := xB h
  obtain ⟨u0, u1, _, _, u4, _, u6, u7, _⟩ := h.2.1
  have hw := h.2.1
  have b35 : M 3 5 = W 4 := h.2.2.1.2.2.2.2.2.1
  generalize hcn : (fun c : Nat => zCn W (whm W) (wik W) (-1) zno (fun k => decide (k = c) || wcls W k) zno (W 2)) = cnt
  have hcn : ∀ c : Nat, zCn W (whm W) (wik W) (-1) zno (fun k => decide (k = c) || wcls W k) zno (W 2) = cnt c := fun k => congrFun hcn k
  generalize hbase : zCn W (whm W) (wik W) (-1) zno (wcls W) zno (W 2) = base
  refine ⟨if 0 < W 9 then (zfo (zBf cnt) (W 4).toNat (-1, base)).1 else -2, ?_, fun M' hk => ?_⟩
  · refine zX_g2 (xThere h) (fun c1 => ?_) (fun c1 => (if_neg c1).symm)
    rw [if_pos c1]
    refine zS_b (xNow h) ?_
    rw [hbase]
    refine loopI (fun m i (s : (Int × Int) × (Nat → Nat → Int)) => lX_shut_c22 m s.1.1 s.1.2 (i : Int) s.2) (fun i s => s.1 = zfo (zBf cnt) i (-1, base) ∧ zKeep M s.2) (a0 := ((-1, base), M)) 0 (W 4).toNat (by omega) ⟨rfl, zKeep_r⟩ ?_ ?_ zN (zN_gt (by omega))
    · intro m i s _ hi ⟨hs, hK⟩ k
      obtain ⟨⟨s1, s2⟩, M1⟩ := s
      have hs : (s1, s2) = zfo (zBf cnt) i (-1, base) := hs
      have hK : zKeep M M1 := hK
      show zS (lX_shut_c22 (m + 1) s1 s2 (i : Int) M1) _
      rw [lX_shut_c22]
      refine zS_it (by rw [zKeep_c hK 3 (by omega)]; omega) ?_
      rw [w1 (by omega)]
      refine xTr (zInv_keep h hK) (fun M2 k1 i1 => ?_)
      have i1' := i1
      obtain ⟨_, _, _, _, i8, i9, i10, i11, iHI⟩ := i1
      refine zS_b rfl ?_
      refine xRun (zKeep_37 k1 (by omega)) (zcI_cg i1' (H' := whm W) (I' := wik W) (L' := W 2) (dug' := -1) (cl' := fun k => decide (k = i) || wcls W k) (fun e he => zup_c (by omega)) (by rw [zup_i (by omega)]; exact i8) (by rw [zup_s]; exact zset_up i9 (by omega) (by omega)) (by rw [zup_i (by omega)]; exact i10) (by rw [zup_i (by omega)]; exact i11) (fun p hp => by rw [zup_c (by omega), zup_c (by omega)]; exact iHI p hp)) zset_no (fun r r1 r2 r3 _ => ?_)
      rw [r1, hcn]
      have e : zfo (zBf cnt) (i + 1) (-1, base) = zBf cnt i (s1, s2) := by rw [hs]; rfl
      by_cases hz : s2 < cnt i
      · rw [if_pos hz]
        exact k ((_, _), _) ⟨by rw [e]; exact (zBf_t (a := (s1, s2)) hz).symm, zKeep_t hK r2⟩
      · rw [if_neg hz]
        exact k ((_, _), _) ⟨by rw [e]; exact (zBf_f (a := (s1, s2)) hz).symm, zKeep_t hK r2⟩
    · intro m s ⟨hs, hK⟩
      show zS (lX_shut_c22 (m + 1) s.1.1 s.1.2 ((W 4).toNat : Int) s.2) _
      rw [lX_shut_c22]
      refine zS_ie (by rw [zKeep_c hK 3 (by omega)]; omega) ?_
      exact zS_r ⟨by rw [hs], hK⟩
  · have h' := zInv_keep h hk
    refine mAsk h' (lm_asksState_ok h'.2.1 h'.1) (fun c1 r r1 r2 r3 => ?_) (fun c1 => (if_neg c1).symm)
    rw [if_pos c1]
    refine zS_b (mNow r2 r3) ?_
    rw [hbase]
    have hcl0 := r2.2.2.2.2.2.1
    generalize r.2 106 15 = cl0 at hcl0 ⊢
    refine loopI (fun m i (s : (Int × Int) × (Nat → Nat → Int)) => lm_shut_c25 m s.1.2 s.1.1 cl0 (i : Int) s.2) (fun i s => s.1 = zfo (zBf cnt) i (-1, base) ∧ zKeep M' s.2 ∧ zmS s.2 W (whm W) (wik W) (wfdg W (-1)) zno (wcls W) zno (W 2)) (a0 := ((-1, base), r.2)) 0 (W 4).toNat (by omega) ⟨rfl, r1, r2⟩ ?_ ?_ zN (zN_gt (by omega))
    · intro m i s _ hi ⟨hs, hK, hS⟩ k
      obtain ⟨⟨s1, s2⟩, M1⟩ := s
      have hs : (s1, s2) = zfo (zBf cnt) i (-1, base) := hs
      have hK : zKeep M' M1 := hK
      have hS : zmS M1 W (whm W) (wik W) (wfdg W (-1)) zno (wcls W) zno (W 2) := hS
      show zS (lm_shut_c25 (m + 1) s2 s1 cl0 (i : Int) M1) _
      rw [lm_shut_c25]
      refine zS_b (w107 (by omega) (by omega)) ?_
      refine zS_it (by rw [hS.1]; show (i : Int) < W 4; omega) ?_
      rw [w1 (by omega)]
      refine zS_b rfl ?_
      have hcs : ∀ {N : Nat → Nat → Int} {v : Int} {c c' : Nat → Bool}, zmS N W (whm W) (wik W) (wfdg W (-1)) zno c zno (W 2) → zset 12 v c' → zmS (zup N 106 15 v) W (whm W) (wik W) (wfdg W (-1)) zno c' zno (W 2) := fun {N v c c'} hS hv => by
        obtain ⟨q1, q2, q3, q4, q5, q6, q7, q8, q9⟩ := hS
        exact ⟨by rw [zup_c (by omega)]; exact q1, q2, fun p hp => by rw [zup_c (by omega), zup_c (by omega)]; exact q3 p hp, fun y hy => by rw [zup_c (by omega)]; exact q4 y hy, fun p n hp hn => by rw [zup_c (by omega)]; exact q5 p n hp hn, by rw [zup_s]; exact hv, by rw [zup_i (by omega)]; exact q7, by rw [zup_i (by omega)]; exact q8, by rw [zup_i (by omega)]; exact q9⟩
      have hS2 := hcs hS (zset_up hcl0 (show i < 12 by omega) (by omega))
      refine mRun hS2 (fun t t1 t2 => ?_)
      rw [t1, hcn]
      refine zS_b rfl ?_
      have hS3 := hcs (zmS_cg hS2 t2) hcl0
      have hK3 : zKeep M' (zup t.2 106 15 cl0) := zKeep_t hK (zKeep_t (zKeep_f (by omega)) (zKeep_t (zmg_keep t2) (zKeep_f (by omega))))
      have e : zfo (zBf cnt) (i + 1) (-1, base) = zBf cnt i (s1, s2) := by rw [hs]; rfl
      by_cases hz : s2 < cnt i
      · rw [if_pos hz]
        exact k ((_, _), _) ⟨by rw [e]; exact (zBf_t (a := (s1, s2)) hz).symm, hK3, hS3⟩
      · rw [if_neg hz]
        exact k ((_, _), _) ⟨by rw [e]; exact (zBf_f (a := (s1, s2)) hz).symm, hK3, hS3⟩
    · intro m s ⟨hs, hK, hS⟩
      show zS (lm_shut_c25 (m + 1) s.1.2 s.1.1 cl0 ((W 4).toNat : Int) s.2) _
      rw [lm_shut_c25]
      refine zS_b (w107 (by omega) (by omega)) ?_
      refine zS_ie (by rw [hS.1]; show ¬ (((W 4).toNat : Int) < W 4); omega) ?_
      exact zS_r ⟨by rw [hs], hK⟩
end ZTS
