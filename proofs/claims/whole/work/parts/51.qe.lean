/-! Packs, the busiest corner, thirst. -/
theorem zpc_b {t : Nat} : ∀ k, 0 ≤ zpc k t ∧ zpc k t ≤ k := fun k => zsum01 (fun i => zb01) k
section ZQE
variable {W : Nat → Int} {M : Nat → Nat → Int} {x : Int}
/-- how many are at a corner -/
def zHr (E : zE) (n c : Nat) : Int := zpc 12 (zsn (zeB E) (fun p => decide (zdP (zdD E n) p = (c : Int))))
theorem zHr_b {E : zE} {n c : Nat} : 0 ≤ zHr E n c ∧ zHr E n c ≤ 12 := zpc_b 12
theorem cHr (h : zInv W M) {n c : Nat} (hn : n ≤ (W 1).toNat) {β : Type} {g : Int → Option β} {Q : β → Prop} (k : zS (g (zHr (zE0 W) n c)) Q) : zS ((lD_namesAt 29 (c : Int) (n : Int) M).bind (fun v => (lJ_bitCount v M).bind g)) Q := by
  obtain ⟨b1, b2, b3, b4, b5, b6, b7, b8⟩ := xB h
  refine zS_b (lD_namesAt_eq zis_1_29 b1 b2 (by omega)) ?_
  rw [zst_congr (g := fun p => decide (zdP (zdD (zE0 W) n) p = (c : Int))) (fun p hp => by rw [cP h hn hp]), zst_nat _ (by omega)]
  have hl := zsn_lt (f := fun p => decide (zdP (zdD (zE0 W) n) p = (c : Int))) (W 6).toNat
  have hp : 2 ^ (W 6).toNat ≤ 2 ^ 5 := Nat.pow_le_pow_right (by decide) b2
  exact zS_b (lJ_bitCount_eq (by omega)) k
theorem mHr (h2 : M 107 = W) (hw : wOk W) (h3 : zmT (W 1).toNat (zE0 W) M) {n c : Nat} (hn : n ≤ (W 1).toNat) {β : Type} {g : Int → Option β} {Q : β → Prop} (k : zS (g (zHr (zE0 W) n c)) Q) : zS ((lm_hereOf (c : Int) (n : Int) M).bind (fun v => (lm_bits v M).bind g)) Q := by
  obtain ⟨u0, u1, _, _, u4, _, u6, u7, _⟩ := hw
  refine zS_b (lm_hereOf_eq (b := (W 6).toNat) (by rw [h2]; omega) (by omega) (by omega)) ?_
  rw [zst_congr (g := fun p => decide (zdP (zdD (zE0 W) n) p = (c : Int))) (fun p hp => by rw [mP h3 hn hp]), zst_nat _ (by omega)]
  have hl := zsn_lt (f := fun p => decide (zdP (zdD (zE0 W) n) p = (c : Int))) (W 6).toNat
  have hp : 2 ^ (W 6).toNat ≤ 2 ^ 5 := Nat.pow_le_pow_right (by decide) (by omega)
  have hp2 : (2 : Nat) ^ 5 ≤ 2 ^ 12 := by decide
  refine zS_b (lm_bits_eq (by omega)) ?_
  rw [zpc_up (k := 12) (by omega) 8]
  exact k
def zPk (E : zE) (K n : Nat) (a : Int) : Int := zfo (fun c a => zmax a (zHr E n c)) K a
theorem q_pack (h : zInv W M) : zQ1 M (lX_pack M) (lm_pack M) := by
  obtain ⟨b1, b2, b3, b4, b5, b6, b7, b8⟩ := xB h
  obtain ⟨u0, u1, _, _, u4, _, u6, u7, _⟩ := h.2.1
  refine ⟨if (0 < W 9) then zfo (fun n a => zPk (zE0 W) (W 0).toNat n a) ((W 1).toNat + 1) 0 else -2, ?_, ?_⟩
  · refine zX_g (xThere h) (fun c2 => ?_) (fun c2 => (if_neg c2).symm)
    rw [if_pos c2]
    refine zS_m (P := fun v => v = zfo (fun n a => zPk (zE0 W) (W 0).toNat n a) ((W 1).toNat + 1) 0) ?_ (fun v hv => zS_r hv)
    unfold lD_largestPack
    rw [if_pos zis_1_29]
    refine loopI (fun m i (a : Int) => lD_largestPack_c4 29 M m a (i : Int)) (fun i a => a = zfo (fun n a => zPk (zE0 W) (W 0).toNat n a) i 0) (a0 := 0) 0 ((W 1).toNat + 1) (by omega) rfl ?_ ?_ zN (zN_gt (by omega))
    · intro m i a _ hi ha k
      show zS (lD_largestPack_c4 29 M (m + 1) a (i : Int)) _
      rw [lD_largestPack_c4]
      refine zS_ie (by omega) ?_
      refine loopI (fun m' c (v : Int) => lD_largestPack_c17 29 M (lD_largestPack_c4 29 M m) m' v (i : Int) (c : Int)) (fun c v => v = zPk (zE0 W) c i a) (a0 := a) 0 (W 0).toNat (by omega) rfl ?_ ?_ zN (zN_gt (by omega))
      · intro m' c v _ hc hv kk
        show zS (lD_largestPack_c17 29 M (lD_largestPack_c4 29 M m) (m' + 1) v (i : Int) (c : Int)) _
        rw [lD_largestPack_c17]
        refine zS_it (by omega) ?_
        refine cHr h (by omega) ?_
        rw [w1 (n := c) (by omega)]
        exact kk _ (by rw [hv]; rfl)
      · intro m' v hv
        show zS (lD_largestPack_c17 29 M (lD_largestPack_c4 29 M m) (m' + 1) v (i : Int) ((W 0).toNat : Int)) _
        rw [lD_largestPack_c17]
        refine zS_ie (by omega) ?_
        rw [w1 (n := i) (by omega)]
        exact k _ (by rw [hv, ha]; rfl)
    · intro m a ha
      show zS (lD_largestPack_c4 29 M (m + 1) a (((W 1).toNat + 1 : Nat) : Int)) _
      rw [lD_largestPack_c4]
      refine zS_it (by omega) ?_
      exact zS_r ha
  · refine zM_q (M := M) (W := W) (c := 0 < W 9) (k := fun r1_ => lm_pack_c14 zN 0 0 r1_.2) (zS_mono (lm_asksState_ok h.2.1 h.1) (fun r q => q)) (fun c2 r r1 r2 r3 => ?_) (fun c2 => (if_neg c2).symm)
    rw [if_pos c2]
    refine loopI (fun m i (a : Int) => lm_pack_c14 m a (i : Int) r.2) (fun i a => a = zfo (fun n a => zPk (zE0 W) (W 0).toNat n a) i 0) (a0 := 0) 0 ((W 1).toNat + 1) (by omega) rfl ?_ ?_ zN (zN_gt (by omega))
    · intro m i a _ hi ha k
      show zS (lm_pack_c14 (m + 1) a (i : Int) r.2) _
      rw [lm_pack_c14]
      refine zS_b lm_last_eq ?_
      refine zS_ie (by rw [r2]; omega) ?_
      refine loopI (fun m' c (v : Int) => lm_pack_c24 (lm_pack_c14 m) m' v (i : Int) (c : Int) r.2) (fun c v => v = zPk (zE0 W) c i a) (a0 := a) 0 (W 0).toNat (by omega) rfl ?_ ?_ zN (zN_gt (by omega))
      · intro m' c v _ hc hv kk
        show zS (lm_pack_c24 (lm_pack_c14 m) (m' + 1) v (i : Int) (c : Int) r.2) _
        rw [lm_pack_c24]
        refine zS_b (w107 (by omega) (by omega)) ?_
        refine zS_it (by rw [r2]; show (c : Int) < W 0; omega) ?_
        refine mHr r2 h.2.1 r3 (by omega) ?_
        rw [w1 (n := c) (by omega)]
        exact kk _ (by rw [hv]; rfl)
      · intro m' v hv
        show zS (lm_pack_c24 (lm_pack_c14 m) (m' + 1) v (i : Int) ((W 0).toNat : Int) r.2) _
        rw [lm_pack_c24]
        refine zS_b (w107 (by omega) (by omega)) ?_
        refine zS_ie (by rw [r2]; show ¬ (((W 0).toNat : Int) < W 0); omega) ?_
        rw [w1 (n := i) (by omega)]
        exact k _ (by rw [hv, ha]; rfl)
    · intro m a ha
      show zS (lm_pack_c14 (m + 1) a (((W 1).toNat + 1 : Nat) : Int) r.2) _
      rw [lm_pack_c14]
      refine zS_b lm_last_eq ?_
      refine zS_it (by rw [r2]; omega) ?_
      exact zS_r ⟨ha, r1⟩
def zVs (E : zE) (T c : Nat) : Int := zsum T (fun n => zHr E n c)
theorem zVs_b {E : zE} {T c : Nat} : 0 ≤ zVs E T c ∧ zVs E T c ≤ T * 12 := zsum_le (n := T) (fun _ _ => zHr_b) (by decide) T (Nat.le_refl T)
def zBz (E : zE) (T c : Nat) (a : Int × Int) : Int × Int := if a.2 < zVs E T c then ((c : Int), zVs E T c) else a
theorem q_busy (h : zInv W M) : zQ1 M (lX_busy M) (lm_busy M) := by
  obtain ⟨b1, b2, b3, b4, b5, b6, b7, b8⟩ := xB h
  obtain ⟨u0, u1, _, _, u4, _, u6, u7, _⟩ := h.2.1
  refine ⟨if (0 < W 9) then (zfo (fun c a => zBz (zE0 W) ((W 1).toNat + 1) c a) (W 0).toNat (0, -1)).1 else -2, ?_, ?_⟩
  · refine zX_g (xThere h) (fun c2 => ?_) (fun c2 => (if_neg c2).symm)
    rw [if_pos c2]
    refine zS_m (P := fun v => v = (zfo (fun c a => zBz (zE0 W) ((W 1).toNat + 1) c a) (W 0).toNat (0, -1)).1) ?_ (fun v hv => zS_r hv)
    unfold lD_busiestCorner
    rw [if_pos zis_1_29]
    refine loopI (fun m i (a : Int × Int) => lD_busiestCorner_c6 29 M m a.1 a.2 (i : Int)) (fun i a => a = zfo (fun c a => zBz (zE0 W) ((W 1).toNat + 1) c a) i (0, -1)) (a0 := (0, -1)) 0 (W 0).toNat (by omega) rfl ?_ ?_ zN (zN_gt (by omega))
    · intro m i a _ hi ha k
      show zS (lD_busiestCorner_c6 29 M (m + 1) a.1 a.2 (i : Int)) _
      rw [lD_busiestCorner_c6]
      refine zS_it (by omega) ?_
      refine loopI (fun m' n (v : Int) => lD_busiestCorner_c23 29 M (lD_busiestCorner_c6 29 M m) m' a.1 a.2 (i : Int) v (n : Int)) (fun n v => v = zVs (zE0 W) n i) (a0 := 0) 0 ((W 1).toNat + 1) (by omega) rfl ?_ ?_ zN (zN_gt (by omega))
      · intro m' n v _ hn hv kk
        have hb := zVs_b (E := zE0 W) (T := n) (c := i)
        have hb2 := zHr_b (E := zE0 W) (n := n) (c := i)
        show zS (lD_busiestCorner_c23 29 M (lD_busiestCorner_c6 29 M m) (m' + 1) a.1 a.2 (i : Int) v (n : Int)) _
        rw [lD_busiestCorner_c23]
        refine zS_ie (by omega) ?_
        refine cHr h (by omega) ?_
        rw [w1 (n := n) (by omega), hv, w32_eq (by omega) (by omega)]
        exact kk _ rfl
      · intro m' v hv
        show zS (lD_busiestCorner_c23 29 M (lD_busiestCorner_c6 29 M m) (m' + 1) a.1 a.2 (i : Int) v (((W 1).toNat + 1 : Nat) : Int)) _
        rw [lD_busiestCorner_c23]
        refine zS_it (by omega) ?_
        rw [w1 (n := i) (by omega), hv]
        have e : zfo (fun c a => zBz (zE0 W) ((W 1).toNat + 1) c a) (i + 1) (0, -1) = zBz (zE0 W) ((W 1).toNat + 1) i (zfo (fun c a => zBz (zE0 W) ((W 1).toNat + 1) c a) i (0, -1)) := rfl
        by_cases hz : a.2 < zVs (zE0 W) ((W 1).toNat + 1) i
        · rw [if_pos hz]
          exact k (_, _) (by rw [e, ← ha]; exact (if_pos hz).symm)
        · rw [if_neg hz]
          exact k (_, _) (by rw [e, ← ha]; exact (if_neg hz).symm)
    · intro m a ha
      show zS (lD_busiestCorner_c6 29 M (m + 1) a.1 a.2 ((W 0).toNat : Int)) _
      rw [lD_busiestCorner_c6]
      refine zS_ie (by omega) ?_
      exact zS_r (by rw [ha])
  · refine zM_q (M := M) (W := W) (c := 0 < W 9) (k := fun r1_ => lm_busy_c16 zN 0 0 0 r1_.2) (zS_mono (lm_asksState_ok h.2.1 h.1) (fun r q => q)) (fun c2 r r1 r2 r3 => ?_) (fun c2 => (if_neg c2).symm)
    rw [if_pos c2]
    refine loopI (fun m i (a : Int × Int) => lm_busy_c16 m a.1 a.2 (i : Int) r.2) (fun i a => a.1 = (zfo (fun c a => zBz (zE0 W) ((W 1).toNat + 1) c a) i (0, -1)).1 ∧ a.2 = zmax 0 (zfo (fun c a => zBz (zE0 W) ((W 1).toNat + 1) c a) i (0, -1)).2 ∧ (i = 0 ∨ 0 ≤ (zfo (fun c a => zBz (zE0 W) ((W 1).toNat + 1) c a) i (0, -1)).2) ∧ (i = 0 → a.1 = 0 ∧ (zfo (fun c a => zBz (zE0 W) ((W 1).toNat + 1) c a) i (0, -1)).2 = -1)) (a0 := (0, 0)) 0 (W 0).toNat (by omega) ⟨rfl, rfl, Or.inl rfl, fun _ => ⟨rfl, rfl⟩⟩ ?_ ?_ zN (zN_gt (by omega))
    · intro m i a _ hi ⟨ha1, ha2, ha3, ha4⟩ k
      have e : zfo (fun c a => zBz (zE0 W) ((W 1).toNat + 1) c a) (i + 1) (0, -1) = zBz (zE0 W) ((W 1).toNat + 1) i (zfo (fun c a => zBz (zE0 W) ((W 1).toNat + 1) c a) i (0, -1)) := rfl
      generalize zfo (fun c a => zBz (zE0 W) ((W 1).toNat + 1) c a) i (0, -1) = z at *
      obtain ⟨z1, z2⟩ := z
      obtain ⟨a1, a2⟩ := a
      have ha1 : a1 = z1 := ha1
      have ha2 : a2 = zmax 0 z2 := ha2
      have ha3 : i = 0 ∨ 0 ≤ z2 := ha3
      have ha4 : i = 0 → a1 = 0 ∧ z2 = -1 := ha4
      show zS (lm_busy_c16 (m + 1) a1 a2 (i : Int) r.2) _
      rw [lm_busy_c16]
      refine zS_b (w107 (by omega) (by omega)) ?_
      refine zS_it (by rw [r2]; show (i : Int) < W 0; omega) ?_
      refine loopI (fun m' n (v : Int) => lm_busy_c32 (lm_busy_c16 m) m' a1 a2 (i : Int) v (n : Int) r.2) (fun n v => v = zVs (zE0 W) n i) (a0 := 0) 0 ((W 1).toNat + 1) (by omega) rfl ?_ ?_ zN (zN_gt (by omega))
      · intro m' n v _ hn hv kk
        have hb := zVs_b (E := zE0 W) (T := n) (c := i)
        have hb2 := zHr_b (E := zE0 W) (n := n) (c := i)
        show zS (lm_busy_c32 (lm_busy_c16 m) (m' + 1) a1 a2 (i : Int) v (n : Int) r.2) _
        rw [lm_busy_c32]
        refine zS_b lm_last_eq ?_
        refine zS_ie (by rw [r2]; omega) ?_
        refine mHr r2 h.2.1 r3 (by omega) ?_
        rw [w1 (n := n) (by omega), hv, w32_eq (by omega) (by omega)]
        exact kk _ rfl
      · intro m' v hv
        have hb := zVs_b (E := zE0 W) (T := (W 1).toNat + 1) (c := i)
        show zS (lm_busy_c32 (lm_busy_c16 m) (m' + 1) a1 a2 (i : Int) v (((W 1).toNat + 1 : Nat) : Int) r.2) _
        rw [lm_busy_c32]
        refine zS_b lm_last_eq ?_
        refine zS_it (by rw [r2]; omega) ?_
        rw [w1 (n := i) (by omega), hv]
        have e2 : zBz (zE0 W) ((W 1).toNat + 1) i (z1, z2) = if z2 < zVs (zE0 W) ((W 1).toNat + 1) i then ((i : Int), zVs (zE0 W) ((W 1).toNat + 1) i) else (z1, z2) := rfl
        rw [e, e2] at k
        unfold zmax at ha2 k
        generalize zVs (zE0 W) ((W 1).toNat + 1) i = V at *
        by_cases hz : a2 < V
        · rw [if_pos hz]
          have hz2 : z2 < V := by split at ha2 <;> omega
          refine k (_, _) ?_
          rw [if_pos hz2]
          refine ⟨rfl, ?_, Or.inr hb.1, fun q => by omega⟩
          show V = if 0 < V then V else 0
          split <;> omega
        · rw [if_neg hz]
          refine k (_, _) ?_
          by_cases hz2 : z2 < V
          · rw [if_pos hz2]
            have hi0 : i = 0 := by
              rcases ha3 with q | q
              · exact q
              · split at ha2 <;> omega
            have hV0 : V = 0 := by split at ha2 <;> omega
            obtain ⟨q1, q2⟩ := ha4 hi0
            refine ⟨?_, ?_, Or.inr hb.1, fun q => by omega⟩
            · show a1 = (i : Int)
              omega
            · show a2 = if 0 < V then V else 0
              split at ha2 <;> split <;> omega
          · rw [if_neg hz2]
            refine ⟨ha1, ha2, Or.inr ?_, fun q => by omega⟩
            show 0 ≤ z2
            omega
    · intro m a ⟨ha1, _⟩
      show zS (lm_busy_c16 (m + 1) a.1 a.2 ((W 0).toNat : Int) r.2) _
      rw [lm_busy_c16]
      refine zS_b (w107 (by omega) (by omega)) ?_
      refine zS_ie (by rw [r2]; show ¬ (((W 0).toNat : Int) < W 0); omega) ?_
      exact zS_r ⟨ha1, r1⟩
theorem lD_leastDry_eq (h : zInv W M) {n : Nat} (hn : n ≤ (W 1).toNat) : lD_leastDry 29 (n : Int) M = some (zfs (W 6).toNat (fun p => decide (zdK (zdD (zE0 W) n) p = 0))) := by
  obtain ⟨b1, b2, b3, b4, b5, b6, _⟩ := xB h
  refine zS_eq ?_
  unfold lD_leastDry
  rw [if_pos zis_1_29]
  refine loopI (A := Unit) (fun m i _ => lD_leastDry_c2 29 (n : Int) M m (i : Int)) (fun i _ => ∀ j, j < i → decide (zdK (zdD (zE0 W) n) j = 0) = false) (a0 := ()) 0 (W 6).toNat (by omega) (fun j hj => by omega) ?_ ?_ zN (zN_gt (by omega))
  · intro m i _ _ hi hI k
    have k := k ()
    show zS (lD_leastDry_c2 29 (n : Int) M (m + 1) (i : Int)) _
    rw [lD_leastDry_c2]
    refine zS_it (by omega) ?_
    rw [w5' (by omega) (by omega), w1 (by omega)]
    refine zS_b (rdI_n (sh_D6 zis_1_29) (by omega)) ?_
    rw [cK h hn hi]
    by_cases hz : zdK (zdD (zE0 W) n) i = 0
    · rw [if_pos hz]
      exact zS_r (zfs_at hi (decide_eq_true hz) hI).symm
    · rw [if_neg hz]
      exact k (fun j hj => by
        by_cases hji : j = i
        · rw [hji]; exact decide_eq_false hz
        · exact hI j (by omega))
  · intro m _ hI
    show zS (lD_leastDry_c2 29 (n : Int) M (m + 1) ((W 6).toNat : Int)) _
    rw [lD_leastDry_c2]
    refine zS_ie (by omega) ?_
    exact zS_r (zfs_no hI).symm
/-- the thirst of all -/
def zTh (E : zE) (T b : Nat) : Int := if zfs (T + 1) (fun n => zan b (fun p => decide (zdK (zdD E n) p = 0))) = -1 then -1 else zfs b (fun p => decide (zdK (zdD E (zfs (T + 1) (fun n => zan b (fun p => decide (zdK (zdD E n) p = 0)))).toNat) p = 0))
theorem q_thirst (h : zInv W M) : zQ1 M (lX_thirst M) (lm_thirst M) := by
  obtain ⟨b1, b2, b3, b4, b5, b6, b7, b8⟩ := xB h
  obtain ⟨u0, u1, _, _, u4, _, u6, u7, _⟩ := h.2.1
  refine ⟨if (0 < W 9) then zTh (zE0 W) (W 1).toNat (W 6).toNat else -2, ?_, ?_⟩
  · refine zX_g (xThere h) (fun c2 => ?_) (fun c2 => (if_neg c2).symm)
    rw [if_pos c2]
    have h31 : ∀ k, k < (W 6).toNat → (31 : Nat).testBit k = true := fun k hk => by
      have e1 : (31 : Nat) = 2 ^ 5 - 1 := by decide
      rw [e1, Nat.testBit_two_pow_sub_one]
      exact decide_eq_true (by omega)
    refine zS_b (lD_firstDry_eq (t := 31) h (by decide)) ?_
    have e : zfs ((W 1).toNat + 1) (fun n => zan (W 6).toNat (fun p => (31 : Nat).testBit p && decide (zdK (zdD (zE0 W) n) p = 0))) = zfs ((W 1).toNat + 1) (fun n => zan (W 6).toNat (fun p => decide (zdK (zdD (zE0 W) n) p = 0))) := zfs_cg (fun n _ => by
      rw [Bool.eq_iff_iff, zan_1, zan_1]
      constructor
      · intro ⟨k, hk, q⟩
        rw [h31 k hk] at q
        exact ⟨k, hk, q⟩
      · intro ⟨k, hk, q⟩
        exact ⟨k, hk, by rw [h31 k hk, q]; rfl⟩)
    rw [e]
    unfold zTh
    rcases zfs_cases (b := (W 1).toNat + 1) (f := fun n => zan (W 6).toNat (fun p => decide (zdK (zdD (zE0 W) n) p = 0))) with ⟨q, _⟩ | ⟨i, hi, q, _⟩
    · rw [q, if_pos rfl, if_pos rfl]
      exact zS_r rfl
    · rw [q, if_neg (by omega), if_neg (by omega)]
      refine zS_b (lD_leastDry_eq h (by omega)) ?_
      exact zS_r rfl
  · refine zM_q (M := M) (W := W) (c := 0 < W 9) (k := fun r1_ => lm_thirst_c14 zN (-1) 0 r1_.2) (zS_mono (lm_asksState_ok h.2.1 h.1) (fun r q => q)) (fun c2 r r1 r2 r3 => ?_) (fun c2 => (if_neg c2).symm)
    rw [if_pos c2]
    have hSl : ∀ p : Nat, p < (W 6).toNat → lm_sleepsOf (p : Int) r.2 = some (zdSl (zE0 W) (W 1).toNat p) := fun p hp => lm_sleepsOf_eq (by rw [r2]; omega) b4 r3 hp (by omega)
    have hSb : ∀ p, zdSl (zE0 W) (W 1).toNat p = -1 ∨ 0 ≤ zdSl (zE0 W) (W 1).toNat p := fun p => by
      unfold zdSl
      rcases zfs_cases (b := (W 1).toNat + 1) (f := fun n => decide (zdK (zdD (zE0 W) n) p = 0)) with ⟨q, _⟩ | ⟨i, hi, q, _⟩
      · exact Or.inl q
      · rw [q]; exact Or.inr (by omega)
    have hS0 : ∀ p n, n ≤ (W 1).toNat → zdK (zdD (zE0 W) n) p = 0 → 0 ≤ zdSl (zE0 W) (W 1).toNat p ∧ zdSl (zE0 W) (W 1).toNat p ≤ n := fun p n hn hz => by
      unfold zdSl
      rcases zfs_cases (b := (W 1).toNat + 1) (f := fun n => decide (zdK (zdD (zE0 W) n) p = 0)) with ⟨q, w⟩ | ⟨i, hi, q, w, v⟩
      · exact absurd hz (of_decide_eq_false (w n (by omega)))
      · rw [q]
        refine ⟨by omega, ?_⟩
        apply Decidable.byContradiction
        intro hni
        exact absurd hz (of_decide_eq_false (v n (by omega)))
    have hSz : ∀ p, zdSl (zE0 W) (W 1).toNat p ≠ -1 → zdSl (zE0 W) (W 1).toNat p ≤ (W 1).toNat ∧ zdK (zdD (zE0 W) (zdSl (zE0 W) (W 1).toNat p).toNat) p = 0 := fun p hp => by
      unfold zdSl at hp ⊢
      rcases zfs_cases (b := (W 1).toNat + 1) (f := fun n => decide (zdK (zdD (zE0 W) n) p = 0)) with ⟨q, w⟩ | ⟨i, hi, q, w, v⟩
      · exact absurd q hp
      · rw [q]
        exact ⟨by omega, of_decide_eq_true w⟩
    generalize hSg : (fun p => zdSl (zE0 W) (W 1).toNat p) = Sl
    have hSg : ∀ p, zdSl (zE0 W) (W 1).toNat p = Sl p := fun p => congrFun hSg p
    simp only [hSg] at hSl hSb hS0 hSz
    refine loopI (fun m i (a : Int) => lm_thirst_c14 m a (i : Int) r.2) (fun i a => (a = -1 ∧ ∀ p, p < i → Sl p = -1) ∨ (0 ≤ a ∧ a < i ∧ Sl a.toNat ≠ -1 ∧ (∀ p, p < i → Sl p ≠ -1 → Sl a.toNat ≤ Sl p) ∧ ∀ p, p < a.toNat → Sl p ≠ -1 → Sl a.toNat < Sl p)) (a0 := -1) 0 (W 6).toNat (by omega) (Or.inl ⟨rfl, fun p hp => by omega⟩) ?_ ?_ zN (zN_gt (by omega))
    · intro m i a _ hi ha k
      show zS (lm_thirst_c14 (m + 1) a (i : Int) r.2) _
      rw [lm_thirst_c14]
      refine zS_b lm_names_eq ?_
      have hi6 : (i : Int) < W 6 := by clear ha k; omega
      have hi5 : i < 1000 := by clear ha k; omega
      refine zS_it (by rw [r2]; exact hi6) ?_
      rw [w1 (by omega)]
      refine zS_b (hSl i hi) ?_
      by_cases h0 : Sl i = -1
      · rw [if_pos h0]
        refine k a ?_
        rcases ha with ⟨q1, q2⟩ | ⟨q1, q2, q3, q4, q5⟩
        · exact Or.inl ⟨q1, fun j hj => by
            by_cases hji : j = i
            · rw [hji]; exact h0
            · exact q2 j (by omega)⟩
        · exact Or.inr ⟨q1, by omega, q3, fun j hj hjn => by
            by_cases hji : j = i
            · rw [hji] at hjn; exact absurd h0 hjn
            · exact q4 j (by omega) hjn, q5⟩
      · rw [if_neg h0]
        rcases ha with ⟨q1, q2⟩ | ⟨q1, q2, q3, q4, q5⟩
        · rw [if_pos q1]
          refine k _ (Or.inr ⟨by omega, by omega, ?_, fun j hj hjn => ?_, fun j hj hjn => ?_⟩)
          · rw [Int.toNat_natCast]; exact h0
          · rw [Int.toNat_natCast]
            by_cases hji : j = i
            · rw [hji]; omega
            · exact absurd (q2 j (by omega)) hjn
          · rw [Int.toNat_natCast] at hj
            exact absurd (q2 j hj) hjn
        · rw [if_neg (by omega)]
          obtain ⟨b, rfl⟩ : ∃ b : Nat, a = (b : Int) := ⟨a.toNat, by omega⟩
          rw [Int.toNat_natCast] at q3 q4 q5
          refine zS_b (hSl i hi) ?_
          refine zS_b (hSl b (by omega)) ?_
          by_cases hlt : Sl i < Sl b
          · rw [if_pos hlt]
            refine k _ (Or.inr ⟨by omega, by omega, ?_, fun j hj hjn => ?_, fun j hj hjn => ?_⟩)
            · rw [Int.toNat_natCast]; exact h0
            · rw [Int.toNat_natCast]
              by_cases hji : j = i
              · rw [hji]; omega
              · have := q4 j (by omega) hjn; omega
            · rw [Int.toNat_natCast] at hj ⊢
              have := q4 j (by omega) hjn; omega
          · rw [if_neg hlt]
            refine k _ (Or.inr ⟨by omega, by omega, ?_, fun j hj hjn => ?_, fun j hj hjn => ?_⟩)
            · rw [Int.toNat_natCast]; exact q3
            · rw [Int.toNat_natCast]
              by_cases hji : j = i
              · rw [hji]; omega
              · exact q4 j (by omega) hjn
            · rw [Int.toNat_natCast] at hj ⊢
              exact q5 j hj hjn
    · intro m a ha
      show zS (lm_thirst_c14 (m + 1) a ((W 6).toNat : Int) r.2) _
      rw [lm_thirst_c14]
      refine zS_b lm_names_eq ?_
      have hi6 : ¬ (((W 6).toNat : Int) < W 6) := by clear ha; omega
      refine zS_ie (by rw [r2]; exact hi6) ?_
      refine zS_r ⟨?_, r1⟩
      show a = _
      unfold zTh
      rcases ha with ⟨q1, q2⟩ | ⟨q1, q2, q3, q4, q5⟩
      · rw [if_pos, q1]
        refine zfs_no (fun n hn => ?_)
        rw [← Bool.not_eq_true, zan_1]
        intro ⟨p, hp, e⟩
        have := hS0 p n (by omega) (of_decide_eq_true e)
        have := q2 p hp
        omega
      · obtain ⟨b, rfl⟩ : ∃ b : Nat, a = (b : Int) := ⟨a.toNat, by omega⟩
        rw [Int.toNat_natCast] at q3 q4 q5
        obtain ⟨w1', w2⟩ := hSz b q3
        have w0 := hSb b
        have e : zfs ((W 1).toNat + 1) (fun n => zan (W 6).toNat (fun p => decide (zdK (zdD (zE0 W) n) p = 0))) = ((Sl b).toNat : Int) := by
          refine zfs_at (by omega) (zan_1.mpr ⟨b, by omega, decide_eq_true w2⟩) (fun n hn => ?_)
          rw [← Bool.not_eq_true, zan_1]
          intro ⟨p, hp, e⟩
          have s1 := hS0 p n (by omega) (of_decide_eq_true e)
          have s2 := q4 p hp (by omega)
          omega
        rw [e, if_neg (by omega), Int.toNat_natCast]
        refine (zfs_at (by omega) (decide_eq_true w2) (fun p hp => ?_)).symm
        refine decide_eq_false (fun q => ?_)
        have s1 := hS0 p _ (by omega) q
        have s2 := q5 p hp (by omega)
        omega
end ZQE
