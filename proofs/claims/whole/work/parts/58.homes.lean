/-! Where a name can live. -/
def zEh (W : Nat → Int) (a c : Nat) : zE := zEd W (wup (whm W) a (c : Int)) (wik W) (-1) zno (wcls W) zno (W 2)
/-- where it is at a step, living at a corner -/
def zPh (W : Nat → Int) (a c n : Nat) : Int := zdP (zdD (zEh W a c) n) a
def zTrc (cell : Nat) (M : Nat → Nat → Int) (W : Nat → Int) (a i : Nat) : Prop := ∀ c n, c < i → n ≤ (W 1).toNat → M cell (21 * c + n) = zPh W a c n
theorem zS_bs {α : Type} {o : Option α} {Q : α → Prop} (h : zS (o.bind some) Q) : zS o Q := by
  cases o with
  | none => exact (zS_none h).elim
  | some x => exact h
section ZHM
variable {W : Nat → Int} {M M1 : Nat → Nat → Int} {x y : Int}
def zHo (W : Nat → Int) (M : Nat → Nat → Int) (s : Nat) : Bool := zPr M s (fun u v => decide (0 ≤ u ∧ u ≤ W 1 ∧ 0 ≤ v ∧ v ≤ W 0 - 1))
def zHa (W : Nat → Int) (M : Nat → Nat → Int) (s a c : Nat) : Bool := zPr M s (fun u v => decide (zPh W a c u.toNat = v))
def zHv (W : Nat → Int) (M : Nat → Nat → Int) (x y : Int) : Int := if (0 ≤ x ∧ x ≤ 3) ∧ (0 ≤ y ∧ y < W 6) then (if M 126 x.toNat ≠ -1 then (if M 126 x.toNat % 2 = 0 ∧ zHo W M x.toNat = true then zst (W 0).toNat (zHa W M x.toNat y.toNat) else -2) else -6) else -2
theorem w21 {n p : Nat} (h : n < 1000) (h2 : p < 1000) : w32 (w32 ((n : Int) * 21) + (p : Int)) = ((21 * n + p : Nat) : Int) := by simp (disch := omega) only [w32_eq]; omega
theorem w21' {n p : Nat} (h : n < 1000) (h2 : p < 1000) : w32 (w32 (21 * (n : Int)) + (p : Int)) = ((21 * n + p : Nat) : Int) := by simp (disch := omega) only [w32_eq]; omega
theorem zNb_keep (hK : zKeep M M1) {s i : Nat} : zNb M1 s i = zNb M s i := by
  unfold zNb
  rw [zKeep_c hK 128 (by omega)]
theorem xTrace {a c : Nat} (h : zInv W M) (hK : zKeep M M1) (ha : a < (W 6).toNat) (hc : c < 8) (h37 : zcT 37 (W 1).toNat (zEh W a c) M1) (ht : zTrc 105 M1 W a c) : zS (lX_keepTrace (a : Int) (c : Int) M1) (fun M2 => zKeep M M2 ∧ zTrc 105 M2 W a (c + 1)) := by
  obtain ⟨b1, b2, b3, b4, b5, b6, b7, b8⟩ := xB h
  unfold lX_keepTrace
  refine loopI (fun m i (N : Nat → Nat → Int) => lX_keepTrace_c2 (a : Int) (c : Int) m (i : Int) N) (fun i N => zKeep M N ∧ N 42 = M1 42 ∧ zTrc 105 N W a c ∧ ∀ n, n < i → N 105 (21 * c + n) = zPh W a c n) (a0 := M1) 0 ((W 1).toNat + 1) (by omega) ⟨hK, rfl, ht, fun n hn => by omega⟩ ?_ ?_ zN (zN_gt (by omega))
  · intro m i N _ hi ⟨h1, h2, h3, h4⟩ k
    show zS (lX_keepTrace_c2 (a : Int) (c : Int) (m + 1) (i : Int) N) _
    rw [lX_keepTrace_c2]
    refine zS_ie (by rw [zKeep_c h1 3 (by omega)]; omega) ?_
    rw [w5' (by omega) (by omega), w21 (by omega) (by omega), w1 (by omega)]
    refine zS_b (rdI_n sh_42 (by omega)) ?_
    refine zS_b (wrI_n sh_105 (by omega)) ?_
    have e42 : N 42 (5 * i + a) = zPh W a c i := by
      rw [h2]
      exact ((h37 i (by omega)).1 a ha).1
    rw [e42]
    refine k _ ⟨fun e j he => ?_, by rw [zup_c (by omega)]; exact h2, fun d n hd hn => ?_, fun n hn => ?_⟩
    · have he2 := he
      unfold zkp at he
      rw [zup_c (by omega)]
      exact h1 e j he2
    · rw [zup_i (by omega)]
      exact h3 d n hd hn
    · rw [zup_a]
      by_cases hni : n = i
      · rw [if_pos (by omega), hni]
      · rw [if_neg (by omega)]
        exact h4 n (by omega)
  · intro m N ⟨h1, h2, h3, h4⟩
    show zS (lX_keepTrace_c2 (a : Int) (c : Int) (m + 1) (((W 1).toNat + 1 : Nat) : Int) N) _
    rw [lX_keepTrace_c2]
    refine zS_it (by rw [zKeep_c h1 3 (by omega)]; omega) ?_
    refine zS_r ⟨h1, fun d n hd hn => ?_⟩
    by_cases hdc : d = c
    · rw [hdc]; exact h4 n (by omega)
    · exact h3 d n (by omega) hn
theorem xTraced {a c i n : Nat} (ht : zTrc 105 M W a i) (hc : c < i) (hi : i ≤ 8) (hn : n ≤ (W 1).toNat) (h20 : (W 1).toNat ≤ 20) : lX_traced (c : Int) (n : Int) M = some (zPh W a c n) := by
  refine zS_eq ?_
  unfold lX_traced
  rw [w21 (by omega) (by omega)]
  refine zS_b (rdI_n sh_105 (by omega)) ?_
  exact zS_r (ht c n hc hn)
theorem xSeen {s a c : Nat} (h : zInv W M) (hK : zKeep M M1) (hs : s < 4) (hf : M 126 s ≠ -1) (h2 : M 126 s % 2 = 0) (ho : zHo W M s = true) (hc : c < 8) (ht : zTrc 105 M1 W a (c + 1)) : lX_agreesWithSeen (s : Int) (c : Int) M1 = some (if zHa W M s a c = true then 1 else 0) := by
  obtain ⟨b1, b2, b3, b4, b5, b6, b7, b8⟩ := xB h
  obtain ⟨u0, u1, _, _, u4, _, u6, u7, _⟩ := h.2.1
  have e126 : M1 126 = M 126 := zKeep_c hK 126 (by omega)
  obtain ⟨r1, r2, r3, r4⟩ := rLen (zInv_keep h hK) hs (by rw [e126]; exact hf)
  rw [e126] at r1 r2 r3
  refine zS_eq ?_
  unfold lX_agreesWithSeen
  obtain ⟨n, hn⟩ : ∃ n : Nat, M 126 s = (n : Int) := ⟨(M 126 s).toNat, by omega⟩
  refine loopI (A := Unit) (fun m i _ => lX_agreesWithSeen_c2 (s : Int) (c : Int) M1 m ((2 * i : Nat) : Int)) (fun i _ => ∀ j, j < i → decide (zPh W a c (zNb M s (2 * j)).toNat = zNb M s (2 * j + 1)) = true) (a0 := ()) 0 (n / 2) (by omega) (fun j hj => by omega) ?_ ?_ zN (zN_gt (by omega))
  · intro m i _ _ hi hI k
    have k := k ()
    have e1 : w32 (((2 * i : Nat) : Int) + 1) = ((2 * i + 1 : Nat) : Int) := by rw [w32_eq (by omega) (by omega)]; omega
    have e2 : w32 (((2 * i : Nat) : Int) + 2) = ((2 * (i + 1) : Nat) : Int) := by rw [w32_eq (by omega) (by omega)]; omega
    have hoi := of_decide_eq_true (zal_1.mp ho i (by rw [hn]; exact hi))
    show zS (lX_agreesWithSeen_c2 (s : Int) (c : Int) M1 (m + 1) ((2 * i : Nat) : Int)) _
    rw [lX_agreesWithSeen_c2]
    refine zS_b (rdI_n sh_99 hs) ?_
    rw [r1, hn, e1, e2]
    refine zS_it (by omega) ?_
    refine zS_b (rdA_100 hs) ?_
    refine zS_b (rdL_n (sh_row hs) (by omega)) ?_
    rw [r4 _ (by omega), zNb_keep hK, w32_eq (by omega) (by omega)]
    have hu : zNb M s (2 * i) = ((zNb M s (2 * i)).toNat : Int) := by omega
    have hT : lX_traced (c : Int) (zNb M s (2 * i)) M1 = some (zPh W a c (zNb M s (2 * i)).toNat) := by
      conv => lhs; rw [hu]
      exact xTraced ht (by omega) (by omega) (by omega) b4
    refine zS_b hT ?_
    refine zS_b (rdA_100 hs) ?_
    refine zS_b (rdL_n (sh_row hs) (by omega)) ?_
    rw [r4 _ (by omega), zNb_keep hK]
    by_cases c1 : zPh W a c (zNb M s (2 * i)).toNat = zNb M s (2 * i + 1)
    · rw [if_pos c1]
      exact k (fun j hj => by
        by_cases hji : j = i
        · rw [hji]; exact decide_eq_true c1
        · exact hI j (by omega))
    · rw [if_neg c1]
      refine zS_r ?_
      rw [if_neg]
      intro q
      exact c1 (of_decide_eq_true (zal_1.mp q i (by rw [hn]; exact hi)))
  · intro m _ hI
    have e1 : w32 (((2 * (n / 2) : Nat) : Int) + 1) = ((2 * (n / 2) + 1 : Nat) : Int) := by rw [w32_eq (by omega) (by omega)]; omega
    show zS (lX_agreesWithSeen_c2 (s : Int) (c : Int) M1 (m + 1) ((2 * (n / 2) : Nat) : Int)) _
    rw [lX_agreesWithSeen_c2]
    refine zS_b (rdI_n sh_99 hs) ?_
    rw [r1, hn, e1]
    refine zS_ie (by omega) ?_
    refine zS_r ?_
    rw [if_pos]
    exact zal_1.mpr (fun j hj => hI j (by rw [hn] at hj; exact hj))
theorem xLive105 {a c : Nat} (h : zInv W M) (ha : a < (W 6).toNat) (hc : c < 8) : zS (lX_signedLivingAt (a : Int) (c : Int) M) (fun r => r.2 105 = M 105) := by
  obtain ⟨u0, u1, _, _, u4, _, u6, u7, _⟩ := h.2.1
  unfold lX_signedLivingAt
  refine zS_m (zS_and (lD_asNow_ok zis_1_37) (zS_bs (xTr (g := some) (Q := fun M1 => zcI 37 M1 W (whm W) (wik W) zno (wcls W) (W 2) (-1)) h (fun M1 k1 i1 => zS_r i1)))) ?_
  intro M1 ⟨⟨a1, _⟩, i1⟩
  have i1' := i1
  obtain ⟨_, _, _, _, i8, i9, i10, i11, iHI⟩ := i1
  refine zS_b (wrI_n sh_40 (by omega)) ?_
  have i2 : zcI 37 (zup M1 40 a (c : Int)) W (wup (whm W) a c) (wik W) zno (wcls W) (W 2) (-1) := zcI_cg i1' (fun e he => zup_c (by omega)) (by rw [zup_c (by omega)]; exact i8) (by rw [zup_c (by omega)]; exact i9) (by rw [zup_c (by omega)]; exact i10) (by rw [zup_c (by omega)]; exact i11) (fun p hp => by
    have q := iHI p hp
    rw [zup_a, zup_c (show 41 ≠ 40 by decide)]
    unfold wup
    by_cases hpa : p = a
    · rw [if_pos hpa, if_pos hpa]
      exact ⟨rfl, q.2.1, by omega, by omega, q.2.2.2.2⟩
    · rw [if_neg hpa, if_neg hpa]
      exact q)
  refine zS_m (zc_run i2 (zset_no (n := 20))) ?_
  intro r ⟨_, r2, _⟩
  refine zS_r ?_
  show r.2 105 = M 105
  rw [r2 105 (by omega) (by omega) (by omega) (by omega), zup_c (by omega), a1 105 (by omega) (by omega) (by omega)]
theorem xHomes (h : zInv W M) : zS (lX_possibleHomes x y M) (fun r => r.1 = zHv W M x y ∧ zKeep M r.2 ∧ (0 ≤ zHv W M x y → zTrc 105 r.2 W y.toNat (W 0).toNat)) := by
  obtain ⟨b1, b2, b3, b4, b5, b6, b7, b8⟩ := xB h
  obtain ⟨u0, u1, _, _, u4, _, u6, u7, _⟩ := h.2.1
  refine zS_gen (fun Q hQ => ?_)
  have hm2 : zHv W M x y = -2 → zS (some ((-2 : Int), M)) Q := fun e => zS_r (hQ _ ⟨e.symm, zKeep_r, fun q => by omega⟩)
  unfold lX_possibleHomes
  refine zS_b xSlot ?_
  by_cases c1 : 0 ≤ x ∧ x ≤ 3
  · rw [zbo_t c1, if_neg (by decide)]
    refine zS_b (xName h) ?_
    by_cases c2 : 0 ≤ y ∧ y < W 6
    · rw [zbo_t c2, if_neg (by decide)]
      obtain ⟨s, rfl⟩ : ∃ p : Nat, x = (p : Int) := ⟨x.toNat, by omega⟩
      obtain ⟨a, rfl⟩ : ∃ p : Nat, y = (p : Int) := ⟨y.toNat, by omega⟩
      have hs : s < 4 := by omega
      have ha : a < (W 6).toNat := by omega
      have hV : zHv W M (s : Int) (a : Int) = if M 126 s ≠ -1 then (if M 126 s % 2 = 0 ∧ zHo W M s = true then zst (W 0).toNat (zHa W M s a) else -2) else -6 := if_pos ⟨c1, c2⟩
      refine zS_b (xFill hs) ?_
      have hfi := rFill h hs
      by_cases hf : M 126 s ≠ -1
      · rw [zbo_t (hfi.mpr hf), if_neg (by decide)]
        rw [if_pos hf] at hV
        have ew : w32 (M 3 0 - 1) = W 0 - 1 := by rw [b7, w32_eq (by omega) (by omega)]; omega
        have e31 : M 3 1 = W 1 := h.2.2.1.2.1
        rw [ew, e31]
        refine zS_b (xPairs h hs hf) ?_
        by_cases hp : M 126 s % 2 = 0 ∧ zHo W M s = true
        · have hp2 : M 126 s % 2 = 0 ∧ zPr M s (fun u v => decide (0 ≤ u ∧ u ≤ W 1 ∧ 0 ≤ v ∧ v ≤ W 0 - 1)) = true := hp
          rw [if_pos hp2, if_neg (by decide)]
          rw [if_pos hp] at hV
          refine loopI (fun m i (t : Int × (Nat → Nat → Int)) => lX_possibleHomes_c71 (s : Int) (a : Int) m t.1 (i : Int) t.2) (fun i t => t.1 = zst i (zHa W M s a) ∧ zKeep M t.2 ∧ zTrc 105 t.2 W a i) (a0 := (0, M)) 0 (W 0).toNat (by omega) ⟨rfl, zKeep_r, fun c n hc => by omega⟩ ?_ ?_ zN (zN_gt (by omega))
          · intro m i t _ hi ⟨ht, hK, hT⟩ k
            obtain ⟨t1, M1⟩ := t
            have ht : t1 = zst i (zHa W M s a) := ht
            have hK : zKeep M M1 := hK
            have hT : zTrc 105 M1 W a i := hT
            have e : zst (i + 1) (zHa W M s a) = if zHa W M s a i = true then zor (zst i (zHa W M s a)) (zshl 1 (i : Int)) else zst i (zHa W M s a) := rfl
            show zS (lX_possibleHomes_c71 (s : Int) (a : Int) (m + 1) t1 (i : Int) M1) _
            rw [lX_possibleHomes_c71]
            refine zS_it (by rw [zKeep_c hK 3 (by omega)]; omega) ?_
            refine zS_m (zS_and (xLive (zInv_keep h hK) ha (show i < 8 by omega)) (xLive105 (zInv_keep h hK) ha (show i < 8 by omega))) (fun r hr => ?_)
            obtain ⟨⟨_, r2, r3⟩, r4⟩ := hr
            have hK2 := zKeep_t hK r2
            refine zS_m (xTrace h hK2 ha (show i < 8 by omega) r3 (fun c n hc hn => by rw [r4]; exact hT c n hc hn)) ?_
            intro M2 ⟨q1, q2⟩
            refine zS_b (xSeen h q1 hs hf hp.1 hp.2 (show i < 8 by omega) q2) ?_
            rw [w1 (by omega)]
            by_cases hz : zHa W M s a i = true
            · rw [if_pos hz, if_neg (by decide)]
              exact k (zor t1 (zshl 1 (i : Int)), M2) ⟨by rw [e, if_pos hz, ← ht], q1, q2⟩
            · rw [if_neg hz, if_pos rfl]
              exact k (t1, M2) ⟨by rw [e, if_neg hz, ← ht], q1, q2⟩
          · intro m t ⟨ht, hK, hT⟩
            show zS (lX_possibleHomes_c71 (s : Int) (a : Int) (m + 1) t.1 ((W 0).toNat : Int) t.2) _
            rw [lX_possibleHomes_c71]
            refine zS_ie (by rw [zKeep_c hK 3 (by omega)]; omega) ?_
            exact zS_r (hQ _ ⟨by rw [hV]; exact ht, hK, fun _ => hT⟩)
        · have hp2 : ¬ (M 126 s % 2 = 0 ∧ zPr M s (fun u v => decide (0 ≤ u ∧ u ≤ W 1 ∧ 0 ≤ v ∧ v ≤ W 0 - 1)) = true) := hp
          rw [if_neg hp2, if_pos rfl]
          rw [if_neg hp] at hV
          exact hm2 hV
      · rw [zbo_f (fun q => hf (hfi.mp q)), if_pos rfl]
        rw [if_neg hf] at hV
        exact zS_r (hQ _ ⟨hV.symm, zKeep_r, fun q => by omega⟩)
    · rw [zbo_f c2, if_pos rfl]
      exact hm2 (if_neg (fun q => c2 q.2))
  · rw [zbo_f c1, if_pos rfl]
    exact hm2 (if_neg (fun q => c1 q.1))
end ZHM
