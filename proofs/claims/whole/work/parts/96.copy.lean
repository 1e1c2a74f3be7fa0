/-! Copies of what is told, and of the acts. -/
theorem zTold_mv {t s : Nat} {M M' : Nat → Nat → Int} {W : Nat → Int} (hw : wOk W) (h : zTold s M W) (f : ∀ j, j < 9 → M' t j = M s j) (c1 : ∀ j, j < 12 → M' (t + 1) j = M (s + 1) j) (c2 : ∀ j, j < 12 → M' (t + 2) j = M (s + 2) j) (c3 : ∀ j, j < 8 → M' (t + 3) j = M (s + 3) j) (c4 : ∀ j, j < 5 → M' (t + 4) j = M (s + 4) j) (c5 : ∀ j, j < 5 → M' (t + 5) j = M (s + 5) j) (c6 : ∀ j, j < 5 → M' (t + 6) j = M (s + 6) j) (c7 : ∀ j, j < 5 → M' (t + 7) j = M (s + 7) j) (c8 : ∀ j, j < 40 → M' (t + 8) j = M (s + 8) j) (c9 : ∀ j, j < 6 → M' (t + 9) j = M (s + 9) j) : zTold t M' W := by
  obtain ⟨u0, u1, u2, u3, u4, u5, u6, u7, u8, u9, _, _, _, _, unam, _⟩ := hw
  obtain ⟨t0, t1, t2, t3, t4, t5, t6, t7, t8, ts, tw, tn, tc⟩ := h
  unfold zTold
  rw [f 0 (by omega), f 1 (by omega), f 2 (by omega), f 3 (by omega), f 4 (by omega), f 5 (by omega), f 6 (by omega), f 7 (by omega), f 8 (by omega)]
  refine ⟨t0, t1, t2, t3, t4, t5, t6, t7, t8, fun k hk => ?_, fun x hx => ?_, fun p hp => ?_, fun k hk => ?_⟩
  · rw [c1 k (by omega), c2 k (by omega)]
    exact ts k hk
  · rw [c3 x hx]
    exact tw x hx
  · have q := unam p hp
    rw [c4 p (by omega), c5 p (by omega), c6 p (by omega), c7 p (by omega)]
    obtain ⟨n1, n2, n3, n4, n5⟩ := tn p hp
    refine ⟨n1, n2, n3, n4, fun i hi => ?_⟩
    rw [c8 (8 * p + i) (by omega)]
    exact n5 i hi
  · rw [c9 k (by omega)]
    exact tc k hk
set_option maxHeartbeats 4000000 in
theorem lT_takeFrom_ok {t s : Nat} {M : Nat → Nat → Int} {W : Nat → Int} (ht : zis 6 t = true) (hs : zis 6 s = true) (hd : t + 9 < s ∨ s + 9 < t) (hw : wOk W) (h : zTold s M W) : zS (lT_takeFrom t s M) (fun M' => zTold t M' W ∧ ∀ c, c < t ∨ t + 9 < c → M' c = M c) := by
  unfold lT_takeFrom
  rw [if_pos ht, if_pos hs]
  refine zS_b rfl ?_
  rw [zup_c (show s ≠ t by omega)]
  refine zS_b rfl ?_
  rw [zup_c (show s ≠ t by omega), zup_c (show s ≠ t by omega)]
  refine zS_b rfl ?_
  rw [zup_c (show s ≠ t by omega), zup_c (show s ≠ t by omega), zup_c (show s ≠ t by omega)]
  refine zS_b rfl ?_
  rw [zup_c (show s ≠ t by omega), zup_c (show s ≠ t by omega), zup_c (show s ≠ t by omega), zup_c (show s ≠ t by omega)]
  refine zS_b rfl ?_
  rw [zup_c (show s ≠ t by omega), zup_c (show s ≠ t by omega), zup_c (show s ≠ t by omega), zup_c (show s ≠ t by omega), zup_c (show s ≠ t by omega)]
  refine zS_b rfl ?_
  rw [zup_c (show s ≠ t by omega), zup_c (show s ≠ t by omega), zup_c (show s ≠ t by omega), zup_c (show s ≠ t by omega), zup_c (show s ≠ t by omega), zup_c (show s ≠ t by omega)]
  refine zS_b rfl ?_
  rw [zup_c (show s ≠ t by omega), zup_c (show s ≠ t by omega), zup_c (show s ≠ t by omega), zup_c (show s ≠ t by omega), zup_c (show s ≠ t by omega), zup_c (show s ≠ t by omega), zup_c (show s ≠ t by omega)]
  refine zS_b rfl ?_
  rw [zup_c (show s ≠ t by omega), zup_c (show s ≠ t by omega), zup_c (show s ≠ t by omega), zup_c (show s ≠ t by omega), zup_c (show s ≠ t by omega), zup_c (show s ≠ t by omega), zup_c (show s ≠ t by omega), zup_c (show s ≠ t by omega)]
  refine zS_b rfl ?_
  have hf : ∀ j, j < 9 → (zup (zup (zup (zup (zup (zup (zup (zup (zup M t 0 (M s 0)) t 1 (M s 1)) t 2 (M s 2)) t 3 (M s 3)) t 4 (M s 4)) t 5 (M s 5)) t 6 (M s 6)) t 7 (M s 7)) t 8 (M s 8)) t j = M s j := fun j hj => by
    have : j = 0 ∨ j = 1 ∨ j = 2 ∨ j = 3 ∨ j = 4 ∨ j = 5 ∨ j = 6 ∨ j = 7 ∨ j = 8 := by omega
    rcases this with rfl | rfl | rfl | rfl | rfl | rfl | rfl | rfl | rfl <;> simp (disch := omega) only [zup_i, zup_s]
  have hc : ∀ c, c ≠ t → (zup (zup (zup (zup (zup (zup (zup (zup (zup M t 0 (M s 0)) t 1 (M s 1)) t 2 (M s 2)) t 3 (M s 3)) t 4 (M s 4)) t 5 (M s 5)) t 6 (M s 6)) t 7 (M s 7)) t 8 (M s 8)) c = M c := fun c hc => by
    simp (disch := omega) only [zup_c]
  generalize (zup (zup (zup (zup (zup (zup (zup (zup (zup M t 0 (M s 0)) t 1 (M s 1)) t 2 (M s 2)) t 3 (M s 3)) t 4 (M s 4)) t 5 (M s 5)) t 6 (M s 6)) t 7 (M s 7)) t 8 (M s 8)) = N at hf hc ⊢
  refine zS_b (cpA_n (sp := 0) (dp := 0) (n := 12) (sh_T1 hs) (sh_T1 ht) (Or.inl rfl) (by omega) (by omega)) ?_
  refine zS_b (cpA_n (sp := 0) (dp := 0) (n := 12) (sh_T2 hs) (sh_T2 ht) (Or.inl rfl) (by omega) (by omega)) ?_
  refine zS_b (cpA_n (sp := 0) (dp := 0) (n := 8) (sh_T3 hs) (sh_T3 ht) (Or.inl rfl) (by omega) (by omega)) ?_
  refine zS_b (cpA_n (sp := 0) (dp := 0) (n := 5) (sh_T4 hs) (sh_T4 ht) (Or.inl rfl) (by omega) (by omega)) ?_
  refine zS_b (cpA_n (sp := 0) (dp := 0) (n := 5) (sh_T5 hs) (sh_T5 ht) (Or.inl rfl) (by omega) (by omega)) ?_
  refine zS_b (cpA_n (sp := 0) (dp := 0) (n := 5) (sh_T6 hs) (sh_T6 ht) (Or.inl rfl) (by omega) (by omega)) ?_
  refine zS_b (cpA_n (sp := 0) (dp := 0) (n := 5) (sh_T7 hs) (sh_T7 ht) (Or.inl rfl) (by omega) (by omega)) ?_
  refine zS_b (cpA_n (sp := 0) (dp := 0) (n := 40) (sh_T8 hs) (sh_T8 ht) (Or.inl rfl) (by omega) (by omega)) ?_
  refine zS_b (cpA_n (sp := 0) (dp := 0) (n := 6) (sh_T9 hs) (sh_T9 ht) (Or.inl rfl) (by omega) (by omega)) ?_
  refine zS_r ⟨zTold_mv hw h (fun j hj => ?_) (fun j hj => ?_) (fun j hj => ?_) (fun j hj => ?_) (fun j hj => ?_) (fun j hj => ?_) (fun j hj => ?_) (fun j hj => ?_) (fun j hj => ?_) (fun j hj => ?_), fun c hc2 => ?_⟩
  · simp (disch := omega) only [zcpy_c]
    exact hf j hj
  · simp (disch := omega) only [zcpy_c, zcpy_0, hc]
  · simp (disch := omega) only [zcpy_c, zcpy_0, hc]
  · simp (disch := omega) only [zcpy_c, zcpy_0, hc]
  · simp (disch := omega) only [zcpy_c, zcpy_0, hc]
  · simp (disch := omega) only [zcpy_c, zcpy_0, hc]
  · simp (disch := omega) only [zcpy_c, zcpy_0, hc]
  · simp (disch := omega) only [zcpy_c, zcpy_0, hc]
  · simp (disch := omega) only [zcpy_c, zcpy_0, hc]
  · simp (disch := omega) only [zcpy_c, zcpy_0, hc]
  · simp (disch := omega) only [zcpy_c, hc]
theorem zAct_mv {a b i : Nat} {M M' : Nat → Nat → Int} {W : Nat → Int} (h : zAct b M W i) (e1 : M' (a + 1) i = M (b + 1) i) (e2 : M' (a + 2) i = M (b + 2) i) (e3 : M' (a + 3) i = M (b + 3) i) (e4 : M' (a + 4) i = M (b + 4) i) : zAct a M' W i := by
  unfold zAct at h ⊢
  rw [e1, e2, e3, e4]
  exact h
set_option maxHeartbeats 4000000 in
theorem lA_takeFrom_ok {a b : Nat} {M : Nat → Nat → Int} {W : Nat → Int} (ha : zis 0 a = true) (hb : zis 0 b = true) (hd : a + 5 < b ∨ b + 5 < a) (hw : wOk W) (h0 : M b 0 = W 8) (h : ∀ i, i < (W 8).toNat → zAct b M W i) : zS (lA_takeFrom a b M) (fun M' => zActs a M' W ∧ ∀ c, c < a ∨ a + 5 < c → M' c = M c) := by
  have h8 := hw.2.2.2.2.2.2.2.2.1
  unfold lA_takeFrom
  rw [if_pos ha, if_pos hb]
  refine zS_b rfl ?_
  refine zS_b (cpA_n (sp := 0) (dp := 0) (n := 30) (sh_A1 hb) (sh_A1 ha) (Or.inl rfl) (by omega) (by omega)) ?_
  refine zS_b (cpA_n (sp := 0) (dp := 0) (n := 30) (sh_A2 hb) (sh_A2 ha) (Or.inl rfl) (by omega) (by omega)) ?_
  refine zS_b (cpA_n (sp := 0) (dp := 0) (n := 30) (sh_A3 hb) (sh_A3 ha) (Or.inl rfl) (by omega) (by omega)) ?_
  refine zS_b (cpA_n (sp := 0) (dp := 0) (n := 30) (sh_A4 hb) (sh_A4 ha) (Or.inl rfl) (by omega) (by omega)) ?_
  refine zS_m (lA_playAgain_ok ha hw ?_ (fun i hi => zAct_mv (h i hi) ?_ ?_ ?_ ?_)) ?_
  · simp (disch := omega) only [zcpy_c, zup_s]
    exact h0
  · simp (disch := omega) only [zcpy_c, zcpy_0, zup_c]
  · simp (disch := omega) only [zcpy_c, zcpy_0, zup_c]
  · simp (disch := omega) only [zcpy_c, zcpy_0, zup_c]
  · simp (disch := omega) only [zcpy_c, zcpy_0, zup_c]
  · intro M' ⟨q1, q2⟩
    refine zS_r ⟨q1, fun c hc => ?_⟩
    funext j
    rw [q2 c j (by omega) (by omega)]
    simp (disch := omega) only [zcpy_c, zup_c]
/-- the row is one of 138 places -/
theorem wrow_ok {W W' : Nat → Int} (hw : wOk W) (e : ∀ i, i < 138 → W' i = W i) : wOk W' := by
  have h8 := hw.2.2.2.2.2.2.2.2.1
  have h90 := hw.2.2.2.2.2.2.2.2.2.2.1
  have hact := hw.2.2.2.2.2.2.2.2.2.2.2.2.2.2.2.2
  refine wOk_acts hw (fun i h1 h2 => e i (by omega)) (by rw [e 8 (by omega)]; exact h8) (fun q => ?_) (fun i hi => ?_)
  · rw [e 8 (by omega)]
    exact (h90 q).2.2.2.2.2
  · rw [e 8 (by omega)] at hi
    rw [e (108 + i) (by omega)]
    exact hact i hi
theorem wrow_told {t : Nat} {M : Nat → Nat → Int} {W W' : Nat → Int} (hw : wOk W) (e : ∀ i, i < 138 → W' i = W i) (h : zTold t M W) : zTold t M W' := zTold_w hw h (fun i _ h2 => e i (by omega))
theorem wrow_act {a i : Nat} {M : Nat → Nat → Int} {W W' : Nat → Int} (e : ∀ i, i < 138 → W' i = W i) (hi : i < 30) (h : zAct a M W i) : zAct a M W' i := by
  unfold zAct at h ⊢
  rw [e 0 (by omega), e 1 (by omega), e 4 (by omega), e 6 (by omega), e (108 + i) (by omega)]
  exact h
