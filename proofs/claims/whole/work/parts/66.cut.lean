/-! Streets to be closed. -/
section ZCT
variable {W : Nat → Int} {M M1 : Nat → Nat → Int} {x y : Int}
def zcu (W : Nat → Int) (s : Nat) : Nat → Bool := fun k => wcls W k || s.testBit k
/-- a set of open streets that keeps a from b -/
def zCp (W : Nat → Int) (a b s : Nat) : Bool := zal 12 (fun k => !(s.testBit k && wcls W k)) && !(zR (zJ W (zcu W s)) 8 a b)
def zCutv (W : Nat → Int) (a b n : Nat) (v : Int) : Prop := (v = -1 ∧ ∀ s, s < n → zCp W a b s = false) ∨ (∃ d : Nat, v = (d : Int) ∧ d < n ∧ zCp W a b d = true ∧ ∀ s, s < n → zCp W a b s = true → zpc 12 d < zpc 12 s ∨ (zpc 12 d = zpc 12 s ∧ d ≤ s))
theorem zCutv_un {a b n : Nat} {v u : Int} (h : zCutv W a b n v) (k : zCutv W a b n u) : v = u := by
  rcases h with ⟨h1, h2⟩ | ⟨d, h1, h2, h3, h4⟩
  · rcases k with ⟨k1, _⟩ | ⟨c, k1, k2, k3, _⟩
    · rw [h1, k1]
    · rw [h2 c k2] at k3; cases k3
  · rcases k with ⟨k1, k2⟩ | ⟨c, k1, k2, k3, k4⟩
    · rw [k2 d h2] at h3; cases h3
    · have q1 := h4 c k2 k3
      have q2 := k4 d h2 h3
      rw [h1, k1]
      omega
theorem zpc_le {S s : Nat} (hS : S ≤ 12) (hs : s < 2 ^ S) : 0 ≤ zpc 12 s ∧ zpc 12 s ≤ S := by
  have e := zpc_up (k := S) hs (12 - S)
  rw [show S + (12 - S) = 12 by omega] at e
  rw [e]
  exact zpc_b S
theorem zset_nat {s n : Nat} (h : s < 2 ^ n) : zset n (s : Int) (fun k => s.testBit k) := ⟨s, rfl, h, fun _ _ => rfl⟩
theorem xCutBy {s a b : Nat} (h : zInv W M) (hs : s < 2 ^ 12) (ha : a < 8) (hb : b < 8) : zS (lX_isCutBy (s : Int) (a : Int) (b : Int) M) (fun r => r.1 = (if zR (zJ W (zcu W s)) 8 a b = true then 0 else 1) ∧ zKeep M r.2) := by
  unfold lX_isCutBy
  have hcl := zset_or h.2.2.2.1.2.1 (zset_nat hs) (by omega)
  obtain ⟨C, hb1, hc, hn⟩ := lN_build_ok zis_1_37 h.2.1 h.2.2.1 hcl
  refine zS_b hb1 ?_
  have hnr : zNr C 38 (zJ W (zcu W s)) := ⟨zis_3_38, fun c hc => hn c hc⟩
  refine zS_m (lN_within_ok (s := 8) hnr ha (by omega)) ?_
  intro v hv
  have hK : zKeep M C := fun c i hci => by
    unfold zkp at hci
    rw [hc c (by omega)]
  rw [zset_bit hv (by omega) hb]
  cases hz : zR (zJ W (zcu W s)) 8 a b with
  | true =>
    rw [if_pos rfl, if_neg (by decide), if_pos rfl]
    exact zS_r ⟨rfl, hK⟩
  | false =>
    rw [if_pos (by decide), if_neg (by decide)]
    exact zS_r ⟨rfl, hK⟩
theorem zDj {s : Nat} {z : Int} (hs : s < 2 ^ 12) (h : zset 12 z (wcls W)) : zand (s : Int) z = 0 ↔ zal 12 (fun k => !(s.testBit k && wcls W k)) = true := by
  have h2 := zset_and (zset_nat hs) h (by omega)
  rw [zset_zero h2, zal_1]
  constructor
  · intro q k hk
    have := q k hk
    show (!(s.testBit k && wcls W k)) = true
    rw [this]
    rfl
  · intro q k hk
    have := q k hk
    have this : (!(s.testBit k && wcls W k)) = true := this
    revert this
    cases (s.testBit k && wcls W k) <;> simp
theorem p12 {S : Nat} (hS : S ≤ 12) : 2 ^ S ≤ 4096 ∧ 2 ^ S ≤ 2 ^ 12 ∧ 0 < 2 ^ S := by
  have h : 2 ^ S ≤ 2 ^ 12 := Nat.pow_le_pow_right (by decide) hS
  have e : (2 : Nat) ^ 12 = 4096 := by decide
  exact ⟨by omega, h, Nat.two_pow_pos S⟩
theorem xCuts {p q : Nat} (h : zInv W M) (hp : p < (W 6).toNat) (hq : q < (W 6).toNat) (hpq : p ≠ q) : zS (lX_streetsToCut (p : Int) (q : Int) M) (fun r => zCutv W (whm W p).toNat (whm W q).toNat (2 ^ (W 4).toNat) r.1 ∧ zKeep M r.2) := by
  obtain ⟨u0, u1, _, _, u4, _, u6, u7, _⟩ := h.2.1
  have tn := h.2.2.1.2.2.2.2.2.2.2.2.2.2.2.1
  have b35 : M 3 5 = W 4 := h.2.2.1.2.2.2.2.2.1
  have hmp := whm_b h.2.1 hp
  have hmq := whm_b h.2.1 hq
  have e7 : M 7 p = (((whm W p).toNat : Nat) : Int) := by
    have t : M 7 p = whm W p := (tn p hp).1
    omega
  have e7q : M 7 q = (((whm W q).toNat : Nat) : Int) := by
    have t : M 7 q = whm W q := (tn q hq).1
    omega
  obtain ⟨S, hS⟩ : ∃ S : Nat, W 4 = (S : Int) := ⟨(W 4).toNat, by omega⟩
  have hS12 : S ≤ 12 := by omega
  have hSn : (W 4).toNat = S := by omega
  rw [hSn]
  obtain ⟨pw1, pw2, pw3⟩ := p12 hS12
  unfold lX_streetsToCut
  refine zS_b (xTwo h) ?_
  rw [zbo_t ⟨by omega, by omega, by omega⟩, if_neg (by decide)]
  refine zS_b (rdI_n sh_7 (by omega)) ?_
  refine zS_b (rdI_n sh_7 (by omega)) ?_
  rw [e7, e7q]
  generalize ha : (whm W p).toNat = a at *
  generalize hb : (whm W q).toNat = b at *
  by_cases hab : a = b
  · rw [if_pos (by omega)]
    refine zS_r ⟨Or.inl ⟨rfl, fun s hs => ?_⟩, zKeep_r⟩
    unfold zCp
    have e : zR (zJ W (zcu W s)) 8 a b = true := by
      rw [hab]
      exact zR_mono (k := 0) (decide_eq_true rfl) 8
    rw [e]
    simp
  · rw [if_neg (by omega), b35, hS, zshl1 (by omega)]
    refine loopI (fun m i (N : Nat → Nat → Int) => lX_streetsToCut_c55 (p : Int) (q : Int) m (a : Int) (b : Int) ((2 ^ S : Nat) : Int) (i : Int) N) (fun i N => zKeep M N ∧ ∀ s, s < 2 ^ S → zpc 12 s < i → zCp W a b s = false) (a0 := M) 0 (S + 1) (by omega) ⟨zKeep_r, fun s hs hz => by have := (zpc_b (t := s) 12).1; omega⟩ ?_ ?_ zN (zN_gt (by omega))
    · intro m i N _ hi ⟨hK, hI⟩ k
      show zS (lX_streetsToCut_c55 (p : Int) (q : Int) (m + 1) (a : Int) (b : Int) ((2 ^ S : Nat) : Int) (i : Int) N) _
      rw [lX_streetsToCut_c55]
      refine zS_ie (by rw [zKeep_c hK 3 (by omega), b35, hS]; omega) ?_
      refine loopI (fun m' s (N : Nat → Nat → Int) => lX_streetsToCut_c70 (p : Int) (q : Int) (lX_streetsToCut_c55 (p : Int) (q : Int) m) m' (a : Int) (b : Int) ((2 ^ S : Nat) : Int) (i : Int) (s : Int) N) (fun s N => zKeep M N ∧ ∀ t, t < s → zpc 12 t = i → zCp W a b t = false) (a0 := N) 0 (2 ^ S) (Nat.zero_le _) ⟨hK, fun t ht => by omega⟩ ?_ ?_ zN (zN_gt (by omega))
      · intro m' s N' _ hs ⟨gK, gI⟩ k2
        have hinv := zInv_keep h gK
        have hno : (zpc 12 s = i → zCp W a b s = false) → ∀ N2, zKeep M N2 → zS (lX_streetsToCut_c70 (p : Int) (q : Int) (lX_streetsToCut_c55 (p : Int) (q : Int) m) m' (a : Int) (b : Int) ((2 ^ S : Nat) : Int) (i : Int) ((s + 1 : Nat) : Int) N2) _ := fun hz N2 hN2 => k2 N2 ⟨hN2, fun t ht hti => by
          by_cases hts : t = s
          · rw [hts] at hti ⊢; exact hz hti
          · exact gI t (by omega) hti⟩
        have hzero : (zpc 12 s = i → zCp W a b s = false) → zS (lX_streetsToCut_c105 (p : Int) (q : Int) (lX_streetsToCut_c55 (p : Int) (q : Int) m) (lX_streetsToCut_c70 (p : Int) (q : Int) (lX_streetsToCut_c55 (p : Int) (q : Int) m) m') (a : Int) (b : Int) ((2 ^ S : Nat) : Int) (i : Int) (s : Int) 0 N') (fun r => zCutv W a b (2 ^ S) r.1 ∧ zKeep M r.2) := fun hz => by
          unfold lX_streetsToCut_c105
          rw [if_pos rfl, w1 (by omega)]
          exact hno hz N' gK
        show zS (lX_streetsToCut_c70 (p : Int) (q : Int) (lX_streetsToCut_c55 (p : Int) (q : Int) m) (m' + 1) (a : Int) (b : Int) ((2 ^ S : Nat) : Int) (i : Int) (s : Int) N') _
        rw [lX_streetsToCut_c70]
        refine zS_it (by omega) ?_
        refine zS_b (lJ_bitCount_eq (by omega)) ?_
        by_cases hz : zpc 12 s = (i : Int)
        · rw [if_pos hz]
          have hdj := zDj (W := W) (s := s) (z := N' 23 1) (by omega) hinv.2.2.2.1.2.1
          by_cases hd : zand (s : Int) (N' 23 1) = 0
          · rw [if_pos hd]
            have hd2 := hdj.mp hd
            unfold lX_streetsToCut_c105
            rw [if_neg (by decide)]
            refine zS_m (xCutBy hinv (by omega) (by omega) (by omega)) (fun r hr => ?_)
            have hK2 := zKeep_t gK hr.2
            rw [hr.1]
            cases hR : zR (zJ W (zcu W s)) 8 a b with
            | true =>
              rw [if_pos rfl, if_pos rfl, w1 (by omega)]
              refine hno (fun _ => ?_) r.2 hK2
              unfold zCp
              rw [hR]
              simp
            | false =>
              rw [if_neg (by decide)]
              refine zS_r ⟨Or.inr ⟨s, rfl, hs, ?_, fun t ht hpt => ?_⟩, hK2⟩
              · unfold zCp
                rw [hd2, hR]
                rfl
              · by_cases hlt : zpc 12 t < (i : Int)
                · rw [hI t ht hlt] at hpt; cases hpt
                · by_cases heq : zpc 12 t = (i : Int)
                  · right
                    refine ⟨by omega, ?_⟩
                    apply Decidable.byContradiction
                    intro hn
                    rw [gI t (by omega) heq] at hpt
                    cases hpt
                  · left; omega
          · rw [if_neg hd]
            refine hzero (fun _ => ?_)
            unfold zCp
            cases hq2 : zal 12 (fun k => !(s.testBit k && wcls W k)) with
            | false => rfl
            | true => exact absurd (hdj.mpr hq2) hd
        · rw [if_neg hz]
          exact hzero (fun e => absurd e hz)
      · intro m' N' ⟨gK, gI⟩
        show zS (lX_streetsToCut_c70 (p : Int) (q : Int) (lX_streetsToCut_c55 (p : Int) (q : Int) m) (m' + 1) (a : Int) (b : Int) ((2 ^ S : Nat) : Int) (i : Int) ((2 ^ S : Nat) : Int) N') _
        rw [lX_streetsToCut_c70]
        refine zS_ie (by omega) ?_
        rw [w1 (by omega)]
        refine k N' ⟨gK, fun s hs hz => ?_⟩
        by_cases he : zpc 12 s = (i : Int)
        · exact gI s hs he
        · exact hI s hs (by omega)
    · intro m N ⟨hK, hI⟩
      show zS (lX_streetsToCut_c55 (p : Int) (q : Int) (m + 1) (a : Int) (b : Int) ((2 ^ S : Nat) : Int) ((S + 1 : Nat) : Int) N) _
      rw [lX_streetsToCut_c55]
      refine zS_it (by rw [zKeep_c hK 3 (by omega), b35, hS]; omega) ?_
      refine zS_r ⟨Or.inl ⟨rfl, fun s hs => hI s hs ?_⟩, hK⟩
      have := zpc_le hS12 hs
      omega
theorem mCuts {p q : Nat} (h : zInv W M) (hp : p < (W 6).toNat) (hq : q < (W 6).toNat) : zS (lm_cutOf (p : Int) (q : Int) M) (fun r => zCutv W (whm W p).toNat (whm W q).toNat (2 ^ (W 4).toNat) r.1 ∧ zKeep M r.2) := by
  obtain ⟨u0, u1, _, _, u4, _, u6, u7, _⟩ := h.2.1
  have hw := h.2.1
  have hmp := whm_b hw hp
  have hmq := whm_b hw hq
  obtain ⟨S, hS⟩ : ∃ S : Nat, W 4 = (S : Int) := ⟨(W 4).toNat, by omega⟩
  have hS12 : S ≤ 12 := by omega
  have hSn : (W 4).toNat = S := by omega
  rw [hSn]
  obtain ⟨pw1, pw2, pw3⟩ := p12 hS12
  have p1220 : (2 : Nat) ^ 12 = 4096 := by decide
  unfold lm_cutOf
  refine zS_m (lm_asItIs_ok hw h.1) ?_
  intro M1 hA
  have hS1 := zAs_S hw h.1 hA
  have hcl := hS1.2.2.2.2.2.1
  have hK1 := zAs_keep hA
  generalize hwas : M1 106 15 = was at hcl ⊢
  generalize ha : (whm W p).toNat = a at *
  generalize hb : (whm W q).toNat = b at *
  refine loopI (fun m i (s : Int × (Nat → Nat → Int)) => lm_cutOf_c15 (p : Int) (q : Int) m was s.1 (i : Int) s.2) (fun i s => zCutv W a b i s.1 ∧ zKeep M s.2 ∧ s.2 107 = W) (a0 := (-1, M1)) 0 (2 ^ S) (Nat.zero_le _) ⟨Or.inl ⟨rfl, fun s hs => by omega⟩, hK1, hS1.1⟩ ?_ ?_ zN (zN_gt (by omega))
  · intro m i s _ hi ⟨hv, hK, hW⟩ k
    obtain ⟨v, N⟩ := s
    have hv : zCutv W a b i v := hv
    have hK : zKeep M N := hK
    have hW : N 107 = W := hW
    have hdj := zDj (W := W) (s := i) (z := was) (by omega) hcl
    have hi12 : i < 4096 := by omega
    have hskip : (zCp W a b i = true → ∃ d : Nat, v = (d : Int) ∧ d < i ∧ zpc 12 d ≤ zpc 12 i) → zS (lm_cutOf_c15 (p : Int) (q : Int) m was v ((i + 1 : Nat) : Int) N) _ := fun hz => k (v, N) ⟨by
      rcases hv with ⟨q1, q2⟩ | ⟨d, q1, q2, q3, q4⟩
      · refine Or.inl ⟨q1, fun s hs => ?_⟩
        by_cases hsi : s = i
        · rw [hsi]
          cases hc : zCp W a b i with
          | false => rfl
          | true =>
            obtain ⟨d, w, _⟩ := hz hc
            omega
        · exact q2 s (by omega)
      · refine Or.inr ⟨d, q1, by omega, q3, fun s hs hc => ?_⟩
        by_cases hsi : s = i
        · rw [hsi] at hc ⊢
          obtain ⟨d', w1, w2, w3⟩ := hz hc
          have hdd : d' = d := by omega
          rw [hdd] at w3
          omega
        · exact q4 s (by omega) hc, hK, hW⟩
    have htry : zal 12 (fun k => !(i.testBit k && wcls W k)) = true → (∀ d : Nat, v = (d : Int) → zpc 12 i < zpc 12 d) → zS (lm_cutOf_c57 (p : Int) (q : Int) (lm_cutOf_c15 (p : Int) (q : Int) m) was v (i : Int) N) (fun r => zCutv W a b (2 ^ S) r.1 ∧ zKeep M r.2) := fun hd hbest => by
      unfold lm_cutOf_c57
      refine zS_b rfl ?_
      have hcl2 : zset 12 (zup N 106 15 (zor was (i : Int)) 106 15) (zcu W i) := by
        rw [zup_s]
        exact zset_or hcl (zset_nat (by omega)) (by omega)
      refine zS_m (lm_layWays_ok hw (by rw [zup_c (by omega)]; exact hW) hcl2) ?_
      intro M2 ⟨g1, g2⟩
      have hW2 : M2 107 = W := by rw [g1 107 (by omega), zup_c (by omega)]; exact hW
      have hK2 : zKeep M M2 := zKeep_t hK (zKeep_t (B := zup N 106 15 (zor was (i : Int))) (zKeep_f (by omega)) (fun c j hcj => by
        unfold zkp at hcj
        rw [g1 c (by omega)]))
      refine zS_b (lm_of_eq (w := 0) (by omega) (by omega)) ?_
      refine zS_b (lm_of_eq (w := 0) (by omega) (by omega)) ?_
      have e1 : M2 107 (42 + 12 * p + 0) = (a : Int) := by
        rw [hW2]
        have t : W (42 + 12 * p + 0) = whm W p := rfl
        omega
      have e2 : M2 107 (42 + 12 * q + 0) = (b : Int) := by
        rw [hW2]
        have t : W (42 + 12 * q + 0) = whm W q := rfl
        omega
      rw [e1, e2]
      refine zS_b (lm_wayOf_eq (by omega) (by omega)) ?_
      have h8 := zWy_8 g2 hw (i := a) (j := b) (by omega) (by omega)
      rw [w1 (by omega)]
      by_cases hf : M2 124 (8 * a + b) < 1000000000
      · rw [if_pos hf]
        have hc : zCp W a b i = false := by
          unfold zCp
          rw [h8, decide_eq_true hf]
          simp
        refine k (v, M2) ⟨?_, hK2, hW2⟩
        rcases hv with ⟨q1, q2⟩ | ⟨d, q1, q2, q3, q4⟩
        · refine Or.inl ⟨q1, fun s hs => ?_⟩
          by_cases hsi : s = i
          · rw [hsi]; exact hc
          · exact q2 s (by omega)
        · refine Or.inr ⟨d, q1, by omega, q3, fun s hs hcs => ?_⟩
          by_cases hsi : s = i
          · rw [hsi, hc] at hcs; cases hcs
          · exact q4 s (by omega) hcs
      · rw [if_neg hf]
        have hc : zCp W a b i = true := by
          unfold zCp
          rw [h8, decide_eq_false hf, hd]
          rfl
        refine k ((i : Int), M2) ⟨Or.inr ⟨i, rfl, by omega, hc, fun s hs hcs => ?_⟩, hK2, hW2⟩
        by_cases hsi : s = i
        · rw [hsi]; exact Or.inr ⟨rfl, Nat.le_refl i⟩
        · rcases hv with ⟨q1, q2⟩ | ⟨d, q1, q2, q3, q4⟩
          · rw [q2 s (by omega)] at hcs; cases hcs
          · have w1' := hbest d q1
            have w2 := q4 s (by omega) hcs
            left
            omega
    show zS (lm_cutOf_c15 (p : Int) (q : Int) (m + 1) was v (i : Int) N) _
    rw [lm_cutOf_c15]
    refine zS_b (w107 (by omega) (by omega)) ?_
    have e4 : N 107 (Int.toNat 4) = (S : Int) := by rw [hW]; exact hS
    rw [e4, zshl1 (by omega)]
    refine zS_it (by omega) ?_
    by_cases hd : zand (i : Int) was = 0
    · rw [if_pos hd]
      have hd2 := hdj.mp hd
      by_cases hv1 : v = -1
      · rw [if_pos hv1]
        exact htry hd2 (fun d hdv => by omega)
      · rw [if_neg hv1]
        rcases hv with ⟨q1, _⟩ | ⟨d, q1, q2, q3, q4⟩
        · exact absurd q1 hv1
        · refine zS_b (lm_bits_eq (by omega)) ?_
          have hbd : lm_bits v N = some (zpc 20 d) := by
            rw [q1]
            exact lm_bits_eq (by omega)
          refine zS_b hbd ?_
          rw [zpc_up (t := i) (k := 12) (by omega) 8, zpc_up (t := d) (k := 12) (by omega) 8]
          by_cases hz : zpc 12 i < zpc 12 d
          · rw [if_pos hz]
            exact htry hd2 (fun d' hd' => by
              have hdd : d' = d := by omega
              rw [hdd]; exact hz)
          · rw [if_neg hz, w1 (by omega)]
            exact hskip (fun _ => ⟨d, q1, q2, by omega⟩)
    · rw [if_neg hd, w1 (by omega)]
      refine hskip (fun hc => ?_)
      unfold zCp at hc
      have hc2 := ((Bool.and_eq_true _ _).mp hc).1
      exact absurd (hdj.mpr hc2) hd
  · intro m s ⟨hv, hK, hW⟩
    show zS (lm_cutOf_c15 (p : Int) (q : Int) (m + 1) was s.1 ((2 ^ S : Nat) : Int) s.2) _
    rw [lm_cutOf_c15]
    refine zS_b (w107 (by omega) (by omega)) ?_
    have e4 : s.2 107 (Int.toNat 4) = (S : Int) := by rw [hW]; exact hS
    rw [e4, zshl1 (by omega)]
    refine zS_ie (by omega) ?_
    exact zS_r ⟨hv, hK⟩
theorem zCutv_b {a b S : Nat} {v : Int} (hS : S ≤ 12) (h : zCutv W a b (2 ^ S) v) : v = -1 ∨ (∃ d : Nat, v = (d : Int) ∧ d < 4096) := by
  have := (p12 hS).1
  rcases h with ⟨q, _⟩ | ⟨d, q1, q2, _⟩
  · exact Or.inl q
  · exact Or.inr ⟨d, q1, by omega⟩
theorem q_cuts (h : zInv W M) : zQ2 M (lX_cuts x y) (lm_cuts x y) := by
  obtain ⟨u0, u1, _, _, u4, _, u6, u7, _⟩ := h.2.1
  by_cases c : (0 ≤ x ∧ x < W 6) ∧ (0 ≤ y ∧ y < W 6) ∧ x ≠ y
  · obtain ⟨p, rfl⟩ : ∃ n : Nat, x = (n : Int) := ⟨x.toNat, by omega⟩
    obtain ⟨q, rfl⟩ : ∃ n : Nat, y = (n : Int) := ⟨y.toNat, by omega⟩
    obtain ⟨r, e, hr1, hr2⟩ := xCuts h (show p < (W 6).toNat by omega) (show q < (W 6).toNat by omega) (by omega)
    refine ⟨r.1, ?_, fun M' hk => ?_⟩
    · unfold lX_cuts
      exact zS_b e (zS_r ⟨rfl, hr2⟩)
    · have h' := zInv_keep h hk
      unfold lm_cuts
      refine zS_b (mTwo h'.2.1 h'.1) ?_
      rw [zbo_t c, if_neg (by decide)]
      refine zS_m (mCuts h' (show p < (W 6).toNat by omega) (show q < (W 6).toNat by omega)) (fun t ht => ?_)
      exact zS_r ⟨zCutv_un ht.1 hr1, ht.2⟩
  · refine ⟨-2, ?_, fun M' hk => ?_⟩
    · unfold lX_cuts lX_streetsToCut
      refine zS_m (P := fun r => r.1 = -2 ∧ zKeep M r.2) ?_ (fun r hr => zS_r hr)
      refine zS_b (xTwo h) ?_
      rw [zbo_f c, if_pos rfl]
      exact zS_r ⟨rfl, zKeep_r⟩
    · have h' := zInv_keep h hk
      unfold lm_cuts
      refine zS_b (mTwo h'.2.1 h'.1) ?_
      rw [zbo_f c, if_pos rfl]
      exact zS_r ⟨rfl, zKeep_r⟩
theorem q_cut (h : zInv W M) : zQ2 M (lX_cut x y) (lm_cut x y) := by
  obtain ⟨u0, u1, _, _, u4, _, u6, u7, _⟩ := h.2.1
  by_cases c : (0 ≤ x ∧ x < W 6) ∧ (0 ≤ y ∧ y < W 6) ∧ x ≠ y
  · obtain ⟨p, rfl⟩ : ∃ n : Nat, x = (n : Int) := ⟨x.toNat, by omega⟩
    obtain ⟨q, rfl⟩ : ∃ n : Nat, y = (n : Int) := ⟨y.toNat, by omega⟩
    obtain ⟨r, e, hr1, hr2⟩ := xCuts h (show p < (W 6).toNat by omega) (show q < (W 6).toNat by omega) (by omega)
    refine ⟨if r.1 < 0 then r.1 else zpc 12 r.1.toNat, ?_, fun M' hk => ?_⟩
    · unfold lX_cut
      refine zS_b e ?_
      rcases zCutv_b (by omega) hr1 with q1 | ⟨d, q1, q2⟩
      · rw [q1, if_pos (by decide), if_pos (by decide)]
        exact zS_r ⟨rfl, hr2⟩
      · rw [q1, if_neg (by omega), if_neg (by omega), Int.toNat_natCast]
        refine zS_b (lJ_bitCount_eq q2) ?_
        exact zS_r ⟨rfl, hr2⟩
    · have h' := zInv_keep h hk
      unfold lm_cut
      refine zS_b (mTwo h'.2.1 h'.1) ?_
      rw [zbo_t c, if_neg (by decide)]
      refine zS_m (mCuts h' (show p < (W 6).toNat by omega) (show q < (W 6).toNat by omega)) (fun t ht => ?_)
      rw [zCutv_un ht.1 hr1]
      rcases zCutv_b (by omega) hr1 with q1 | ⟨d, q1, q2⟩
      · rw [q1, if_pos rfl, if_pos (by decide)]
        exact zS_r ⟨rfl, ht.2⟩
      · rw [q1, if_neg (by omega), if_neg (by omega), Int.toNat_natCast]
        have p1220 : (2 : Nat) ^ 12 = 4096 := by decide
        refine zS_b (lm_bits_eq (by omega)) ?_
        exact zS_r ⟨zpc_up (t := d) (k := 12) (by omega) 8, ht.2⟩
  · refine ⟨-2, ?_, fun M' hk => ?_⟩
    · unfold lX_cut lX_streetsToCut
      refine zS_m (P := fun r => r.1 = -2 ∧ zKeep M r.2) ?_ (fun r hr => ?_)
      · refine zS_b (xTwo h) ?_
        rw [zbo_f c, if_pos rfl]
        exact zS_r ⟨rfl, zKeep_r⟩
      · rw [hr.1, if_pos (by decide)]
        exact zS_r ⟨rfl, hr.2⟩
    · have h' := zInv_keep h hk
      unfold lm_cut
      refine zS_b (mTwo h'.2.1 h'.1) ?_
      rw [zbo_f c, if_pos rfl]
      exact zS_r ⟨rfl, zKeep_r⟩
end ZCT
