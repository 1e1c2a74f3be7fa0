/-! The reference goes on, goes all. -/
def zdPre (E : zE) : Nat → zD
  | 0 => zd0 E
  | n + 1 => zdGo E n (zeR E n) (zdD E n)
theorem zdD_pre {E : zE} : ∀ {n : Nat}, zdD E n = zdSg E n (zeC E) (zdFd E (zdPre E n))
  | 0 => rfl
  | _ + 1 => rfl
theorem zdPre_ok {E : zE} (he : zeOk E) : ∀ {n : Nat}, n ≤ 20 → zdOk E n (zdPre E n)
  | 0, _ => zdOk_mono (by omega) (zd0_ok he)
  | n + 1, hn => zdOk_mono (by omega) (zdGo_ok he (by omega) (zdD_ok he (by omega)))
/-- would go from a step, but can't -/
def zdW (E : zE) (n : Nat) (s : zD) (p : Nat) : Bool := decide (0 < zdK s p) && (decide (zeA E p n ≠ -1) && (decide (zeA E p n ≠ zdP s p) && !(zeJ E (zdP s p) (zeA E p n))))
def zdSt (E : zE) (n p : Nat) : Int := zsum n (fun m => if zdW E m (zdD E m) p = true then 1 else 0)
def zdGs (E : zE) (n p : Nat) : Int := zsum n (fun m => if zdP (zdD E m) p = zdP (zdD E (m + 1)) p then 0 else 1)
def zdDr (E : zE) (n p : Nat) : Int := zsum n (fun m => zdK (zdFd E (zdPre E m)) p - zdK (zdPre E m) p)
theorem zsum01 {f : Nat → Int} (h : ∀ i, f i = 0 ∨ f i = 1) : ∀ n, 0 ≤ zsum n f ∧ zsum n f ≤ n
  | 0 => ⟨Int.le_refl 0, Int.le_refl 0⟩
  | n + 1 => by
    have ih := zsum01 h n
    have hn := h n
    have e : zsum (n + 1) f = zsum n f + f n := rfl
    rw [e]
    omega
theorem zdSt_b {E : zE} {n p : Nat} : 0 ≤ zdSt E n p ∧ zdSt E n p ≤ n := zsum01 (fun i => by split <;> simp) n
theorem zdGs_b {E : zE} {n p : Nat} : 0 ≤ zdGs E n p ∧ zdGs E n p ≤ n := zsum01 (fun i => by split <;> simp) n
theorem zdFd_b {E : zE} {n : Int} {s : zD} {p : Nat} (he : zeOk E) (hs : zdOk E n s) (hp : p < zeB E) : 0 ≤ zdK (zdFd E s) p - zdK s p ∧ zdK (zdFd E s) p - zdK s p ≤ 60 := by
  have h5 := hs.1 p hp
  have h6 := he.2.2.2.1 (zdP s p) h5.1 h5.2.1
  show 0 ≤ zmin 60 (zdK s p + zeF E (zdP s p)) - zdK s p ∧ zmin 60 (zdK s p + zeF E (zdP s p)) - zdK s p ≤ 60
  unfold zmin
  split <;> omega
theorem zdDr_b {E : zE} {p : Nat} (he : zeOk E) (hp : p < zeB E) : ∀ {n : Nat}, n ≤ 21 → 0 ≤ zdDr E n p ∧ zdDr E n p ≤ 60 * n
  | 0, _ => ⟨Int.le_refl 0, Int.le_refl 0⟩
  | n + 1, hn => by
    have ih := zdDr_b (E := E) (p := p) he hp (n := n) (by omega)
    have hb := zdFd_b (p := p) he (zdPre_ok he (show n ≤ 20 by omega)) hp
    have e : zdDr E (n + 1) p = zdDr E n p + (zdK (zdFd E (zdPre E n)) p - zdK (zdPre E n) p) := rfl
    rw [e]
    omega
/-- the rows that a step of the reference leaves -/
def zmK (E : zE) (T i : Nat) (M : Nat → Nat → Int) : Prop := ∀ p, p < zeB E → M 121 p = zdGs E (min i T) p ∧ M 122 p = zdSt E (min i T) p ∧ M 123 p = zdDr E i p
theorem lm_goOn_ok {n T : Nat} {C M : Nat → Nat → Int} {E : zE} (he : zmE C E T) (ha : zmg C M) (hn : n < T) (hr : zmR (zeB E) n (zdD E n) M) (hg : ∀ p, p < zeB E → M 121 p = zdGs E n p ∧ M 122 p = zdSt E n p) : zS (lm_goOn (n : Int) M) (fun M' => zmg C M' ∧ zmR (zeB E) (n + 1) (zdPre E (n + 1)) M' ∧ (∀ j, j < 5 * (n + 1) → M' 117 j = M 117 j ∧ M' 118 j = M 118 j) ∧ M' 119 = M 119 ∧ M' 120 = M 120 ∧ M' 123 = M 123 ∧ (∀ p, p < zeB E → M' 121 p = zdGs E (n + 1) p ∧ M' 122 p = zdSt E (n + 1) p)) := by
  have he0 := he
  obtain ⟨hok, hB, hC, hT, hT20, hF, hH, hW, hJ, hL, hP, hRn⟩ := he
  have hb5 := hok.1
  have hs := zdD_ok hok (show n ≤ 20 by omega)
  refine zS_gen (fun Q hQ => ?_)
  unfold lm_goOn
  refine loopI (fun m i M => lm_goOn_c2 (n : Int) m (i : Int) M) (fun i M' => zmg C M' ∧ (∀ p, p < i → M' 117 (5 * (n + 1) + p) = zdP (zdPre E (n + 1)) p ∧ M' 118 (5 * (n + 1) + p) = zdK (zdPre E (n + 1)) p) ∧ (∀ j, j < 5 * (n + 1) → M' 117 j = M 117 j ∧ M' 118 j = M 118 j) ∧ M' 119 = M 119 ∧ M' 120 = M 120 ∧ M' 123 = M 123 ∧ (∀ p, p < zeB E → M' 121 p = (if p < i then zdGs E (n + 1) p else zdGs E n p) ∧ M' 122 p = (if p < i then zdSt E (n + 1) p else zdSt E n p))) 0 (zeB E) (by omega) ?_ ?_ ?_ zN (zN_gt (by omega))
  · exact ⟨ha, fun p hp => by omega, fun _ _ => ⟨rfl, rfl⟩, rfl, rfl, rfl, fun p hp => by rw [if_neg (by omega), if_neg (by omega)]; exact hg p hp⟩
  · intro m i M1 _ hi ⟨h1, h2, h3, h4, h5, h6, h7⟩ k
    have hsi := hs.1 i hi
    have hAi := hok.2.2.2.2.1 i n hi (by omega)
    have hJJ := hok.2.2.2.2.2.2
    have hr5 : M1 117 (5 * n + i) = zdP (zdD E n) i := by rw [(h3 _ (by omega)).1]; exact (hr i hi).1
    have hr6 : M1 118 (5 * n + i) = zdK (zdD E n) i := by rw [(h3 _ (by omega)).2]; exact (hr i hi).2
    have h7i := h7 i hi
    rw [if_neg (by omega), if_neg (by omega)] at h7i
    show zS (lm_goOn_c2 (n : Int) (m + 1) (i : Int) M1) _
    rw [lm_goOn_c2]
    refine zS_b lm_names_eq ?_
    refine zS_it (by rw [h1 107 (by omega)]; omega) ?_
    refine zS_b (lm_placeOf_eq (by omega) (by omega)) ?_
    refine zS_b (hW i n M1 hi (by omega) h1) ?_
    refine zS_b (lm_inkIn_eq (by omega) (by omega)) ?_
    rw [hr5, hr6]
    generalize hto : (if zeA E i n = -1 then zdP (zdD E n) i else zeA E i n) = to
    -- the last of it
    have e5 : w32 (w32 (5 * w32 ((n : Int) + 1)) + (i : Int)) = ((5 * (n + 1) + i : Nat) : Int) := by simp (disch := omega) only [w32_eq]; omega
    have hgb := zdGs_b (E := E) (n := n) (p := i)
    have hsb := zdSt_b (E := E) (n := n) (p := i)
    have hgo : zdP (zdPre E (n + 1)) i = if zeR E n = false ∧ 0 < zdK (zdD E n) i ∧ zeJ E (zdP (zdD E n) i) (zeA E i n) = true then zeA E i n else zdP (zdD E n) i := rfl
    have hks : zdK (zdPre E (n + 1)) i = zmax 0 (zdK (zdD E n) i - 1) := rfl
    have hPs : zdP (zdD E (n + 1)) i = zdP (zdPre E (n + 1)) i := by rw [zdD_pre, zdSg_P]; rfl
    have hGs : zdGs E (n + 1) i = zdGs E n i + (if zdP (zdD E n) i = zdP (zdD E (n + 1)) i then 0 else 1) := rfl
    have hSs : zdSt E (n + 1) i = zdSt E n i + (if zdW E n (zdD E n) i = true then 1 else 0) := rfl
    -- y5 awake, y7 goes; stuck already written
    have h163 : ∀ (M2 : Nat → Nat → Int) (y5 v : Int), (y5 = if 0 < zdK (zdD E n) i then 1 else 0) → v = zdP (zdPre E (n + 1)) i → (∀ c, c ≠ 121 → c ≠ 122 → M2 c = M1 c) → (∀ p, p < zeB E → M2 121 p = (if p < i + 1 then zdGs E (n + 1) p else zdGs E n p) ∧ M2 122 p = (if p < i + 1 then zdSt E (n + 1) p else zdSt E n p)) → zS (lm_goOn_c163 (n : Int) (lm_goOn_c2 (n : Int) m) (i : Int) y5 117 (w32 (w32 (5 * w32 ((n : Int) + 1)) + (i : Int))) v M2) Q := fun M2 y5 v hy hv hf hg2 => by
      have hcl : ∀ x : Int, x = zdK (zdPre E (n + 1)) i → zS (lm_goOn_c2 (n : Int) m ((i + 1 : Nat) : Int) (zup (zup M2 117 (5 * (n + 1) + i) v) 118 (5 * (n + 1) + i) x)) Q := fun x hx => by
        refine k _ ⟨?_, fun p hp => ⟨?_, ?_⟩, fun j hj => ⟨?_, ?_⟩, ?_, ?_, ?_, fun p hp => ⟨?_, ?_⟩⟩
        · intro c hc
          rw [zup_c (by omega), zup_c (by omega), hf c (by omega) (by omega)]
          exact h1 c hc
        · rw [zup_c (by omega), zup_a]
          by_cases hpi : p = i
          · rw [if_pos (by omega), hv, hpi]
          · rw [if_neg (by omega), hf 117 (by omega) (by omega)]; exact (h2 p (by omega)).1
        · rw [zup_a]
          by_cases hpi : p = i
          · rw [if_pos (by omega), hx, hpi]
          · rw [if_neg (by omega), zup_c (by omega), hf 118 (by omega) (by omega)]; exact (h2 p (by omega)).2
        · rw [zup_c (by omega), zup_i (by omega), hf 117 (by omega) (by omega)]; exact (h3 j hj).1
        · rw [zup_i (by omega), zup_c (by omega), hf 118 (by omega) (by omega)]; exact (h3 j hj).2
        · rw [zup_c (by omega), zup_c (by omega), hf 119 (by omega) (by omega)]; exact h4
        · rw [zup_c (by omega), zup_c (by omega), hf 120 (by omega) (by omega)]; exact h5
        · rw [zup_c (by omega), zup_c (by omega), hf 123 (by omega) (by omega)]; exact h6
        · rw [zup_c (by omega), zup_c (by omega)]; exact (hg2 p hp).1
        · rw [zup_c (by omega), zup_c (by omega)]; exact (hg2 p hp).2
      unfold lm_goOn_c163
      rw [e5, w1 (by omega)]
      refine zS_b (wrI_n sh_117 (by omega)) ?_
      by_cases h0 : 0 < zdK (zdD E n) i
      · rw [if_pos h0] at hy
        rw [if_neg (by omega)]
        refine zS_b (lm_inkIn_eq (by omega) (by omega)) ?_
        rw [zup_c (by omega), hf 118 (by omega) (by omega), hr6, w32_eq (by omega) (by omega)]
        refine zS_b (wrI_n sh_118 (by omega)) ?_
        refine hcl _ ?_
        rw [hks]
        unfold zmax
        split <;> omega
      · rw [if_neg h0] at hy
        rw [if_pos hy]
        refine zS_b (wrI_n sh_118 (by omega)) ?_
        refine hcl _ ?_
        rw [hks]
        unfold zmax
        rw [if_neg (by omega)]
    have h139 : ∀ (M2 : Nat → Nat → Int) (y5 y7 s3 : Int), (y5 = if 0 < zdK (zdD E n) i then 1 else 0) → s3 = y7 → (y7 = if zeR E n = false ∧ 0 < zdK (zdD E n) i ∧ zeJ E (zdP (zdD E n) i) (zeA E i n) = true then 1 else 0) → (∀ c, c ≠ 121 → c ≠ 122 → M2 c = M1 c) → M2 121 = M1 121 → (∀ p, p < zeB E → M2 122 p = (if p < i + 1 then zdSt E (n + 1) p else zdSt E n p)) → zS (lm_goOn_c139 (n : Int) (lm_goOn_c2 (n : Int) m) (i : Int) (zdP (zdD E n) i) to y5 y7 121 (i : Int) (zdGs E n i) s3 M2) Q := fun M2 y5 y7 s3 hy hs3 hy7 hf hm hg2 => by
      unfold lm_goOn_c139
      refine zS_b (wrI_n sh_121 (by omega)) ?_
      have hc3 : s3 = if zdP (zdD E n) i = zdP (zdD E (n + 1)) i then 0 else 1 := by
        rw [hs3, hy7, hPs, hgo]
        by_cases hc : zeR E n = false ∧ 0 < zdK (zdD E n) i ∧ zeJ E (zdP (zdD E n) i) (zeA E i n) = true
        · rw [if_pos hc, if_pos hc, if_neg (hJJ _ _ hc.2.2).2]
        · rw [if_neg hc, if_neg hc, if_pos rfl]
      have hs01 : s3 = 0 ∨ s3 = 1 := by rw [hc3]; split <;> simp
      rw [w32_eq (x := zdGs E n i + s3) (by omega) (by omega)]
      have hfin : ∀ p, p < zeB E → (zup M2 121 i (zdGs E n i + s3)) 121 p = (if p < i + 1 then zdGs E (n + 1) p else zdGs E n p) ∧ (zup M2 121 i (zdGs E n i + s3)) 122 p = (if p < i + 1 then zdSt E (n + 1) p else zdSt E n p) := fun p hp => by
        refine ⟨?_, ?_⟩
        · rw [zup_a]
          by_cases hpi : p = i
          · rw [if_pos hpi, if_pos (by omega), hpi, hGs, hc3]
          · rw [if_neg hpi, hm, (h7 p hp).1]
            by_cases hlt : p < i
            · rw [if_pos hlt, if_pos (by omega)]
            · rw [if_neg hlt, if_neg (by omega)]
        · rw [zup_c (by omega)]; exact hg2 p hp
      by_cases hc : zeR E n = false ∧ 0 < zdK (zdD E n) i ∧ zeJ E (zdP (zdD E n) i) (zeA E i n) = true
      · rw [if_pos hc] at hy7
        rw [if_neg (by omega)]
        refine h163 _ y5 to hy ?_ (fun c h1 h2 => by rw [zup_c h1]; exact hf c h1 h2) hfin
        rw [hgo, if_pos hc, ← hto, if_neg]
        have q := hJJ _ _ hc.2.2
        omega
      · rw [if_neg hc] at hy7
        rw [if_pos hy7]
        refine h163 _ y5 _ hy ?_ (fun c h1 h2 => by rw [zup_c h1]; exact hf c h1 h2) hfin
        rw [hgo, if_neg hc]
    have h119 : ∀ (y5 y7 : Int), (y5 = if 0 < zdK (zdD E n) i then 1 else 0) → (y7 = if zeR E n = false ∧ 0 < zdK (zdD E n) i ∧ zeJ E (zdP (zdD E n) i) (zeA E i n) = true then 1 else 0) → zdW E n (zdD E n) i = false → zS (lm_goOn_c119 (n : Int) (lm_goOn_c2 (n : Int) m) (i : Int) (zdP (zdD E n) i) to y5 y7 122 (i : Int) (zdSt E n i) M1) Q := fun y5 y7 hy hy7 hw => by
      have hfr : ∀ c, c ≠ 121 → c ≠ 122 → (zup M1 122 i (w32 (zdSt E n i + 0))) c = M1 c := fun c _ h2 => zup_c h2
      have hst : ∀ p, p < zeB E → (zup M1 122 i (w32 (zdSt E n i + 0))) 122 p = (if p < i + 1 then zdSt E (n + 1) p else zdSt E n p) := fun p hp => by
        rw [zup_a]
        by_cases hpi : p = i
        · rw [if_pos hpi, if_pos (by omega), hpi, hSs, hw, if_neg (by decide), w32_eq (by omega) (by omega)]
        · rw [if_neg hpi, (h7 p hp).2]
          by_cases hlt : p < i
          · rw [if_pos hlt, if_pos (by omega)]
          · rw [if_neg hlt, if_neg (by omega)]
      unfold lm_goOn_c119
      refine zS_b (wrI_n sh_122 (by omega)) ?_
      refine zS_b (rdI_n sh_121 (by omega)) ?_
      rw [zup_c (show 121 ≠ 122 by decide), h7i.1]
      by_cases hz : y7 = 0
      · rw [if_pos hz]
        exact h139 _ y5 y7 0 hy hz.symm hy7 hfr (zup_c (by decide)) hst
      · rw [if_neg hz]
        refine h139 _ y5 y7 1 hy ?_ hy7 hfr (zup_c (by decide)) hst
        revert hy7
        split <;> omega
    have h90s : ∀ (y5 y7 : Int), (y5 = if 0 < zdK (zdD E n) i then 1 else 0) → (y7 = if zeR E n = false ∧ 0 < zdK (zdD E n) i ∧ zeJ E (zdP (zdD E n) i) (zeA E i n) = true then 1 else 0) → ∀ y6 : Int, (y6 = if to ≠ zdP (zdD E n) i ∧ zeJ E (zdP (zdD E n) i) to = true then 1 else 0) → zS (lm_goOn_c90 (n : Int) (lm_goOn_c2 (n : Int) m) (i : Int) (zdP (zdD E n) i) to y5 y6 y7 M1) Q := fun y5 y7 hy hy7 y6 hy6 => by
      unfold lm_goOn_c90
      refine zS_b (rdI_n sh_122 (by omega)) ?_
      rw [h7i.2]
      by_cases h0 : 0 < zdK (zdD E n) i
      · rw [if_pos h0] at hy
        rw [if_neg (by omega)]
        by_cases hth : to = zdP (zdD E n) i
        · rw [if_pos hth]
          refine h119 y5 y7 (by rw [if_pos h0]; exact hy) hy7 ?_
          unfold zdW
          by_cases ha1 : zeA E i n = -1
          · rw [decide_eq_false (show ¬ (zeA E i n ≠ -1) from fun q => q ha1)]; simp
          · rw [if_neg ha1] at hto
            rw [decide_eq_false (show ¬ (zeA E i n ≠ zdP (zdD E n) i) from fun q => q (by omega))]; simp
        · rw [if_neg hth]
          have ha1 : zeA E i n ≠ -1 := fun q => by rw [if_pos q] at hto; exact hth hto.symm
          rw [if_neg ha1] at hto
          cases hj : zeJ E (zdP (zdD E n) i) to with
          | true =>
            rw [if_pos ⟨hth, hj⟩] at hy6
            rw [if_neg (by omega)]
            refine h119 y5 y7 (by rw [if_pos h0]; exact hy) hy7 ?_
            unfold zdW
            rw [hto, hj]
            simp
          | false =>
            rw [if_neg (fun q => by rw [hj] at q; cases q.2)] at hy6
            rw [if_pos hy6]
            refine zS_b (wrI_n sh_122 (by omega)) ?_
            refine zS_b (rdI_n sh_121 (by omega)) ?_
            rw [zup_c (show 121 ≠ 122 by decide), h7i.1]
            have hw : zdW E n (zdD E n) i = true := by
              unfold zdW
              rw [hto, hj, decide_eq_true h0, decide_eq_true (show to ≠ -1 by omega), decide_eq_true hth]
              rfl
            have hfr : ∀ c, c ≠ 121 → c ≠ 122 → (zup M1 122 i (w32 (zdSt E n i + 1))) c = M1 c := fun c _ h2 => zup_c h2
            have hst : ∀ p, p < zeB E → (zup M1 122 i (w32 (zdSt E n i + 1))) 122 p = (if p < i + 1 then zdSt E (n + 1) p else zdSt E n p) := fun p hp => by
              rw [zup_a]
              by_cases hpi : p = i
              · rw [if_pos hpi, if_pos (by omega), hpi, hSs, hw, if_pos rfl, w32_eq (by omega) (by omega)]
              · rw [if_neg hpi, (h7 p hp).2]
                by_cases hlt : p < i
                · rw [if_pos hlt, if_pos (by omega)]
                · rw [if_neg hlt, if_neg (by omega)]
            have hy' : y5 = if 0 < zdK (zdD E n) i then 1 else 0 := by rw [if_pos h0]; exact hy
            by_cases hz : y7 = 0
            · rw [if_pos hz]
              exact h139 _ y5 y7 0 hy' hz.symm hy7 hfr (zup_c (by decide)) hst
            · rw [if_neg hz]
              refine h139 _ y5 y7 1 hy' ?_ hy7 hfr (zup_c (by decide)) hst
              revert hy7
              split <;> omega
      · rw [if_neg h0] at hy
        rw [if_pos hy]
        refine h119 y5 y7 (by rw [if_neg h0]; exact hy) hy7 ?_
        unfold zdW
        rw [decide_eq_false h0]
        rfl
    have hJto : ∀ b : Bool, (b = true ↔ to ≠ zdP (zdD E n) i ∧ zeJ E (zdP (zdD E n) i) to = true) → (b = true ↔ zeJ E (zdP (zdD E n) i) (zeA E i n) = true) := fun b hb => by
      rw [hb, ← hto]
      by_cases ha1 : zeA E i n = -1
      · rw [if_pos ha1, ha1]
        exact ⟨fun q => absurd rfl q.1, fun q => by have := (hJJ _ _ q).1; omega⟩
      · rw [if_neg ha1]
        exact ⟨fun q => q.2, fun q => ⟨fun e => (hJJ _ _ q).2 e.symm, q⟩⟩
    have h62 : ∀ (y5 : Int) (b : Bool), (y5 = if 0 < zdK (zdD E n) i then 1 else 0) → (b = true ↔ to ≠ zdP (zdD E n) i ∧ zeJ E (zdP (zdD E n) i) to = true) → zS (lm_goOn_c62 (n : Int) (lm_goOn_c2 (n : Int) m) (i : Int) (zdP (zdD E n) i) to y5 (if b = true then 1 else 0) M1) Q := fun y5 b hy hb => by
      have hb2 := hJto b hb
      have hy6 : (if b = true then (1 : Int) else 0) = if to ≠ zdP (zdD E n) i ∧ zeJ E (zdP (zdD E n) i) to = true then 1 else 0 := by
        by_cases q : b = true
        · rw [if_pos q, if_pos (hb.mp q)]
        · rw [if_neg q, if_neg (fun w => q (hb.mpr w))]
      unfold lm_goOn_c62
      by_cases h0 : 0 < zdK (zdD E n) i
      · have hy1 := hy
        rw [if_pos h0] at hy1
        rw [if_neg (by omega)]
        by_cases q : b = true
        · rw [if_neg (by rw [if_pos q]; decide)]
          have hR := hRn n (by omega)
          have hR1 : lm_bit (M1 106 17) (n : Int) M1 = some (if zeR E n = true then 1 else 0) := by
            unfold lm_bit
            rw [h1 106 (by omega), hR]
          refine zS_b hR1 ?_
          cases hrr : zeR E n with
          | true =>
            rw [if_pos rfl, if_neg (by decide)]
            exact h90s y5 0 hy (by rw [if_neg (fun w => by rw [hrr] at w; cases w.1)]) _ hy6
          | false =>
            rw [if_pos (by decide)]
            exact h90s y5 1 hy (by rw [if_pos ⟨hrr, h0, hb2.mp q⟩]) _ hy6
        · rw [if_pos (by rw [if_neg q])]
          exact h90s y5 0 hy (by rw [if_neg (fun w => q (hb2.mpr w.2.2))]) _ hy6
      · have hy1 := hy
        rw [if_neg h0] at hy1
        rw [if_pos hy1]
        exact h90s y5 0 hy (by rw [if_neg (fun w => h0 w.2.1)]) _ hy6
    have h39 : ∀ (y5 : Int), (y5 = if 0 < zdK (zdD E n) i then 1 else 0) → zS (lm_goOn_c39 (n : Int) (lm_goOn_c2 (n : Int) m) (i : Int) (zdP (zdD E n) i) to y5 M1) Q := fun y5 hy => by
      unfold lm_goOn_c39
      by_cases hth : to = zdP (zdD E n) i
      · rw [if_pos hth]
        exact h62 y5 false hy ⟨fun q => (Bool.false_ne_true q).elim, fun q => absurd hth q.1⟩
      · rw [if_neg hth]
        have hto8 : 0 ≤ to ∧ to < 8 := by
          rw [← hto]
          split <;> omega
        refine zS_b ((lm_isJoined_cg (h1 107 (by omega)) (h1 106 (by omega))).trans (hJ _ _ hsi.1 hsi.2.1 hto8.1 hto8.2 (fun q => hth q.symm))) ?_
        by_cases hj : zeJ E (zdP (zdD E n) i) to = true
        · rw [zbo_t hj, if_neg (by decide)]
          exact h62 y5 true hy ⟨fun _ => ⟨hth, hj⟩, fun _ => rfl⟩
        · rw [zbo_f hj, if_pos rfl]
          exact h62 y5 false hy ⟨fun q => (Bool.false_ne_true q).elim, fun q => absurd q.2 hj⟩
    by_cases h0 : 0 < zdK (zdD E n) i
    · rw [if_pos h0]
      exact h39 1 (by rw [if_pos h0])
    · rw [if_neg h0]
      exact h39 0 (by rw [if_neg h0])
  · intro m M1 ⟨h1, h2, h3, h4, h5, h6, h7⟩
    show zS (lm_goOn_c2 (n : Int) (m + 1) (zeB E : Int) M1) _
    rw [lm_goOn_c2]
    refine zS_b lm_names_eq ?_
    refine zS_ie (by rw [h1 107 (by omega)]; omega) ?_
    refine zS_r (hQ _ ⟨h1, fun p hp => h2 p hp, h3, h4, h5, h6, fun p hp => ?_⟩)
    have q := h7 p hp
    rw [if_pos hp, if_pos hp] at q
    exact q
