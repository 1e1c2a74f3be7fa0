/-! Rain by chance. -/
theorem zWt_b {od : Int} {r : Nat → Bool} (h0 : 0 ≤ od) (h1 : od ≤ 10) : ∀ k, k ≤ 9 → 0 ≤ zWt od k 0 1 r ∧ zWt od k 0 1 r ≤ 10 ^ k
  | 0, _ => ⟨by decide, by decide⟩
  | k + 1, hk => by
    have ih := zWt_b (r := r) h0 h1 k (by omega)
    have hp : 0 ≤ zpr od (r (0 + k)) ∧ zpr od (r (0 + k)) ≤ 10 := by
      unfold zpr
      split <;> omega
    rw [zWt_e, Int.pow_succ]
    exact ⟨Int.mul_nonneg ih.1 hp.1, Int.mul_le_mul ih.2 hp.2 hp.1 (Int.le_trans ih.1 ih.2)⟩
theorem p10 {k : Nat} (hk : k ≤ 9) : (0 : Int) < 10 ^ k ∧ (10 : Int) ^ k ≤ 1000000000 := by
  have h : k = 0 ∨ k = 1 ∨ k = 2 ∨ k = 3 ∨ k = 4 ∨ k = 5 ∨ k = 6 ∨ k = 7 ∨ k = 8 ∨ k = 9 := by omega
  rcases h with rfl | rfl | rfl | rfl | rfl | rfl | rfl | rfl | rfl | rfl <;> decide
theorem zRun_D {W : Nat → Int} {r : Nat → Bool} : ∀ k, zdD (zEr W r) k = zRun (zE0 W) k 0 (zdD (zE0 W) 0) r
  | 0 => rfl
  | k + 1 => by
    have ih := zRun_D (W := W) (r := r) k
    rw [zRun_e, ← ih, Nat.zero_add]
    rfl
def zf1 (k : Nat) (s : zD) : Int := if zdA s k ≠ -1 then 1 else 0
section ZRN
variable {W : Nat → Int} {M M1 : Nat → Nat → Int} {x y z : Int}
theorem xRainSum {C : Nat → Nat → Int} {E : zE} {f : zD → Int} {ct od : Int} {last : Nat} (he : zcE 37 C E) (hl : last ≤ 7) (h0 : 0 ≤ od) (h1 : od ≤ 10) (h33 : C 3 3 = od) (hf : ∀ s, 0 ≤ f s ∧ f s ≤ 6) (hct : ∀ s D N, zcD E s D → lJ_bitCount (zand D ct) N = some (f s)) : ∀ (k n fuel : Nat) (s : zD) (w : Int) (M1 : Nat → Nat → Int), n + k = last + 1 → k + 1 ≤ fuel → 0 ≤ w → w * 10 ^ k ≤ 1000000000 → zdOk E n s → zag 37 C M1 → zcR 37 (zeB E) n s M1 → zcD E s (M1 44 n) → zS (lX_rainSum fuel 37 ct (n : Int) (last : Int) w M1) (fun r => r.1 = zRS E od f k n s w ∧ zag 37 C r.2 ∧ (∀ i, i < 5 * (n + 1) → r.2 42 i = M1 42 i ∧ r.2 43 i = M1 43 i) ∧ (∀ i, i ≤ n → r.2 44 i = M1 44 i))
  | 0, n, fuel, s, w, M1, hn, hfu, hw, hw2, hs, ha, hr, hD => by
    obtain ⟨g, rfl⟩ : ∃ g, fuel = g + 1 := ⟨fuel - 1, by omega⟩
    have q := hf s
    rw [lX_rainSum, if_pos zis_1_37]
    refine zS_it (by omega) ?_
    by_cases hw0 : w = 0
    · rw [if_pos hw0, hw0]
      exact zS_r ⟨(zRS_0 0 n s).symm, ha, fun i _ => ⟨rfl, rfl⟩, fun i _ => rfl⟩
    · rw [if_neg hw0]
      refine zS_it (by omega) ?_
      refine zS_b (rdI_n (sh_D7 zis_1_37) (by omega)) ?_
      refine zS_b (hct s _ M1 hD) ?_
      have hb : 0 ≤ w * f s ∧ w * f s ≤ w * 6 := ⟨Int.mul_nonneg hw q.1, Int.mul_le_mul_of_nonneg_left q.2 hw⟩
      rw [Int.pow_zero, Int.mul_one] at hw2
      rw [w64_eq (by omega) (by omega)]
      exact zS_r ⟨rfl, ha, fun i _ => ⟨rfl, rfl⟩, fun i _ => rfl⟩
  | k + 1, n, fuel, s, w, M1, hn, hfu, hw, hw2, hs, ha, hr, hD => by
    obtain ⟨g, rfl⟩ : ∃ g, fuel = g + 1 := ⟨fuel - 1, by omega⟩
    have hb5 := he.2.1.1
    have hpk := p10 (k := k) (by omega)
    have e10 : w * 10 ^ (k + 1) = w * 10 * 10 ^ k := by rw [Int.pow_succ, Int.mul_comm (10 ^ k) 10, ← Int.mul_assoc]
    have hwk : w * 10 ≤ w * 10 * 10 ^ k := by
      have := Int.mul_le_mul_of_nonneg_left (show (1 : Int) ≤ 10 ^ k by omega) (show 0 ≤ w * 10 by omega)
      omega
    rw [e10] at hw2
    have hmul : ∀ p : Int, 0 ≤ p → p ≤ 10 → 0 ≤ w * p ∧ w * p ≤ w * 10 ∧ w * p * 10 ^ k ≤ 1000000000 := fun p p0 p1 => by
      have a1 : w * p ≤ w * 10 := Int.mul_le_mul_of_nonneg_left p1 hw
      have a2 : w * p * 10 ^ k ≤ w * 10 * 10 ^ k := Int.mul_le_mul_of_nonneg_right a1 (by omega)
      exact ⟨Int.mul_nonneg hw p0, a1, by omega⟩
    have m1 := hmul (10 - od) (by omega) (by omega)
    have m2 := hmul od h0 h1
    rw [lX_rainSum, if_pos zis_1_37]
    refine zS_it (by omega) ?_
    by_cases hw0 : w = 0
    · rw [if_pos hw0, hw0]
      exact zS_r ⟨(zRS_0 (k + 1) n s).symm, ha, fun i _ => ⟨rfl, rfl⟩, fun i _ => rfl⟩
    · rw [if_neg hw0]
      refine zS_ie (by omega) ?_
      refine zS_ie (by omega) ?_
      refine zS_m (lD_goOn_ok (r := false) he ha (by omega) hs hr hD rfl) ?_
      intro M2 ⟨g1, g2, g3, g4, g5⟩
      have e33 : M1 3 3 = od := by rw [ha 3 (by omega) (by omega) (by omega)]; exact h33
      rw [e33, w32_eq (x := 10 - od) (by omega) (by omega), w1 (by omega), w64_eq (x := w * (10 - od)) (by omega) (by omega)]
      have hs2 : ∀ b, zdOk E ((n + 1 : Nat) : Int) (zdNx E n b s) := fun b => zdNx_ok he.2.1 (by omega) hs
      refine zS_m (xRainSum he hl h0 h1 h33 hf hct k (n + 1) g (zdNx E n false s) (w * (10 - od)) M2 (by omega) (by omega) m1.1 m1.2.2 (hs2 false) g1 g2 g3) ?_
      intro r ⟨r1, r2, r3, r4⟩
      have hr2 : zcR 37 (zeB E) n s r.2 := fun p hp => by
        obtain ⟨a1, a2⟩ := r3 (5 * n + p) (by omega)
        obtain ⟨c1, c2⟩ := g4 (5 * n + p) (by omega)
        have q := hr p hp
        exact ⟨(a1.trans c1).trans q.1, (a2.trans c2).trans q.2⟩
      have hD2 : zcD E s (r.2 44 n) := by
        have e1 : r.2 44 n = M1 44 n := (r4 n (by omega)).trans (g5 n (by omega))
        rw [e1]
        exact hD
      refine zS_m (lD_goOn_ok (r := true) he r2 (by omega) hs hr2 hD2 rfl) ?_
      intro M3 ⟨k1, k2, k3, k4, k5⟩
      rw [e33, w64_eq (x := w * od) (by omega) (by omega)]
      refine zS_m (xRainSum he hl h0 h1 h33 hf hct k (n + 1) g (zdNx E n true s) (w * od) M3 (by omega) (by omega) m2.1 m2.2.2 (hs2 true) k1 k2 k3) ?_
      intro t ⟨t1, t2, t3, t4⟩
      have b1 := zRS_b (E := E) h0 h1 hf k (n + 1) (zdNx E n false s) (w * (10 - od)) m1.1
      have b2 := zRS_b (E := E) h0 h1 hf k (n + 1) (zdNx E n true s) (w * od) m2.1
      rw [r1, t1, w64_eq (by omega) (by omega)]
      refine zS_r ⟨rfl, t2, fun i hi => ?_, fun i hi => ?_⟩
      · obtain ⟨a1, a2⟩ := t3 i (by omega)
        obtain ⟨c1, c2⟩ := k4 i (by omega)
        obtain ⟨d1, d2⟩ := r3 i (by omega)
        obtain ⟨f1, f2⟩ := g4 i (by omega)
        exact ⟨((a1.trans c1).trans d1).trans f1, ((a2.trans c2).trans d2).trans f2⟩
      · exact (((t4 i (by omega)).trans (k5 i (by omega))).trans (r4 i (by omega))).trans (g5 i (by omega))
/-- the sum, as it comes to on both sides -/
def zRm (W : Nat → Int) (f : zD → Int) (last : Nat) : Int := zRS (zE0 W) (W 3) f (last + 1) 0 (zdD (zE0 W) 0) 1
theorem zRm_b (hw : wOk W) {f : zD → Int} (hf : ∀ s, 0 ≤ f s ∧ f s ≤ 6) {last : Nat} (hl : last ≤ 7) : 0 ≤ zRm W f last ∧ zRm W f last ≤ 6000000000 := by
  have h3 := hw.2.2.2.1
  have q := zRS_b (E := zE0 W) (od := W 3) (by omega) (by omega) hf (last + 1) 0 (zdD (zE0 W) 0) 1 (by decide)
  have p := p10 (k := last + 1) (by omega)
  unfold zRm
  omega
theorem pow10_nat {k : Nat} : (10 : Int) ^ k = ((10 ^ k : Nat) : Int) := by
  rw [Int.natCast_pow]
  rfl
theorem p10n {k : Nat} (hk : k ≤ 9) : 0 < 10 ^ k ∧ 10 ^ k ≤ 1000000000 := by
  have h : k = 0 ∨ k = 1 ∨ k = 2 ∨ k = 3 ∨ k = 4 ∨ k = 5 ∨ k = 6 ∨ k = 7 ∨ k = 8 ∨ k = 9 := by omega
  rcases h with rfl | rfl | rfl | rfl | rfl | rfl | rfl | rfl | rfl | rfl <;> decide
theorem xRainMean {ct : Int} {last : Nat} {f : zD → Int} (h : zInv W M) (hl : last ≤ 7) (hT : last < (W 1).toNat) (hf : ∀ s, 0 ≤ f s ∧ f s ≤ 6) (hct : ∀ s D N, zcD (zE0 W) s D → lJ_bitCount (zand D ct) N = some (f s)) : zS (lX_rainMean ct (last : Int) z M) (fun r => r.1 = zLT (zRm W f last).toNat (10 ^ (last + 1)) z ∧ zKeep M r.2) := by
  have h3 := h.2.1.2.2.2.1
  have hw := h.2.1
  unfold lX_rainMean
  refine xTr h (fun M1 k1 i1 => ?_)
  have i1' := i1
  obtain ⟨hd, _, ht, hs, hL, hcl, hst, hdug, hHI⟩ := i1
  obtain ⟨C, hb, hc, hn⟩ := lN_build_ok hd hw ht hcl
  obtain ⟨he, hh, hT2, hT20⟩ := zc_env (rn := zno) i1' hc hn
  have he : zcE 37 C (zE0 W) := he
  refine zS_m (lD_begin_ok he hb hh) ?_
  intro M2 ⟨b1, b2, b3⟩
  have e33 : C 3 3 = W 3 := by rw [hc 3 (by omega)]; exact ht.2.2.2.1
  refine loopI (fun m i (v : Int) => lX_rainMean_c20 ct (last : Int) z m v (i : Int) M2) (fun i v => v = 10 ^ i) (a0 := 1) 0 (last + 1) (by omega) rfl ?_ ?_ zN (zN_gt (by omega))
  · intro m i v _ hi hv k
    have p := p10 (k := i) (by omega)
    show zS (lX_rainMean_c20 ct (last : Int) z (m + 1) v (i : Int) M2) _
    rw [lX_rainMean_c20]
    refine zS_ie (by omega) ?_
    rw [w1 (by omega), hv, w64_eq (by omega) (by omega)]
    exact k _ (Int.pow_succ 10 i).symm
  · intro m v hv
    show zS (lX_rainMean_c20 ct (last : Int) z (m + 1) v ((last + 1 : Nat) : Int) M2) _
    rw [lX_rainMean_c20]
    refine zS_it (by omega) ?_
    have p := p10 (k := last + 1) (by omega)
    refine zS_m (xRainSum he hl (by omega) (by omega) e33 hf hct (last + 1) 0 zN (zdD (zE0 W) 0) 1 M2 (by omega) (by unfold zN; omega) (by decide) (by omega) (zdD_ok he.2.1 (by omega)) b1 b2 b3) ?_
    intro r ⟨r1, r2, _, _⟩
    have hbd := zRm_b hw hf hl
    have r1 : r.1 = zRm W f last := r1
    have eN : zRm W f last = ((zRm W f last).toNat : Int) := by omega
    have h40 : (2 : Nat) ^ 40 = 1099511627776 := by decide
    have pn := p10n (k := last + 1) (by omega)
    have hlow : lX_inLowestTerms r.1 v z r.2 = some (zLT (zRm W f last).toNat (10 ^ (last + 1)) z) := by
      rw [r1, hv, pow10_nat]
      conv => lhs; rw [eN]
      exact xLow (by omega) (by omega) (by omega)
    refine zS_b hlow ?_
    refine zS_r ⟨rfl, fun c i hci => ?_⟩
    have hci2 := hci
    unfold zkp at hci
    show r.2 c i = M c i
    rw [r2 c (by omega) (by omega) (by omega), hc c (by omega)]
    exact k1 c i hci2
/-- the reference's sums over the rains told by numbers below i -/
def zSm (W : Nat → Int) (f : zD → Int) (last i : Nat) : Int := zsum i (fun j => zRT (zE0 W) (W 3) f (last + 1) 0 (zdD (zE0 W) 0) 1 (fun m => j.testBit (m - 0)))
theorem zSm_b (hw : wOk W) {f : zD → Int} (hf : ∀ s, 0 ≤ f s ∧ f s ≤ 6) {last : Nat} (hl : last ≤ 7) (i : Nat) : 0 ≤ zSm W f last i ∧ zSm W f last i ≤ i * 6000000000 := by
  have h3 := hw.2.2.2.1
  refine zsum_le (n := i) (fun j _ => ?_) (by decide) i (Nat.le_refl i)
  show 0 ≤ zRT (zE0 W) (W 3) f (last + 1) 0 (zdD (zE0 W) 0) 1 (fun m => j.testBit (m - 0)) ∧ zRT (zE0 W) (W 3) f (last + 1) 0 (zdD (zE0 W) 0) 1 (fun m => j.testBit (m - 0)) ≤ 6000000000
  rw [zRT_eq]
  have q1 := zWt_b (od := W 3) (r := fun m => j.testBit (m - 0)) (by omega) (by omega) (last + 1) (by omega)
  have q2 := p10 (k := last + 1) (by omega)
  have q3 := hf (zRun (zE0 W) (last + 1) 0 (zdD (zE0 W) 0) (fun m => j.testBit (m - 0)))
  have a1 := Int.mul_nonneg q1.1 q3.1
  have a2 := Int.mul_le_mul (show zWt (W 3) (last + 1) 0 1 (fun m => j.testBit (m - 0)) ≤ 1000000000 by omega) q3.2 q3.1 (by decide)
  omega
theorem zf1_b {k : Nat} (s : zD) : 0 ≤ zf1 k s ∧ zf1 k s ≤ 6 := by
  unfold zf1
  split <;> omega
theorem zCt_b {E : zE} (he : zeOk E) (s : zD) : 0 ≤ zdCnt E s ∧ zdCnt E s ≤ 6 := by
  have h6 := he.2.1
  unfold zdCnt
  rw [zpc_sum (fun k => zsn_bit (f := fun k => decide (zdA s k ≠ -1)) (zeC E)) 12 (by omega)]
  have q := zsum01 (f := fun k => if decide (zdA s k ≠ -1) = true then (1 : Int) else 0) (fun _ => zb01) (zeC E)
  omega
theorem zone_b (s : zD) : 0 ≤ (fun _ : zD => (1 : Int)) s ∧ (fun _ : zD => (1 : Int)) s ≤ 6 := by
  show (0 : Int) ≤ 1 ∧ (1 : Int) ≤ 6
  omega
theorem mLay {k last : Nat} (h : zInv W M) (hk : k < 6) (hl : last ≤ 7) (hT : last < (W 1).toNat) : zS (lm_layRain (k : Int) (last : Int) M) (fun M' => zKeep M M' ∧ M' 106 33 = 10 ^ (last + 1) ∧ (k < (W 7).toNat → M' 106 34 = zRm W (zf1 k) last) ∧ M' 106 35 = zRm W (zdCnt (zE0 W)) last) := by
  sorry
end ZRN
