/-! Rain by chance. -/
theorem zWt_b {od : Int} {r : Nat → Bool} (h0 : 0 ≤ od) (h1 : od ≤ 10) : ∀ k, k ≤ 9 → 0 ≤ zWt od k 0 1 r ∧ zWt od k 0 1 r ≤ 10 ^ k
  | 0, _ => ⟨show (0 : Int) ≤ 1 by decide, show (1 : Int) ≤ 10 ^ 0 by decide⟩
  | k + 1, hk => by
    have ih := zWt_b (r := r) h0 h1 k (by omega)
    have hp : 0 ≤ zpr od (r (0 + k)) ∧ zpr od (r (0 + k)) ≤ 10 := by
      unfold zpr
      split <;> omega
    rw [zWt_e, Int.pow_succ]
    exact ⟨Int.mul_nonneg ih.1 hp.1, Int.mul_le_mul ih.2 hp.2 hp.1 (Int.le_trans ih.1 ih.2)⟩
theorem p10 {k : Nat} (hk : k ≤ 9) : (0 : Int) < 10 ^ k ∧ (10 : Int) ^ k ≤ 1000000000 := by
  have h : k = 0 ∨ k = 1 ∨ k = 2 ∨ k = 3 ∨ k = 4 ∨ k = 5 ∨ k = 6 ∨ k = 7 ∨ k = 8 ∨ k = 9 := by omega
  rcases h with rfl | rfl | rfl | rfl | rfl | rfl | rfl | rfl | rfl | rfl <;> decide
theorem zRun_D {W : Nat → Int} {r : Nat → Bool} : ∀ k, zdD (zEr W r) k = zRun (zE0 W) k 0 (zdD (zE0 W) 0) r
  | 0 => rfl
  | k + 1 => by
    have ih := zRun_D (W := W) (r := r) k
    rw [zRun_e, ← ih, Nat.zero_add]
    rfl
def zf1 (k : Nat) (s : zD) : Int := if zdA s k ≠ -1 then 1 else 0
section ZRN
variable {W : Nat → Int} {M M1 : Nat → Nat → Int} {x y z : Int}
theorem xRainSum {C : Nat → Nat → Int} {E : zE} {f : zD → Int} {ct od : Int} {last : Nat} (he : zcE 37 C E) (hl : last ≤ 7) (h0 : 0 ≤ od) (h1 : od ≤ 10) (h33 : C 3 3 = od) (hf : ∀ s, 0 ≤ f s ∧ f s ≤ 6) (hct : ∀ s D N, zcD E s D → lJ_bitCount (zand D ct) N = some (f s)) : ∀ (k n fuel : Nat) (s : zD) (w : Int) (M1 : Nat → Nat → Int), n + k = last + 1 → k + 1 ≤ fuel → 0 ≤ w → w * 10 ^ k ≤ 1000000000 → zdOk E n s → zag 37 C M1 → zcR 37 (zeB E) n s M1 → zcD E s (M1 44 n) → zS (lX_rainSum fuel 37 ct (n : Int) (last : Int) w M1) (fun r => r.1 = zRS E od f k n s w ∧ zag 37 C r.2 ∧ (∀ i, i < 5 * (n + 1) → r.2 42 i = M1 42 i ∧ r.2 43 i = M1 43 i) ∧ (∀ i, i ≤ n → r.2 44 i = M1 44 i))
  | 0, n, fuel, s, w, M1, hn, hfu, hw, hw2, hs, ha, hr, hD => by
    obtain ⟨g, rfl⟩ : ∃ g, fuel = g + 1 := ⟨fuel - 1, by omega⟩
    have q := hf s
    rw [lX_rainSum, if_pos zis_1_37]
    refine zS_it (by omega) ?_
    by_cases hw0 : w = 0
    · rw [if_pos hw0, hw0]
      exact zS_r ⟨(zRS_0 0 n s).symm, ha, fun i _ => ⟨rfl, rfl⟩, fun i _ => rfl⟩
    · rw [if_neg hw0]
      refine zS_it (by omega) ?_
      refine zS_b (rdI_n (sh_D7 zis_1_37) (by omega)) ?_
      refine zS_b (hct s _ M1 hD) ?_
      have hb : 0 ≤ w * f s ∧ w * f s ≤ w * 6 := ⟨Int.mul_nonneg hw q.1, Int.mul_le_mul_of_nonneg_left q.2 hw⟩
      rw [Int.pow_zero, Int.mul_one] at hw2
      rw [w64_eq (by omega) (by omega)]
      exact zS_r ⟨rfl, ha, fun i _ => ⟨rfl, rfl⟩, fun i _ => rfl⟩
  | k + 1, n, fuel, s, w, M1, hn, hfu, hw, hw2, hs, ha, hr, hD => by
    obtain ⟨g, rfl⟩ : ∃ g, fuel = g + 1 := ⟨fuel - 1, by omega⟩
    have hb5 := he.2.1.1
    have hpk := p10 (k := k) (by omega)
    have e10 : w * 10 ^ (k + 1) = w * 10 * 10 ^ k := by rw [Int.pow_succ, Int.mul_comm (10 ^ k) 10, ← Int.mul_assoc]
    have hwk : w * 10 ≤ w * 10 * 10 ^ k := by
      have := Int.mul_le_mul_of_nonneg_left (show (1 : Int) ≤ 10 ^ k by omega) (show 0 ≤ w * 10 by omega)
      omega
    rw [e10] at hw2
    have hmul : ∀ p : Int, 0 ≤ p → p ≤ 10 → 0 ≤ w * p ∧ w * p ≤ w * 10 ∧ w * p * 10 ^ k ≤ 1000000000 := fun p p0 p1 => by
      have a1 : w * p ≤ w * 10 := Int.mul_le_mul_of_nonneg_left p1 hw
      have a2 : w * p * 10 ^ k ≤ w * 10 * 10 ^ k := Int.mul_le_mul_of_nonneg_right a1 (by omega)
      exact ⟨Int.mul_nonneg hw p0, a1, by omega⟩
    have m1 := hmul (10 - od) (by omega) (by omega)
    have m2 := hmul od h0 h1
    rw [lX_rainSum, if_pos zis_1_37]
    refine zS_it (by omega) ?_
    by_cases hw0 : w = 0
    · rw [if_pos hw0, hw0]
      exact zS_r ⟨(zRS_0 (k + 1) n s).symm, ha, fun i _ => ⟨rfl, rfl⟩, fun i _ => rfl⟩
    · rw [if_neg hw0]
      refine zS_ie (by omega) ?_
      refine zS_ie (by omega) ?_
      refine zS_m (lD_goOn_ok (r := false) he ha (by omega) hs hr hD rfl) ?_
      intro M2 ⟨g1, g2, g3, g4, g5⟩
      have e33 : M1 3 3 = od := by rw [ha 3 (by omega) (by omega) (by omega)]; exact h33
      rw [e33, w32_eq (x := 10 - od) (by omega) (by omega), w1 (by omega), w64_eq (x := w * (10 - od)) (by omega) (by omega)]
      have hs2 : ∀ b, zdOk E ((n + 1 : Nat) : Int) (zdNx E n b s) := fun b => zdNx_ok he.2.1 (by omega) hs
      refine zS_m (xRainSum he hl h0 h1 h33 hf hct k (n + 1) g (zdNx E n false s) (w * (10 - od)) M2 (by omega) (by omega) m1.1 m1.2.2 (hs2 false) g1 g2 g3) ?_
      intro r ⟨r1, r2, r3, r4⟩
      have hr2 : zcR 37 (zeB E) n s r.2 := fun p hp => by
        obtain ⟨a1, a2⟩ := r3 (5 * n + p) (by omega)
        obtain ⟨c1, c2⟩ := g4 (5 * n + p) (by omega)
        have q := hr p hp
        exact ⟨(a1.trans c1).trans q.1, (a2.trans c2).trans q.2⟩
      have hD2 : zcD E s (r.2 44 n) := by
        have e1 : r.2 44 n = M1 44 n := (r4 n (by omega)).trans (g5 n (by omega))
        rw [e1]
        exact hD
      refine zS_m (lD_goOn_ok (r := true) he r2 (by omega) hs hr2 hD2 rfl) ?_
      intro M3 ⟨k1, k2, k3, k4, k5⟩
      rw [w64_eq (x := w * od) (by omega) (by omega)]
      refine zS_m (xRainSum he hl h0 h1 h33 hf hct k (n + 1) g (zdNx E n true s) (w * od) M3 (by omega) (by omega) m2.1 m2.2.2 (hs2 true) k1 k2 k3) ?_
      intro t ⟨t1, t2, t3, t4⟩
      have b1 := zRS_b (E := E) h0 h1 hf k (n + 1) (zdNx E n false s) (w * (10 - od)) m1.1
      have b2 := zRS_b (E := E) h0 h1 hf k (n + 1) (zdNx E n true s) (w * od) m2.1
      rw [r1, t1, w64_eq (by omega) (by omega)]
      refine zS_r ⟨rfl, t2, fun i hi => ?_, fun i hi => ?_⟩
      · obtain ⟨a1, a2⟩ := t3 i (by omega)
        obtain ⟨c1, c2⟩ := k4 i (by omega)
        obtain ⟨d1, d2⟩ := r3 i (by omega)
        obtain ⟨f1, f2⟩ := g4 i (by omega)
        exact ⟨((a1.trans c1).trans d1).trans f1, ((a2.trans c2).trans d2).trans f2⟩
      · exact (((t4 i (by omega)).trans (k5 i (by omega))).trans (r4 i (by omega))).trans (g5 i (by omega))
/-- the sum, as it comes to on both sides -/
def zRm (W : Nat → Int) (f : zD → Int) (last : Nat) : Int := zRS (zE0 W) (W 3) f (last + 1) 0 (zdD (zE0 W) 0) 1
theorem zRm_b (hw : wOk W) {f : zD → Int} (hf : ∀ s, 0 ≤ f s ∧ f s ≤ 6) {last : Nat} (hl : last ≤ 7) : 0 ≤ zRm W f last ∧ zRm W f last ≤ 6000000000 := by
  have h3 := hw.2.2.2.1
  have q := zRS_b (E := zE0 W) (od := W 3) (by omega) (by omega) hf (last + 1) 0 (zdD (zE0 W) 0) 1 (by decide)
  have p := p10 (k := last + 1) (by omega)
  unfold zRm
  omega
theorem pow10_nat {k : Nat} : (10 : Int) ^ k = ((10 ^ k : Nat) : Int) := by
  rw [Int.natCast_pow]
  rfl
theorem p10n {k : Nat} (hk : k ≤ 9) : 0 < 10 ^ k ∧ 10 ^ k ≤ 1000000000 := by
  have h : k = 0 ∨ k = 1 ∨ k = 2 ∨ k = 3 ∨ k = 4 ∨ k = 5 ∨ k = 6 ∨ k = 7 ∨ k = 8 ∨ k = 9 := by omega
  rcases h with rfl | rfl | rfl | rfl | rfl | rfl | rfl | rfl | rfl | rfl <;> decide
theorem xRainMean {ct : Int} {last : Nat} {f : zD → Int} (h : zInv W M) (hl : last ≤ 7) (hT : last < (W 1).toNat) (hf : ∀ s, 0 ≤ f s ∧ f s ≤ 6) (hct : ∀ s D N, zcD (zE0 W) s D → lJ_bitCount (zand D ct) N = some (f s)) : zS (lX_rainMean ct (last : Int) z M) (fun r => r.1 = zLT (zRm W f last).toNat (10 ^ (last + 1)) z ∧ zKeep M r.2) := by
  have h3 := h.2.1.2.2.2.1
  have hw := h.2.1
  unfold lX_rainMean
  refine xTr h (fun M1 k1 i1 => ?_)
  have i1' := i1
  obtain ⟨hd, _, ht, hs, hL, hcl, hst, hdug, hHI⟩ := i1
  obtain ⟨C, hb, hc, hn⟩ := lN_build_ok hd hw ht hcl
  obtain ⟨he, hh, hT2, hT20⟩ := zc_env (rn := zno) i1' hc hn
  have he : zcE 37 C (zE0 W) := he
  refine zS_m (lD_begin_ok he hb hh) ?_
  intro M2 ⟨b1, b2, b3⟩
  have e33 : C 3 3 = W 3 := by rw [hc 3 (by omega)]; exact ht.2.2.2.1
  refine loopI (fun m i (v : Int) => lX_rainMean_c20 ct (last : Int) z m v (i : Int) M2) (fun i v => v = 10 ^ i) (a0 := 1) 0 (last + 1) (by omega) rfl ?_ ?_ zN (zN_gt (by omega))
  · intro m i v _ hi hv k
    have p := p10 (k := i) (by omega)
    show zS (lX_rainMean_c20 ct (last : Int) z (m + 1) v (i : Int) M2) _
    rw [lX_rainMean_c20]
    refine zS_ie (by omega) ?_
    rw [w1 (by omega), hv, w64_eq (by omega) (by omega)]
    exact k _ (Int.pow_succ 10 i).symm
  · intro m v hv
    show zS (lX_rainMean_c20 ct (last : Int) z (m + 1) v ((last + 1 : Nat) : Int) M2) _
    rw [lX_rainMean_c20]
    refine zS_it (by omega) ?_
    have p := p10 (k := last + 1) (by omega)
    refine zS_m (xRainSum he hl (by omega) (by omega) e33 hf hct (last + 1) 0 zN (zdD (zE0 W) 0) 1 M2 (by omega) (by unfold zN; omega) (by decide) (by omega) (zdD_ok he.2.1 (by omega)) b1 b2 b3) ?_
    intro r ⟨r1, r2, _, _⟩
    have hbd := zRm_b hw hf hl
    have r1 : r.1 = zRm W f last := r1
    have eN : zRm W f last = ((zRm W f last).toNat : Int) := by omega
    have h40 : (2 : Nat) ^ 40 = 1099511627776 := by decide
    have pn := p10n (k := last + 1) (by omega)
    have hlow : lX_inLowestTerms r.1 v z r.2 = some (zLT (zRm W f last).toNat (10 ^ (last + 1)) z) := by
      rw [r1, hv, pow10_nat]
      conv => lhs; rw [eN]
      exact xLow (by omega) (by omega) (by omega)
    refine zS_b hlow ?_
    refine zS_r ⟨rfl, fun c i hci => ?_⟩
    have hci2 := hci
    unfold zkp at hci
    show r.2 c i = M c i
    rw [r2 c (by omega) (by omega) (by omega), hc c (by omega)]
    exact k1 c i hci2
/-- the reference's sums over the rains told by numbers below i -/
def zSm (W : Nat → Int) (f : zD → Int) (last i : Nat) : Int := zsum i (fun j => zRT (zE0 W) (W 3) f (last + 1) 0 (zdD (zE0 W) 0) 1 (fun m => j.testBit (m - 0)))
theorem zSm_b (hw : wOk W) {f : zD → Int} (hf : ∀ s, 0 ≤ f s ∧ f s ≤ 6) {last : Nat} (hl : last ≤ 7) (i : Nat) : 0 ≤ zSm W f last i ∧ zSm W f last i ≤ i * 6000000000 := by
  have h3 := hw.2.2.2.1
  refine zsum_le (n := i) (fun j _ => ?_) (by decide) i (Nat.le_refl i)
  show 0 ≤ zRT (zE0 W) (W 3) f (last + 1) 0 (zdD (zE0 W) 0) 1 (fun m => j.testBit (m - 0)) ∧ zRT (zE0 W) (W 3) f (last + 1) 0 (zdD (zE0 W) 0) 1 (fun m => j.testBit (m - 0)) ≤ 6000000000
  rw [zRT_eq]
  have q1 := zWt_b (od := W 3) (r := fun m => j.testBit (m - 0)) (by omega) (by omega) (last + 1) (by omega)
  have q2 := p10 (k := last + 1) (by omega)
  have q3 := hf (zRun (zE0 W) (last + 1) 0 (zdD (zE0 W) 0) (fun m => j.testBit (m - 0)))
  have a1 := Int.mul_nonneg q1.1 q3.1
  have a2 := Int.mul_le_mul (show zWt (W 3) (last + 1) 0 1 (fun m => j.testBit (m - 0)) ≤ 1000000000 by omega) q3.2 q3.1 (by decide)
  omega
theorem zf1_b {k : Nat} (s : zD) : 0 ≤ zf1 k s ∧ zf1 k s ≤ 6 := by
  unfold zf1
  split <;> omega
theorem zCt_b {E : zE} (he : zeOk E) (s : zD) : 0 ≤ zdCnt E s ∧ zdCnt E s ≤ 6 := by
  have h6 := he.2.1
  unfold zdCnt
  rw [zpc_sum (fun k => zsn_bit (f := fun k => decide (zdA s k ≠ -1)) (zeC E)) 12 (by omega)]
  have q := zsum01 (f := fun k => if decide (zdA s k ≠ -1) = true then (1 : Int) else 0) (fun _ => zb01) (zeC E)
  omega
theorem zone_b (s : zD) : 0 ≤ (fun _ : zD => (1 : Int)) s ∧ (fun _ : zD => (1 : Int)) s ≤ 6 := by
  show (0 : Int) ≤ 1 ∧ (1 : Int) ≤ 6
  omega
theorem mLay {k last : Nat} (h : zInv W M) (hk : k < 6) (hl : last ≤ 7) (hT : last < (W 1).toNat) : zS (lm_layRain (k : Int) (last : Int) M) (fun M' => zKeep M M' ∧ M' 106 33 = 10 ^ (last + 1) ∧ (k < (W 7).toNat → M' 106 34 = zRm W (zf1 k) last) ∧ M' 106 35 = zRm W (zdCnt (zE0 W)) last) := by
  obtain ⟨u0, u1, _, u3, u4, _, u6, u7, _⟩ := h.2.1
  have hw := h.2.1
  have hok := zE0_ok hw
  refine zS_gen (fun Q hQ => ?_)
  unfold lm_layRain
  refine zS_b rfl ?_
  refine zS_b rfl ?_
  refine zS_b rfl ?_
  have hK0 : zKeep M (zup (zup (zup M 106 33 0) 106 34 0) 106 35 0) := zKeep_t (zKeep_f (by omega)) (zKeep_t (zKeep_f (by omega)) (zKeep_f (by omega)))
  have hW0 : (zup (zup (zup M 106 33 0) 106 34 0) 106 35 0) 107 = W := (zKeep_c hK0 107 (by omega)).trans h.1
  refine zS_m (lm_asItIs_ok hw hW0) ?_
  intro M1 hA
  have hS := zAs_S hw hW0 hA
  have hA2 := hA.1.2.1
  have f33 : M1 106 33 = 0 := by rw [hA2 33 (by omega), zup_i (by omega), zup_i (by omega), zup_s]
  have f34 : M1 106 34 = 0 := by rw [hA2 34 (by omega), zup_i (by omega), zup_s]
  have f35 : M1 106 35 = 0 := by rw [hA2 35 (by omega), zup_s]
  refine zS_b rfl ?_
  have pw : 2 ^ (last + 1) ≤ 2 ^ 8 := Nat.pow_le_pow_right (by decide) (by omega)
  have pw2 : (2 : Nat) ^ 8 = 256 := by decide
  have esh : zshl 2 (last : Int) = ((2 ^ (last + 1) : Nat) : Int) := by
    have e3 : zshl ((2 : Nat) : Int) (last : Int) = ((2 <<< last : Nat) : Int) := zshl_nat (by omega) (by rw [Nat.shiftLeft_eq, Nat.mul_comm, ← Nat.pow_succ]; omega)
    rw [Nat.shiftLeft_eq, Nat.mul_comm, ← Nat.pow_succ] at e3
    exact e3
  refine loopI (fun m i (N : Nat → Nat → Int) => lm_layRain_c24 (k : Int) (last : Int) m N) (fun i N => N 106 17 = (i : Int) ∧ N 106 33 = zSm W (fun _ => 1) last i ∧ (k < (W 7).toNat → N 106 34 = zSm W (zf1 k) last i) ∧ N 106 35 = zSm W (zdCnt (zE0 W)) last i ∧ zKeep M N ∧ (∃ rn, zmS N W (whm W) (wik W) (wfdg W (-1)) zno (wcls W) rn (W 2))) (a0 := zup M1 106 17 0) 0 (2 ^ (last + 1)) (Nat.zero_le _) ⟨zup_s, by rw [zup_i (by omega)]; exact f33, fun _ => by rw [zup_i (by omega)]; exact f34, by rw [zup_i (by omega)]; exact f35, zKeep_t hK0 (zKeep_t (zAs_keep hA) (zKeep_f (by omega))), zno, zmS_f hS (Or.inr ⟨rfl, zset_no, rfl⟩)⟩ ?_ ?_ zN (zN_gt (by omega))
  · intro m i N _ hi ⟨h17, h33, h34, h35, hK, rn, hSn⟩ kk
    have hS2 : zmS N W (whm W) (wik W) (wfdg W (-1)) zno (wcls W) (fun m => i.testBit m) (W 2) := by
      obtain ⟨q1, q2, q3, q4, q5, q6, q7, q8, q9⟩ := hSn
      have p20 : (2 : Nat) ^ 20 = 1048576 := by decide
      exact ⟨q1, q2, q3, q4, q5, q6, q7, ⟨i, h17, by omega, fun _ _ => rfl⟩, q9⟩
    have hr0 : ∀ f : zD → Int, zRT (zE0 W) (W 3) f (last + 1) 0 (zdD (zE0 W) 0) 1 (fun m => i.testBit (m - 0)) = zWt (W 3) (last + 1) 0 1 (fun m => i.testBit m) * f (zdD (zEr W (fun m => i.testBit m)) (last + 1)) := fun f => by
      rw [zRT_eq, zRun_D]
      rfl
    have hss : ∀ f : zD → Int, zSm W f last (i + 1) = zSm W f last i + zWt (W 3) (last + 1) 0 1 (fun m => i.testBit m) * f (zdD (zEr W (fun m => i.testBit m)) (last + 1)) := fun f => by
      rw [← hr0 f]
      rfl
    show zS (lm_layRain_c24 (k : Int) (last : Int) (m + 1) N) Q
    rw [lm_layRain_c24]
    refine zS_it (by rw [h17, esh]; omega) ?_
    refine loopI (fun m' j (v : Int) => lm_layRain_c39 (k : Int) (last : Int) (lm_layRain_c24 (k : Int) (last : Int) m) m' v (j : Int) N) (fun j v => v = zWt (W 3) j 0 1 (fun m => i.testBit m)) (a0 := 1) 0 (last + 1) (by omega) rfl ?_ ?_ zN (zN_gt (by omega))
    · intro m' j v _ hj hv k2
      have qb := zWt_b (od := W 3) (r := fun m => i.testBit m) (by omega) (by omega) j (by omega)
      have qp := p10 (k := j) (by omega)
      have e := zWt_e (od := W 3) (r := fun m => i.testBit m) j 0 1
      rw [Nat.zero_add] at e
      show zS (lm_layRain_c39 (k : Int) (last : Int) (lm_layRain_c24 (k : Int) (last : Int) m) (m' + 1) v (j : Int) N) Q
      rw [lm_layRain_c39]
      refine zS_ie (by omega) ?_
      rw [h17]
      refine zS_b (lm_bit_eq (by omega) (by omega)) ?_
      rw [w1 (by omega)]
      have hN3 : N 107 3 = W 3 := by rw [hSn.1]
      have hmul : ∀ p : Int, 0 ≤ p → p ≤ 10 → 0 ≤ v * p ∧ v * p ≤ 10000000000 := fun p p0 p1 => by
        rw [hv]
        have a1 := Int.mul_le_mul (show zWt (W 3) j 0 1 (fun m => i.testBit m) ≤ 1000000000 by omega) p1 p0 (by decide)
        exact ⟨Int.mul_nonneg qb.1 p0, by omega⟩
      cases hb : i.testBit j with
      | true =>
        rw [if_pos rfl, if_pos rfl]
        refine zS_b (w107 (by omega) (by omega)) ?_
        have q := hmul (W 3) (by omega) (by omega)
        rw [show N 107 (Int.toNat 3) = W 3 from hN3, w64_eq (by omega) (by omega)]
        refine k2 _ ?_
        rw [e, hb, hv]
        rfl
      | false =>
        rw [if_neg (by decide)]
        refine zS_b (w107 (by omega) (by omega)) ?_
        have q := hmul (10 - W 3) (by omega) (by omega)
        rw [show N 107 (Int.toNat 3) = W 3 from hN3, w32_eq (x := 10 - W 3) (by omega) (by omega), w64_eq (by omega) (by omega)]
        refine k2 _ ?_
        rw [e, hb, hv]
        rfl
    · intro m' v hv
      have qb := zWt_b (od := W 3) (r := fun m => i.testBit m) (by omega) (by omega) (last + 1) (by omega)
      have qp := p10 (k := last + 1) (by omega)
      rw [← hv] at hr0 hss qb
      have s1 := zSm_b hw zone_b hl (i + 1)
      have s2 := zSm_b hw (f := zf1 k) zf1_b hl (i + 1)
      have s3 := zSm_b hw (zCt_b hok) hl (i + 1)
      have e1 := hss (fun _ => 1)
      have e2 := hss (zf1 k)
      have e3 := hss (zdCnt (zE0 W))
      rw [Int.mul_one] at e1
      show zS (lm_layRain_c39 (k : Int) (last : Int) (lm_layRain_c24 (k : Int) (last : Int) m) (m' + 1) v ((last + 1 : Nat) : Int) N) Q
      rw [lm_layRain_c39]
      refine zS_it (by omega) ?_
      have ei : w32 ((i : Int) + 1) = ((i + 1 : Nat) : Int) := w1 (by omega)
      by_cases hv0 : v = 0
      · rw [if_pos hv0]
        rw [hv0, Int.add_zero] at e1
        rw [hv0, Int.zero_mul, Int.add_zero] at e2 e3
        refine zS_b rfl ?_
        rw [h17, ei]
        have p20 : (2 : Nat) ^ 20 = 1048576 := by decide
        exact kk _ ⟨zup_s, by rw [zup_i (by omega), e1]; exact h33, fun q => by rw [zup_i (by omega), e2]; exact h34 q, by rw [zup_i (by omega), e3]; exact h35, zKeep_t hK (zKeep_f (by omega)), (fun m => (i + 1).testBit m), zmS_f hSn (Or.inr ⟨rfl, ⟨i + 1, rfl, by omega, fun _ _ => rfl⟩, rfl⟩)⟩
      · rw [if_neg hv0]
        refine mAll hS2 (fun M3 g1 g2 => ?_)
        have hM3 : M3 107 = W := (g1 107 (by omega)).trans hSn.1
        have h106 : M3 106 = N 106 := g1 106 (by omega)
        rw [w1 (n := last) (by omega)]
        have g2' : zmT (W 1).toNat (zEr W (fun m => i.testBit m)) M3 := g2
        refine zS_b (lm_signsTo_T (zEr_ok hw) (by rw [hM3]; show W 7 = ((W 7).toNat : Int); omega) (by omega) g2' (by omega)) ?_
        generalize hst : zdD (zEr W (fun m => i.testBit m)) (last + 1) = s at e2 e3
        obtain ⟨A, eA, hAl, hAb⟩ := zst_bits (f := fun k => decide (zdA s k ≠ -1)) (show (W 7).toNat ≤ 30 by omega)
        have hpw : 2 ^ (W 7).toNat ≤ 2 ^ 6 := Nat.pow_le_pow_right (by decide) (by omega)
        have eA2 : zst (zeC (zEr W (fun m => i.testBit m))) (fun k => decide (zdA s k ≠ -1)) = (A : Int) := eA
        rw [eA2]
        have ecnt : zpc 20 A = zdCnt (zE0 W) s := by
          rw [zpc_up (k := 12) (by omega) 8]
          unfold zdCnt
          rw [zpc_sum hAb 12 (by omega), zpc_sum (fun k => zsn_bit (f := fun k => decide (zdA s k ≠ -1)) (zeC (zE0 W))) 12 (show (W 7).toNat ≤ 12 by omega)]
          rfl
        refine zS_b rfl ?_
        refine zS_b (lm_bit_eq (by omega) (by omega)) ?_
        refine zS_b rfl ?_
        refine zS_b (lm_bits_eq (by omega)) ?_
        refine zS_b rfl ?_
        refine zS_b rfl ?_
        have n33 : M3 106 33 = zSm W (fun _ => 1) last i := by rw [h106]; exact h33
        have n35 : M3 106 35 = zSm W (zdCnt (zE0 W)) last i := by rw [h106]; exact h35
        have n34 : k < (W 7).toNat → M3 106 34 = zSm W (zf1 k) last i := fun q => by rw [h106]; exact h34 q
        have n17 : M3 106 17 = (i : Int) := by rw [h106]; exact h17
        simp (disch := omega) only [zup_s, zup_i]
        rw [n33, n35, n17, ei, ecnt]
        have c1 := zCt_b hok s
        have m3 : 0 ≤ v * zdCnt (zE0 W) s ∧ v * zdCnt (zE0 W) s ≤ 6000000000 := by
          have a1 := Int.mul_le_mul (show v ≤ 1000000000 by omega) c1.2 c1.1 (by decide)
          exact ⟨Int.mul_nonneg qb.1 c1.1, by omega⟩
        have t1 := zSm_b hw zone_b hl i
        have t3 := zSm_b hw (zCt_b hok) hl i
        rw [w64_eq (x := zSm W (fun _ => 1) last i + v) (by omega) (by omega), w64_eq (x := v * zdCnt (zE0 W) s) (by omega) (by omega), w64_eq (x := zSm W (zdCnt (zE0 W)) last i + v * zdCnt (zE0 W) s) (by omega) (by omega)]
        refine kk _ ⟨zup_s, ?_, fun q => ?_, ?_, ?_, ?_⟩
        · simp (disch := omega) only [zup_s, zup_i]
          exact e1.symm
        · simp (disch := omega) only [zup_s, zup_i]
          have ebit : (if A.testBit k = true then (1 : Int) else 0) = zf1 k s := by
            rw [hAb, decide_eq_true q, Bool.true_and]
            unfold zf1
            by_cases hz : zdA s k ≠ -1
            · rw [if_pos hz, if_pos (decide_eq_true hz)]
            · rw [if_neg hz, if_neg (by simpa using hz)]
          have c2 := zf1_b (k := k) s
          have m2 : 0 ≤ v * zf1 k s ∧ v * zf1 k s ≤ 6000000000 := by
            have a1 := Int.mul_le_mul (show v ≤ 1000000000 by omega) c2.2 c2.1 (by decide)
            exact ⟨Int.mul_nonneg qb.1 c2.1, by omega⟩
          have t2 := zSm_b hw (f := zf1 k) zf1_b hl i
          rw [ebit, n34 q, w64_eq (x := v * zf1 k s) (by omega) (by omega), w64_eq (by omega) (by omega)]
          exact e2.symm
        · simp (disch := omega) only [zup_s, zup_i]
          exact e3.symm
        · exact zKeep_t hK (zKeep_t (zmg_keep g1) (zKeep_t (zKeep_f (by omega)) (zKeep_t (zKeep_f (by omega)) (zKeep_t (zKeep_f (by omega)) (zKeep_f (by omega))))))
        · have hS4 : ∀ {N' : Nat → Nat → Int} {f : Nat} {u : Int}, zmS N' W (whm W) (wik W) (wfdg W (-1)) zno (wcls W) (fun m => i.testBit m) (W 2) → (19 ≤ f) → zmS (zup N' 106 f u) W (whm W) (wik W) (wfdg W (-1)) zno (wcls W) (fun m => i.testBit m) (W 2) := fun {N' f u} hS hf => by
            obtain ⟨q1, q2, q3, q4, q5, q6, q7, q8, q9⟩ := hS
            exact ⟨by rw [zup_c (by omega)]; exact q1, q2, fun p hp => by rw [zup_c (by omega), zup_c (by omega)]; exact q3 p hp, fun y hy => by rw [zup_c (by omega)]; exact q4 y hy, fun p n hp hn => by rw [zup_c (by omega)]; exact q5 p n hp hn, by rw [zup_i (by omega)]; exact q6, by rw [zup_i (by omega)]; exact q7, by rw [zup_i (by omega)]; exact q8, by rw [zup_i (by omega)]; exact q9⟩
          have p20 : (2 : Nat) ^ 20 = 1048576 := by decide
          exact ⟨(fun m => (i + 1).testBit m), zmS_f (hS4 (hS4 (hS4 (zmS_cg hS2 g1) (by omega)) (by omega)) (by omega)) (Or.inr ⟨rfl, ⟨i + 1, rfl, by omega, fun _ _ => rfl⟩, rfl⟩)⟩
  · intro m N ⟨h17, h33, h34, h35, hK, _⟩
    show zS (lm_layRain_c24 (k : Int) (last : Int) (m + 1) N) Q
    rw [lm_layRain_c24]
    refine zS_ie (by rw [h17, esh]; omega) ?_
    have es : ∀ f, zSm W f last (2 ^ (last + 1)) = zRm W f last := fun f => zRS_sum (last + 1) 0 (zdD (zE0 W) 0) 1
    refine zS_r (hQ _ ⟨hK, ?_, fun q => by rw [h34 q, es], by rw [h35, es]⟩)
    rw [h33, es]
    unfold zRm
    rw [zRS_one, Int.one_mul]
theorem zsum_one {c k : Nat} {f : Nat → Bool} : ∀ c, zsum c (fun i => if (f i && decide (i = k)) = true then (1 : Int) else 0) = if k < c ∧ f k = true then 1 else 0
  | 0 => by rw [if_neg (by omega)]; rfl
  | c + 1 => by
    have ih := zsum_one (k := k) (f := f) (c := 0) c
    have e : zsum (c + 1) (fun i => if (f i && decide (i = k)) = true then (1 : Int) else 0) = zsum c (fun i => if (f i && decide (i = k)) = true then (1 : Int) else 0) + (if (f c && decide (c = k)) = true then 1 else 0) := rfl
    rw [e, ih]
    by_cases hck : c = k
    · subst hck
      rw [if_neg (show ¬ (c < c ∧ f c = true) by omega), decide_eq_true rfl, Bool.and_true]
      by_cases hf : f c = true
      · rw [if_pos hf, if_pos ⟨by omega, hf⟩]; rfl
      · rw [if_neg hf, if_neg (fun q => hf q.2)]; rfl
    · rw [decide_eq_false hck, Bool.and_false, if_neg (show ¬ (false = true) by decide), Int.add_zero]
      by_cases hq : k < c ∧ f k = true
      · rw [if_pos hq, if_pos ⟨by omega, hq.2⟩]
      · rw [if_neg hq, if_neg (fun w => hq ⟨by omega, w.2⟩)]
theorem hct1 {E : zE} (he : zeOk E) {k : Nat} (hk : k < zeC E) : ∀ s D N, zcD E s D → lJ_bitCount (zand D (zshl 1 (k : Int))) N = some (zf1 k s) := fun s D N hD => by
  have h6 := he.2.1
  unfold zcD at hD
  have e : zshl 1 (k : Int) = zst (zeC E) (fun i => decide (i = k)) := by
    rw [zshl1 (by omega), zst_nat _ (by omega)]
    refine congrArg _ (zsn_of (fun i => ?_))
    rw [Nat.testBit_two_pow]
    by_cases hi : i = k
    · rw [decide_eq_true hi, decide_eq_true hi.symm, decide_eq_true (show i < zeC E by omega)]; rfl
    · rw [decide_eq_false hi, decide_eq_false (fun e => hi e.symm), Bool.and_false]
  rw [hD, e, bits_and h6, zsum_one (c := 0)]
  unfold zf1
  by_cases hz : zdA s k ≠ -1
  · rw [if_pos hz, if_pos ⟨hk, decide_eq_true hz⟩]
  · rw [if_neg hz, if_neg (fun q => hz (of_decide_eq_true q.2))]
theorem hct2 {E : zE} (he : zeOk E) : ∀ s D N, zcD E s D → lJ_bitCount (zand D 63) N = some (zdCnt E s) := fun s D N hD => by
  have h6 := he.2.1
  unfold zcD at hD
  have hpw : 2 ^ zeC E ≤ 2 ^ 6 := Nat.pow_le_pow_right (by decide) h6
  have hl := zsn_lt (f := fun k => decide (zdA s k ≠ -1)) (zeC E)
  rw [hD, zst_nat _ (by omega)]
  have e : zand ((zsn (zeC E) (fun k => decide (zdA s k ≠ -1)) : Nat) : Int) 63 = ((zsn (zeC E) (fun k => decide (zdA s k ≠ -1)) : Nat) : Int) := by
    refine (zand_nat (b := 63) (by omega)).trans (congrArg _ ?_)
    exact Nat.and_two_pow_sub_one_of_lt_two_pow (n := 6) (by omega)
  rw [e, lJ_bitCount_eq (by omega)]
  rfl
theorem xCan (h : zInv W M) : lX_canRainTo x M = some (zbo ((0 < W 9 ∧ 0 ≤ x ∧ x ≤ W 1) ∧ x < W 1 ∧ x ≤ 7)) := by
  have e31 : M 3 1 = W 1 := h.2.2.1.2.1
  refine zS_eq ?_
  unfold lX_canRainTo
  refine zX_g (xStep h) (fun c1 => ?_) (fun c1 => (zbo_f (fun q => c1 q.1)).symm)
  rw [e31]
  by_cases h1 : x < W 1
  · rw [if_pos h1]
    by_cases h2 : 7 < x
    · rw [if_pos h2]; exact zS_r (zbo_f (fun q => by omega)).symm
    · rw [if_neg h2]; exact zS_r (zbo_t ⟨c1, h1, by omega⟩).symm
  · rw [if_neg h1]; exact zS_r (zbo_f (fun q => h1 q.2.1)).symm
theorem mCan (h : zInv W M) : lm_isRain x y M = some (zbo (((0 < W 9 ∧ 0 ≤ x ∧ x ≤ W 1) ∧ x < W 1 ∧ x ≤ 7) ∧ (0 ≤ y ∧ y ≤ 1))) := by
  have u1 := h.2.1.2.1
  refine zS_eq ?_
  unfold lm_isRain
  refine zX_g (c := 0 < W 9 ∧ 0 ≤ x ∧ x < W 1) (by rw [lm_isAhead_eq (by rw [h.1]; omega) (by rw [h.1]; omega), h.1]) (fun c1 => ?_) (fun c1 => (zbo_f (fun q => c1 ⟨q.1.1.1, q.1.1.2.1, q.1.2.1⟩)).symm)
  refine zX_g lm_in_eq (fun c2 => ?_) (fun c2 => (zbo_f (fun q => c2 ⟨q.1.1.2.1, q.1.2.2⟩)).symm)
  refine zX_g lm_in_eq (fun c3 => ?_) (fun c3 => (zbo_f (fun q => c3 q.2)).symm)
  exact zS_r (zbo_t ⟨⟨⟨c1.1, c1.2.1, by omega⟩, c1.2.2, c2.2⟩, c3⟩).symm
theorem q_chance (h : zInv W M) : zQ2 M (lX_chance x y z) (lm_chance x y z) := by
  obtain ⟨u0, u1, _, u3, u4, _, u6, u7, _⟩ := h.2.1
  have hok := zE0_ok h.2.1
  refine ⟨if (0 ≤ x ∧ x < W 7) ∧ ((0 < W 9 ∧ 0 ≤ y ∧ y ≤ W 1) ∧ y < W 1 ∧ y ≤ 7) ∧ (0 ≤ z ∧ z ≤ 1) then zLT (zRm W (zf1 x.toNat) y.toNat).toNat (10 ^ (y.toNat + 1)) z else -2, ?_, fun M' hk => ?_⟩
  · refine zX_g2 (xCont h) (fun c1 => zX_g2 (xCan h) (fun c2 => ?_) (fun c2 => (if_neg (fun q => c2 q.2.1)).symm)) (fun c1 => (if_neg (fun q => c1 q.1)).symm)
    by_cases h1 : z < 0
    · rw [if_pos h1]
      exact zS_r ⟨(if_neg (fun q => by omega)).symm, zKeep_r⟩
    · rw [if_neg h1]
      by_cases h2 : 1 < z
      · rw [if_pos h2]
        exact zS_r ⟨(if_neg (fun q => by omega)).symm, zKeep_r⟩
      · rw [if_neg h2, if_pos ⟨c1, c2, by omega⟩]
        obtain ⟨k, rfl⟩ : ∃ p : Nat, x = (p : Int) := ⟨x.toNat, by omega⟩
        obtain ⟨n, rfl⟩ : ∃ p : Nat, y = (p : Int) := ⟨y.toNat, by omega⟩
        rw [Int.toNat_natCast, Int.toNat_natCast]
        refine zS_m (xRainMean h (by omega) (by omega) zf1_b (hct1 hok (show k < (W 7).toNat by omega))) (fun r hr => zS_r hr)
  · have h' := zInv_keep h hk
    refine zM_g (mCont h'.2.1 h'.1) zKeep_r (fun c1 => ?_) (fun c1 => (if_neg (fun q => c1 q.1)).symm)
    refine zM_g (mCan h') zKeep_r (fun c2 => ?_) (fun c2 => (if_neg (fun q => c2 q.2)).symm)
    rw [if_pos ⟨c1, c2⟩]
    obtain ⟨k, rfl⟩ : ∃ p : Nat, x = (p : Int) := ⟨x.toNat, by omega⟩
    obtain ⟨n, rfl⟩ : ∃ p : Nat, y = (p : Int) := ⟨y.toNat, by omega⟩
    rw [Int.toNat_natCast, Int.toNat_natCast]
    refine zS_m (mLay h' (show k < 6 by omega) (by omega) (by omega)) ?_
    intro M1 ⟨d1, d2, d3, _⟩
    have hbd := zRm_b h.2.1 (f := zf1 k) zf1_b (show n ≤ 7 by omega)
    have eN : zRm W (zf1 k) n = ((zRm W (zf1 k) n).toNat : Int) := by omega
    have h40 : (2 : Nat) ^ 40 = 1099511627776 := by decide
    have pn := p10n (k := n + 1) (by omega)
    have hlow : lm_part (M1 106 34) (M1 106 33) z M1 = some (zLT (zRm W (zf1 k) n).toNat (10 ^ (n + 1)) z) := by
      rw [d2, d3 (by omega), pow10_nat]
      conv => lhs; rw [eN]
      exact mLow (by omega) (by omega) (by omega)
    refine zS_b hlow ?_
    exact zS_r ⟨rfl, d1⟩
theorem q_mean (h : zInv W M) : zQ2 M (lX_mean x y) (lm_mean x y) := by
  obtain ⟨u0, u1, _, u3, u4, _, u6, u7, _⟩ := h.2.1
  have hok := zE0_ok h.2.1
  refine ⟨if ((0 < W 9 ∧ 0 ≤ x ∧ x ≤ W 1) ∧ x < W 1 ∧ x ≤ 7) ∧ (0 ≤ y ∧ y ≤ 1) then zLT (zRm W (zdCnt (zE0 W)) x.toNat).toNat (10 ^ (x.toNat + 1)) y else -2, ?_, fun M' hk => ?_⟩
  · refine zX_g2 (xCan h) (fun c2 => ?_) (fun c2 => (if_neg (fun q => c2 q.1)).symm)
    by_cases h1 : y < 0
    · rw [if_pos h1]
      exact zS_r ⟨(if_neg (fun q => by omega)).symm, zKeep_r⟩
    · rw [if_neg h1]
      by_cases h2 : 1 < y
      · rw [if_pos h2]
        exact zS_r ⟨(if_neg (fun q => by omega)).symm, zKeep_r⟩
      · rw [if_neg h2, if_pos ⟨c2, by omega⟩]
        obtain ⟨n, rfl⟩ : ∃ p : Nat, x = (p : Int) := ⟨x.toNat, by omega⟩
        rw [Int.toNat_natCast]
        refine zS_m (xRainMean h (by omega) (by omega) (zCt_b hok) (hct2 hok)) (fun r hr => zS_r hr)
  · have h' := zInv_keep h hk
    refine zM_g (mCan h') zKeep_r (fun c2 => ?_) (fun c2 => (if_neg c2).symm)
    rw [if_pos c2]
    obtain ⟨n, rfl⟩ : ∃ p : Nat, x = (p : Int) := ⟨x.toNat, by omega⟩
    rw [Int.toNat_natCast]
    refine zS_m (mLay (k := 0) h' (by omega) (by omega) (by omega)) ?_
    intro M1 ⟨d1, d2, _, d3⟩
    have hbd := zRm_b h.2.1 (f := zdCnt (zE0 W)) (zCt_b hok) (show n ≤ 7 by omega)
    have eN : zRm W (zdCnt (zE0 W)) n = ((zRm W (zdCnt (zE0 W)) n).toNat : Int) := by omega
    have h40 : (2 : Nat) ^ 40 = 1099511627776 := by decide
    have pn := p10n (k := n + 1) (by omega)
    have hlow : lm_part (M1 106 35) (M1 106 33) y M1 = some (zLT (zRm W (zdCnt (zE0 W)) n).toNat (10 ^ (n + 1)) y) := by
      rw [d2, d3, pow10_nat]
      conv => lhs; rw [eN]
      exact mLow (by omega) (by omega) (by omega)
    refine zS_b hlow ?_
    exact zS_r ⟨rfl, d1⟩
end ZRN
