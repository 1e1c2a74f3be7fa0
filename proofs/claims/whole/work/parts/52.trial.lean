/-! Days with something told otherwise. -/
def zQ2 (M : Nat → Nat → Int) (f g : (Nat → Nat → Int) → Option (Int × (Nat → Nat → Int))) : Prop := ∃ V, zS (f M) (fun r => r.1 = V ∧ zKeep M r.2) ∧ ∀ M', zKeep M M' → zS (g M') (fun r => r.1 = V ∧ zKeep M' r.2)
def whm (W : Nat → Int) : Nat → Int := fun p => W (42 + 12 * p)
def wik (W : Nat → Int) : Nat → Int := fun p => W (42 + 12 * p + 1)
def zno : Nat → Bool := fun _ => false
def zEd (W H I : Nat → Int) (dug : Int) (st cl rn : Nat → Bool) (L : Int) : zE := zeW W H I (wfdg W dug) st cl rn L
def zCn (W H I : Nat → Int) (dug : Int) (st cl rn : Nat → Bool) (L : Int) : Int := zdCnt (zEd W H I dug st cl rn L) (zdD (zEd W H I dug st cl rn L) (W 1).toNat)
theorem zE0_d {W : Nat → Int} : zE0 W = zEd W (whm W) (wik W) (-1) zno (wcls W) zno (W 2) := rfl
section ZTR
variable {W H I : Nat → Int} {M M1 : Nat → Nat → Int} {x L dug : Int} {st cl rn : Nat → Bool} {α : Type} {Q : α → Prop}
theorem zcI_cg {W H I H' I' : Nat → Int} {M M1 : Nat → Nat → Int} {L dug L' dug' : Int} {st cl st' cl' : Nat → Bool} (h : zcI 37 M W H I st cl L dug) (e : ∀ c, c < 37 → M1 c = M c) (h8 : M1 37 8 = L') (h9 : zset 12 (M1 37 9) cl') (h10 : zset 5 (M1 37 10) st') (h11 : M1 37 11 = dug') (hHI : ∀ p, p < (W 6).toNat → M1 40 p = H' p ∧ M1 41 p = I' p ∧ 0 ≤ H' p ∧ H' p < 8 ∧ 0 ≤ I' p ∧ I' p ≤ 60) : zcI 37 M1 W H' I' st' cl' L' dug' := by
  obtain ⟨hd, hw, ht, hs, _⟩ := h
  exact ⟨hd, hw, zTold_cg ht (fun i hi => e _ (by omega)), fun p n hp hn => by rw [e 28 (by omega)]; exact hs p n hp hn, h8, h9, h10, h11, hHI⟩
theorem xTr {g : (Nat → Nat → Int) → Option α} (h : zInv W M) (k : ∀ M1, zKeep M M1 → zcI 37 M1 W (whm W) (wik W) zno (wcls W) (W 2) (-1) → zS (g M1) Q) : zS ((lD_asNow 37 M).bind g) Q := by
  refine zS_m (lD_asNow_ok zis_1_37) ?_
  intro M1 ⟨a1, a2, a3, a4, a5, a6⟩
  obtain ⟨hW, hw, ht, ha, _⟩ := h
  have ht0 := ht
  obtain ⟨t0, t1, t2, t3, t4, t5, t6, t7, t8, ts, tw, tn, tc⟩ := ht
  have hq := hw.2.2.2.2.2.2.2.2.2.2.2.2.2.2.1
  have h0 := hw.1
  have h6 := hw.2.2.2.2.2.2.1
  have hf : ∀ c, c < 37 → M1 c = M c := fun c hc => a1 c (by omega) (by omega) (by omega)
  refine k M1 (fun c i hc => ?_) ⟨zis_1_37, hw, zTold_cg ht0 (fun i hi => hf _ (by omega)), fun p n hp hn => by rw [hf 28 (by omega)]; exact ha.2.2.2 p n hp hn, by rw [a3]; exact t2, by rw [a4]; exact ha.2.1, by rw [a5]; exact zset_0, a6, fun p hp => ?_⟩
  · unfold zkp at hc
    rw [a1 c (by omega) (by omega) (by omega)]
  · obtain ⟨n1, n2, _⟩ := tn p hp
    obtain ⟨q1, q2⟩ := a2 p (by omega)
    have qq := hq p hp
    have e1 : M 7 p = W (42 + 12 * p) := n1
    have e2 : M 8 p = W (42 + 12 * p + 1) := n2
    have q3 : 0 ≤ whm W p ∧ whm W p < 8 ∧ 0 ≤ wik W p ∧ wik W p ≤ 60 := by
      show 0 ≤ W (42 + 12 * p) ∧ W (42 + 12 * p) < 8 ∧ 0 ≤ W (42 + 12 * p + 1) ∧ W (42 + 12 * p + 1) ≤ 60
      omega
    exact ⟨q1.trans e1, q2.trans e2, q3⟩
theorem zKeep_37 {c i : Nat} {v : Int} (hK : zKeep M M1) (hc : 37 ≤ c ∧ c ≤ 44) : zKeep M (zup M1 c i v) := fun e j he => by
  unfold zkp at he
  rw [zup_c (by omega)]
  exact hK e j (by unfold zkp; omega)
theorem xRun {g : Int × (Nat → Nat → Int) → Option α} (hK : zKeep M M1) (hI : zcI 37 M1 W H I st cl L dug) (hx : zset 20 x rn) (k : ∀ r : Int × (Nat → Nat → Int), r.1 = zCn W H I dug st cl rn L → zKeep M r.2 → zcT 37 (W 1).toNat (zEd W H I dug st cl rn L) r.2 → zcE 37 r.2 (zEd W H I dug st cl rn L) → zS (g r) Q) : zS ((lD_runAll 37 x M1).bind g) Q := by
  refine zS_m (zc_run hI hx) ?_
  intro r ⟨r1, r2, r3, r4⟩
  refine k r r1 (fun c i hc => ?_) r3 r4
  have hc2 := hc
  unfold zkp at hc
  rw [r2 c (by omega) (by omega) (by omega) (by omega)]
  exact hK c i hc2
theorem mMany {E : zE} {T : Nat} (he : zeOk E) (h1 : M 107 1 = (T : Int)) (hc : M 107 7 = (zeC E : Int)) (hT : T ≤ 20) (h3 : zmT T E M) : lm_manySigned M = some (zdCnt E (zdD E T)) := by
  refine zS_eq ?_
  unfold lm_manySigned
  refine zS_b lm_last_eq ?_
  rw [h1]
  refine zS_b (lm_signsTo_T he hc hT h3 (Nat.le_refl T)) ?_
  have h6 := he.2.1
  have hl := zsn_lt (f := fun k => decide (zdA (zdD E T) k ≠ -1)) (zeC E)
  have hp : 2 ^ zeC E ≤ 2 ^ 6 := Nat.pow_le_pow_right (by decide) h6
  have hp2 : (2 : Nat) ^ 6 ≤ 2 ^ 12 := by decide
  rw [zst_nat _ (by omega)]
  refine zS_b (lm_bits_eq (by omega)) ?_
  refine zS_r ?_
  rw [zpc_up (k := 12) (by omega) 8]
  rfl
theorem mRun {g : Int × (Nat → Nat → Int) → Option α} (hS : zmS M W H I (wfdg W dug) st cl rn L) (k : ∀ r : Int × (Nat → Nat → Int), r.1 = zCn W H I dug st cl rn L → zmg M r.2 → zS (g r) Q) : zS ((lm_signsNow M).bind g) Q := by
  have hw := hS.2.1
  have hE := zm_env (fun x _ _ => wfdg_b hw) hS
  have hE0 := hE
  obtain ⟨hok, hB, hC, hT, hT20, _⟩ := hE
  have e : zS (lm_signsNow M) (fun r => r.1 = zCn W H I dug st cl rn L ∧ zmg M r.2) := by
    unfold lm_signsNow
    refine zS_m (lm_goAll_ok hE0 zmg_r) ?_
    intro M1 ⟨g1, g2⟩
    refine zS_b (mMany hok (by rw [g1 107 (by omega)]; exact hT) (by rw [g1 107 (by omega)]; exact hC) hT20 g2) ?_
    exact zS_r ⟨rfl, g1⟩
  exact zS_m e (fun r hr => k r hr.1 hr.2)
theorem zset_no {n : Nat} : zset n 0 zno := zset_0
theorem xBy (h : zInv W M) : zS (lX_signedByLaw x M) (fun r => r.1 = zCn W (whm W) (wik W) (-1) zno (wcls W) zno x ∧ zKeep M r.2) := by
  unfold lX_signedByLaw
  refine xTr h (fun M1 k1 i1 => ?_)
  have i1' := i1
  obtain ⟨_, _, _, _, i8, i9, i10, i11, iHI⟩ := i1
  refine zS_b rfl ?_
  refine xRun (zKeep_37 k1 (by omega)) (zcI_cg i1' (L' := x) (dug' := -1) (fun c hc => zup_c (by omega)) (by rw [zup_s]) (by rw [zup_i (by omega)]; exact i9) (by rw [zup_i (by omega)]; exact i10) (by rw [zup_i (by omega)]; exact i11) (fun p hp => by rw [zup_c (by omega), zup_c (by omega)]; exact iHI p hp)) zset_no (fun r r1 r2 _ _ => ?_)
  exact zS_r ⟨r1, r2⟩
theorem mBy (hS : zmS M W (whm W) (wik W) (wfdg W (-1)) zno (wcls W) zno L) : zS (lm_signsBy x M) (fun r => r.1 = zCn W (whm W) (wik W) (-1) zno (wcls W) zno x ∧ zKeep M r.2 ∧ zmS r.2 W (whm W) (wik W) (wfdg W (-1)) zno (wcls W) zno x) := by
  unfold lm_signsBy
  refine zS_b rfl ?_
  have hS2 : zmS (zup M 106 16 x) W (whm W) (wik W) (wfdg W (-1)) zno (wcls W) zno x := by
    obtain ⟨s1, s2, s3, s4, s5, s6, s7, s8, s9⟩ := hS
    refine ⟨by rw [zup_c (by omega)]; exact s1, s2, fun p hp => by rw [zup_c (by omega), zup_c (by omega)]; exact s3 p hp, fun x hx => by rw [zup_c (by omega)]; exact s4 x hx, fun p n hp hn => by rw [zup_c (by omega)]; exact s5 p n hp hn, by rw [zup_i (by omega)]; exact s6, by rw [zup_s], by rw [zup_i (by omega)]; exact s8, by rw [zup_i (by omega)]; exact s9⟩
  refine mRun hS2 (fun r r1 r2 => ?_)
  refine zS_r ⟨r1, zKeep_t (fun c i hc => ?_) (zmg_keep r2), zmS_cg hS2 r2⟩
  unfold zkp at hc
  by_cases h6 : c = 106
  · subst h6
    rw [zup_i (by omega)]
  · rw [zup_c h6]
/-- what the reference knows, with the base day -/
theorem mAsk (h : zInv W M) {c : Prop} [Decidable c] {f : Option (Int × (Nat → Nat → Int))} {k : Int × (Nat → Nat → Int) → Option (Int × (Nat → Nat → Int))} {b T : Int} (hf : zS f (fun r => r.1 = zbo c ∧ zKeep M r.2 ∧ r.2 107 = W ∧ zmS r.2 W (whm W) (wik W) (wfdg W (-1)) zno (wcls W) zno (W 2) ∧ (c → zmT (W 1).toNat (zE0 W) r.2))) (ht : c → ∀ r : Int × (Nat → Nat → Int), zKeep M r.2 → zmS r.2 W (whm W) (wik W) (wfdg W (-1)) zno (wcls W) zno (W 2) → zmT (W 1).toNat (zE0 W) r.2 → zS (k r) (fun r => r.1 = T ∧ zKeep M r.2)) (hn : ¬ c → b = T) : zS (f.bind (fun r2_ => if r2_.1 = 0 then some (b, r2_.2) else k r2_)) (fun r => r.1 = T ∧ zKeep M r.2) := by
  refine zS_m hf ?_
  intro r ⟨a1, a2, a3, a4, a5⟩
  rw [a1]
  by_cases hc : c
  · rw [zbo_t hc, if_neg (by decide)]; exact ht hc r a2 a4 (a5 hc)
  · rw [zbo_f hc, if_pos rfl]; exact zS_r ⟨hn hc, a2⟩
theorem zX_g2 {c : Prop} [Decidable c] {f : Option Int} {k : Option (Int × (Nat → Nat → Int))} {b T : Int} (h : f = some (zbo c)) (ht : c → zS k (fun r => r.1 = T ∧ zKeep M r.2)) (hf : ¬ c → b = T) : zS (f.bind (fun v5 => if v5 = 0 then some (b, M) else k)) (fun r => r.1 = T ∧ zKeep M r.2) := zM_g h zKeep_r ht hf
theorem q_by (h : zInv W M) : zQ2 M (lX_by x) (lm_by x) := by
  refine ⟨if 0 < W 9 ∧ 0 ≤ x ∧ x ≤ 3 then zCn W (whm W) (wik W) (-1) zno (wcls W) zno x else -2, ?_, fun M' hk => ?_⟩
  · refine zX_g2 (xThere h) (fun c1 => ?_) (fun c1 => (if_neg (fun q => c1 q.1)).symm)
    by_cases h1 : x < 0
    · rw [if_pos h1]
      exact zS_r ⟨(if_neg (by omega)).symm, zKeep_r⟩
    · rw [if_neg h1]
      by_cases h2 : 3 < x
      · rw [if_pos h2]
        exact zS_r ⟨(if_neg (by omega)).symm, zKeep_r⟩
      · rw [if_neg h2, if_pos (by omega)]
        exact zS_m (xBy h) (fun r hr => zS_r hr)
  · have h' := zInv_keep h hk
    refine mAsk h' (lm_asksState_ok h'.2.1 h'.1) (fun c1 r r1 r2 _ => ?_) (fun c1 => (if_neg (fun q => c1 q.1)).symm)
    refine zM_g lm_in_eq r1 (fun c2 => ?_) (fun c2 => (if_neg (fun q => c2 q.2)).symm)
    rw [if_pos ⟨c1, c2⟩]
    exact zS_m (mBy r2) (fun s hs => zS_r ⟨hs.1, zKeep_t r1 hs.2.1⟩)
/-- the best so far -/
def zBf (cnt : Nat → Int) (c : Nat) (a : Int × Int) : Int × Int := if a.2 < cnt c then ((c : Int), cnt c) else a
theorem zBf_t {cnt : Nat → Int} {i : Nat} {a : Int × Int} (h : a.2 < cnt i) : zBf cnt i a = ((i : Int), cnt i) := if_pos h
theorem zBf_f {cnt : Nat → Int} {i : Nat} {a : Int × Int} (h : ¬ a.2 < cnt i) : zBf cnt i a = a := if_neg h
theorem zCn_b : 0 ≤ zCn W H I dug st cl rn L ∧ zCn W H I dug st cl rn L ≤ 12 := zpc_b 12
theorem q_law (h : zInv W M) : zQ2 M lX_law lm_law := by
  generalize hcn : (fun k : Nat => zCn W (whm W) (wik W) (-1) zno (wcls W) zno (k : Int)) = cnt
  have hcn : ∀ k : Nat, zCn W (whm W) (wik W) (-1) zno (wcls W) zno (k : Int) = cnt k := fun k => congrFun hcn k
  have hcb : ∀ k, 0 ≤ cnt k := fun k => by rw [← hcn]; exact zCn_b.1
  refine ⟨if 0 < W 9 then (zfo (zBf cnt) 4 (0, -1)).1 else -2, ?_, fun M' hk => ?_⟩
  · refine zX_g2 (xThere h) (fun c1 => ?_) (fun c1 => (if_neg c1).symm)
    rw [if_pos c1]
    refine loopI (fun m i (a : (Int × Int) × (Nat → Nat → Int)) => lX_law_c19 m a.1.1 a.1.2 (i : Int) a.2) (fun i a => a.1 = zfo (zBf cnt) i (0, -1) ∧ zKeep M a.2) (a0 := ((0, -1), M)) 0 4 (by omega) ⟨rfl, zKeep_r⟩ ?_ ?_ zN (zN_gt (by omega))
    · intro m i a _ hi ⟨ha, hK⟩ k
      obtain ⟨⟨a1, a2⟩, M1⟩ := a
      have ha : (a1, a2) = zfo (zBf cnt) i (0, -1) := ha
      show zS (lX_law_c19 (m + 1) a1 a2 (i : Int) M1) _
      rw [lX_law_c19]
      refine zS_ie (by omega) ?_
      rw [w1 (by omega)]
      refine zS_m (xBy (zInv_keep h hK)) (fun r hr => ?_)
      rw [hr.1, hcn]
      have e : zfo (zBf cnt) (i + 1) (0, -1) = zBf cnt i (a1, a2) := by rw [ha]; rfl
      by_cases hz : a2 < cnt i
      · rw [if_pos hz]
        exact k ((_, _), _) ⟨by rw [e]; exact (zBf_t (a := (a1, a2)) hz).symm, zKeep_t hK hr.2⟩
      · rw [if_neg hz]
        exact k ((_, _), _) ⟨by rw [e]; exact (zBf_f (a := (a1, a2)) hz).symm, zKeep_t hK hr.2⟩
    · intro m a ⟨ha, hK⟩
      show zS (lX_law_c19 (m + 1) a.1.1 a.1.2 ((4 : Nat) : Int) a.2) _
      rw [lX_law_c19]
      refine zS_it (by omega) ?_
      exact zS_r ⟨by rw [ha], hK⟩
  · have h' := zInv_keep h hk
    refine mAsk h' (lm_asksState_ok h'.2.1 h'.1) (fun c1 r r1 r2 _ => ?_) (fun c1 => (if_neg c1).symm)
    rw [if_pos c1]
    have e1 : zfo (zBf cnt) 1 (0, -1) = (0, cnt 0) := zBf_t (a := (0, -1)) (i := 0) (by have := hcb 0; show -1 < cnt 0; omega)
    refine loopI (fun m i (a : Int × (Nat → Nat → Int)) => lm_law_c14 m a.1 (i : Int) a.2) (fun i a => (∃ b : Nat, a.1 = (b : Int) ∧ zfo (zBf cnt) i (0, -1) = ((b : Int), cnt b)) ∧ zKeep M' a.2 ∧ ∃ L, zmS a.2 W (whm W) (wik W) (wfdg W (-1)) zno (wcls W) zno L) (a0 := (0, r.2)) 1 4 (by omega) ⟨⟨0, rfl, e1⟩, r1, _, r2⟩ ?_ ?_ zN (zN_gt (by omega))
    · intro m i a _ hi ⟨⟨b, hb, he⟩, hK, L, hS⟩ k
      obtain ⟨a1, M1⟩ := a
      have hb : a1 = (b : Int) := hb
      show zS (lm_law_c14 (m + 1) a1 (i : Int) M1) _
      rw [lm_law_c14]
      refine zS_it (by omega) ?_
      rw [w1 (by omega), hb]
      refine zS_m (mBy hS) (fun s hs => ?_)
      refine zS_m (mBy hs.2.2) (fun t ht => ?_)
      rw [hs.1, ht.1, hcn, hcn]
      have e : zfo (zBf cnt) (i + 1) (0, -1) = zBf cnt i ((b : Int), cnt b) := by rw [← he]; rfl
      have hK2 := zKeep_t (zKeep_t hK hs.2.1) ht.2.1
      by_cases hz : cnt b < cnt i
      · rw [if_pos hz]
        exact k (_, _) ⟨⟨i, rfl, by rw [e]; exact zBf_t (a := ((b : Int), cnt b)) hz⟩, hK2, _, ht.2.2⟩
      · rw [if_neg hz]
        exact k (_, _) ⟨⟨b, rfl, by rw [e]; exact zBf_f (a := ((b : Int), cnt b)) hz⟩, hK2, _, ht.2.2⟩
    · intro m a ⟨⟨b, hb, he⟩, hK, _⟩
      show zS (lm_law_c14 (m + 1) a.1 ((4 : Nat) : Int) a.2) _
      rw [lm_law_c14]
      refine zS_ie (by omega) ?_
      exact zS_r ⟨by rw [he]; exact hb, hK⟩
/-! lives -/
def wup (f : Nat → Int) (i : Nat) (v : Int) : Nat → Int := fun p => if p = i then v else f p
theorem whm_b (hw : wOk W) {p : Nat} (hp : p < (W 6).toNat) : 0 ≤ whm W p ∧ whm W p < 8 ∧ whm W p < W 0 := by
  have q := hw.2.2.2.2.2.2.2.2.2.2.2.2.2.2.1 p hp
  have h0 := hw.1
  show 0 ≤ W (42 + 12 * p) ∧ W (42 + 12 * p) < 8 ∧ W (42 + 12 * p) < W 0
  omega
theorem wik_b (hw : wOk W) {p : Nat} (hp : p < (W 6).toNat) : 0 ≤ wik W p ∧ wik W p ≤ 60 := by
  have q := hw.2.2.2.2.2.2.2.2.2.2.2.2.2.2.1 p hp
  show 0 ≤ W (42 + 12 * p + 1) ∧ W (42 + 12 * p + 1) ≤ 60
  omega
theorem xLive {a c : Nat} (h : zInv W M) (ha : a < (W 6).toNat) (hc : c < 8) : zS (lX_signedLivingAt (a : Int) (c : Int) M) (fun r => r.1 = zCn W (wup (whm W) a c) (wik W) (-1) zno (wcls W) zno (W 2) ∧ zKeep M r.2 ∧ zcT 37 (W 1).toNat (zEd W (wup (whm W) a c) (wik W) (-1) zno (wcls W) zno (W 2)) r.2) := by
  obtain ⟨u0, u1, _, _, u4, _, u6, u7, _⟩ := h.2.1
  have hw := h.2.1
  unfold lX_signedLivingAt
  refine xTr h (fun M1 k1 i1 => ?_)
  have i1' := i1
  obtain ⟨_, _, _, _, i8, i9, i10, i11, iHI⟩ := i1
  refine zS_b (wrI_n sh_40 (by omega)) ?_
  refine xRun (zKeep_37 k1 (by omega)) (zcI_cg i1' (H' := wup (whm W) a c) (I' := wik W) (L' := W 2) (dug' := -1) (fun e he => zup_c (by omega)) (by rw [zup_c (by omega)]; exact i8) (by rw [zup_c (by omega)]; exact i9) (by rw [zup_c (by omega)]; exact i10) (by rw [zup_c (by omega)]; exact i11) (fun p hp => ?_)) zset_no (fun r r1 r2 r3 _ => ?_)
  · have q := iHI p hp
    rw [zup_a, zup_c (show 41 ≠ 40 by decide)]
    unfold wup
    by_cases hpa : p = a
    · rw [if_pos hpa, if_pos hpa]
      exact ⟨rfl, q.2.1, by omega, by omega, q.2.2.2.2⟩
    · rw [if_neg hpa, if_neg hpa]
      exact q
  · exact zS_r ⟨r1, r2, r3⟩
theorem q_lives (h : zInv W M) : zQ2 M (lX_lives x) (lm_lives x) := by
  obtain ⟨b1, b2, b3, b4, b5, b6, b7, b8⟩ := xB h
  obtain ⟨u0, u1, _, _, u4, _, u6, u7, _⟩ := h.2.1
  have hw := h.2.1
  generalize hcn : (fun c : Nat => zCn W (wup (whm W) x.toNat (c : Int)) (wik W) (-1) zno (wcls W) zno (W 2)) = cnt
  have hcn : ∀ c : Nat, zCn W (wup (whm W) x.toNat (c : Int)) (wik W) (-1) zno (wcls W) zno (W 2) = cnt c := fun k => congrFun hcn k
  refine ⟨if 0 ≤ x ∧ x < W 6 then (zfo (zBf cnt) (W 0).toNat (0, -1)).1 else -2, ?_, fun M' hk => ?_⟩
  · refine zX_g2 (xName h) (fun c1 => ?_) (fun c1 => (if_neg c1).symm)
    rw [if_pos c1]
    obtain ⟨a, rfl⟩ : ∃ a : Nat, x = (a : Int) := ⟨x.toNat, by omega⟩
    rw [Int.toNat_natCast] at hcn
    refine loopI (fun m i (s : (Int × Int) × (Nat → Nat → Int)) => lX_lives_c21 (a : Int) m s.1.1 s.1.2 (i : Int) s.2) (fun i s => s.1 = zfo (zBf cnt) i (0, -1) ∧ zKeep M s.2) (a0 := ((0, -1), M)) 0 (W 0).toNat (by omega) ⟨rfl, zKeep_r⟩ ?_ ?_ zN (zN_gt (by omega))
    · intro m i s _ hi ⟨hs, hK⟩ k
      obtain ⟨⟨s1, s2⟩, M1⟩ := s
      have hs : (s1, s2) = zfo (zBf cnt) i (0, -1) := hs
      have hK : zKeep M M1 := hK
      show zS (lX_lives_c21 (a : Int) (m + 1) s1 s2 (i : Int) M1) _
      rw [lX_lives_c21]
      refine zS_it (by rw [zKeep_c hK 3 (by omega)]; omega) ?_
      rw [w1 (by omega)]
      refine zS_m (xLive (zInv_keep h hK) (show a < (W 6).toNat by omega) (show i < 8 by omega)) (fun r hr => ?_)
      rw [hr.1, hcn]
      have e : zfo (zBf cnt) (i + 1) (0, -1) = zBf cnt i (s1, s2) := by rw [hs]; rfl
      by_cases hz : s2 < cnt i
      · rw [if_pos hz]
        exact k ((_, _), _) ⟨by rw [e]; exact (zBf_t (a := (s1, s2)) hz).symm, zKeep_t hK hr.2.1⟩
      · rw [if_neg hz]
        exact k ((_, _), _) ⟨by rw [e]; exact (zBf_f (a := (s1, s2)) hz).symm, zKeep_t hK hr.2.1⟩
    · intro m s ⟨hs, hK⟩
      show zS (lX_lives_c21 (a : Int) (m + 1) s.1.1 s.1.2 ((W 0).toNat : Int) s.2) _
      rw [lX_lives_c21]
      refine zS_ie (by rw [zKeep_c hK 3 (by omega)]; omega) ?_
      exact zS_r ⟨by rw [hs], hK⟩
  · have h' := zInv_keep h hk
    refine mAsk h' (lm_asksName_ok h'.2.1 h'.1) (fun c1 r r1 r2 _ => ?_) (fun c1 => (if_neg c1).symm)
    rw [if_pos c1]
    obtain ⟨a, rfl⟩ : ∃ a : Nat, x = (a : Int) := ⟨x.toNat, by omega⟩
    rw [Int.toNat_natCast] at hcn
    refine loopI (fun m i (s : (Int × Int) × (Nat → Nat → Int)) => lm_lives_c18 (a : Int) m s.1.1 s.1.2 (i : Int) s.2) (fun i s => s.1 = zfo (zBf cnt) i (0, -1) ∧ zKeep M' s.2 ∧ ∃ v, 0 ≤ v ∧ v < 8 ∧ zmS s.2 W (wup (whm W) a v) (wik W) (wfdg W (-1)) zno (wcls W) zno (W 2)) (a0 := ((0, -1), r.2)) 0 (W 0).toNat (by omega) ⟨rfl, r1, whm W a, (whm_b hw (by omega)).1, (whm_b hw (by omega)).2.1, ?_⟩ ?_ ?_ zN (zN_gt (by omega))
    · have e : wup (whm W) a (whm W a) = whm W := by
        funext p
        unfold wup
        by_cases hp : p = a
        · rw [if_pos hp, hp]
        · rw [if_neg hp]
      rw [e]
      exact r2
    · intro m i s _ hi ⟨hs, hK, v, v0, v8, hS⟩ k
      obtain ⟨⟨s1, s2⟩, M1⟩ := s
      have hs : (s1, s2) = zfo (zBf cnt) i (0, -1) := hs
      have hK : zKeep M' M1 := hK
      have hS : zmS M1 W (wup (whm W) a v) (wik W) (wfdg W (-1)) zno (wcls W) zno (W 2) := hS
      show zS (lm_lives_c18 (a : Int) (m + 1) s1 s2 (i : Int) M1) _
      rw [lm_lives_c18]
      refine zS_b (w107 (by omega) (by omega)) ?_
      refine zS_it (by rw [hS.1]; show (i : Int) < W 0; omega) ?_
      rw [w1 (by omega)]
      refine zS_b (wrI_n sh_113 (by omega)) ?_
      have hS2 : zmS (zup M1 113 a (i : Int)) W (wup (whm W) a (i : Int)) (wik W) (wfdg W (-1)) zno (wcls W) zno (W 2) := by
        obtain ⟨q1, q2, q3, q4, q5, q6, q7, q8, q9⟩ := hS
        refine ⟨by rw [zup_c (by omega)]; exact q1, q2, fun p hp => ?_, fun x hx => by rw [zup_c (by omega)]; exact q4 x hx, fun p n hp hn => by rw [zup_c (by omega)]; exact q5 p n hp hn, by rw [zup_c (by omega)]; exact q6, by rw [zup_c (by omega)]; exact q7, by rw [zup_c (by omega)]; exact q8, by rw [zup_c (by omega)]; exact q9⟩
        have q := q3 p hp
        unfold wup at q ⊢
        rw [zup_a, zup_c (show 114 ≠ 113 by decide)]
        by_cases hpa : p = a
        · rw [if_pos hpa, if_pos hpa]
          exact ⟨rfl, q.2.1, by omega, by omega, q.2.2.2.2⟩
        · rw [if_neg hpa, if_neg hpa]
          rw [if_neg hpa] at q
          exact q
      refine mRun hS2 (fun r r1 r2 => ?_)
      rw [r1, hcn]
      have e : zfo (zBf cnt) (i + 1) (0, -1) = zBf cnt i (s1, s2) := by rw [hs]; rfl
      have hK2 : zKeep M' r.2 := zKeep_t hK (fun c j hc => by
        rw [zmg_keep r2 c j hc]
        unfold zkp at hc
        rw [zup_c (by omega)])
      by_cases hz : s2 < cnt i
      · rw [if_pos hz]
        exact k ((_, _), _) ⟨by rw [e]; exact (zBf_t (a := (s1, s2)) hz).symm, hK2, _, by omega, by omega, zmS_cg hS2 r2⟩
      · rw [if_neg hz]
        exact k ((_, _), _) ⟨by rw [e]; exact (zBf_f (a := (s1, s2)) hz).symm, hK2, _, by omega, by omega, zmS_cg hS2 r2⟩
    · intro m s ⟨hs, hK, v, v0, v8, hS⟩
      show zS (lm_lives_c18 (a : Int) (m + 1) s.1.1 s.1.2 ((W 0).toNat : Int) s.2) _
      rw [lm_lives_c18]
      refine zS_b (w107 (by omega) (by omega)) ?_
      refine zS_ie (by rw [hS.1]; show ¬ (((W 0).toNat : Int) < W 0); omega) ?_
      exact zS_r ⟨by rw [hs], hK⟩
end ZTR
