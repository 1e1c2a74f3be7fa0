/-! The cases of the law (written by wip/whole/gencase.py). -/
theorem zorL_b {x y : Int} : -9223372036854775808 ≤ zorL x y ∧ zorL x y ≤ 9223372036854775807 := by
  unfold zorL zbl
  have a := Int64.le_toInt ((fun x y : Int64 => x ||| y) (Int64.ofInt x) (Int64.ofInt y))
  have b := Int64.toInt_lt ((fun x y : Int64 => x ||| y) (Int64.ofInt x) (Int64.ofInt y))
  omega
section ZCA
variable {W : Nat → Int} {M : Nat → Nat → Int} {sc : zSc} {h18 : Int → (Nat → Nat → Int) → Option (Int × (Nat → Nat → Int))} {y3 : Int}
/-- five more numbers are there -/
def zHreads (sc : zSc) (y3 : Int) : Prop := ∀ k : Nat, 1 ≤ k → k ≤ 5 → ∃ v, rdX sc (w32 (y3 + (k : Int))) = some v ∧ (-2147483648 ≤ v ∧ v ≤ 2147483647)
/-- the rest of the law answers 1 -/
def zHrest (h18 : Int → (Nat → Nat → Int) → Option (Int × (Nat → Nat → Int))) (y3 : Int) : Prop := ∀ W M, zInv W M → zS (h18 (w32 (y3 + 6)) M) (fun r => r.1 = 1)
theorem zcase_feed (h : zInv W M) (hr : zHreads sc y3) (hk : zHrest h18 y3) : zS (lQ_law_c320 sc h18 y3 M) (fun r => r.1 = 1) := by
  obtain ⟨a1, e1, b1⟩ := hr 1 (by omega) (by omega)
  obtain ⟨a2, e2, b2⟩ := hr 2 (by omega) (by omega)
  obtain ⟨a3, e3, b3⟩ := hr 3 (by omega) (by omega)
  obtain ⟨a4, e4, b4⟩ := hr 4 (by omega) (by omega)
  obtain ⟨a5, e5, b5⟩ := hr 5 (by omega) (by omega)
  have q : zQ4 (lX_feed a1 a2 a3 a4 a5) (lm_feed a1 a2 a3 a4 a5) M := q_feed h
  unfold lQ_law_c320
  refine zS_b e1 ?_
  refine zS_b e2 ?_
  refine zS_b e3 ?_
  refine zS_b e4 ?_
  refine zS_b e5 ?_
  refine zS_m q (fun v hv => ?_)
  refine zS_b e1 ?_
  refine zS_b e2 ?_
  refine zS_b e3 ?_
  refine zS_b e4 ?_
  refine zS_b e5 ?_
  refine zS_m hv (fun s hs => ?_)
  obtain ⟨s1, W2, s2⟩ := hs
  rw [s1, if_pos rfl]
  exact hk W2 _ s2
theorem zcase_end (h : zInv W M) (hr : zHreads sc y3) (hk : zHrest h18 y3) : zS (lQ_law_c383 sc h18 y3 M) (fun r => r.1 = 1) := by
  obtain ⟨a1, e1, b1⟩ := hr 1 (by omega) (by omega)
  have q : zQ4 (lX_end a1) (lm_end a1) M := q_end h
  unfold lQ_law_c383
  refine zS_b e1 ?_
  refine zS_m q (fun v hv => ?_)
  refine zS_b e1 ?_
  refine zS_m hv (fun s hs => ?_)
  obtain ⟨s1, W2, s2⟩ := hs
  rw [s1, if_pos rfl]
  exact hk W2 _ s2
theorem zcase_fault (h : zInv W M) (hr : zHreads sc y3) (hk : zHrest h18 y3) : zS (lQ_law_c419 sc h18 y3 M) (fun r => r.1 = 1) := by
  obtain ⟨a1, e1, b1⟩ := hr 1 (by omega) (by omega)
  have q : zQ0 (lX_fault a1 M) (lm_fault a1 M) := q_fault h
  unfold lQ_law_c419
  refine zS_b e1 ?_
  obtain ⟨V, hf, hg⟩ := q
  refine zS_m hf (fun v hv => ?_)
  refine zS_b e1 ?_
  refine zS_m hg (fun s hs => ?_)
  rw [hv, hs, if_pos rfl]
  exact hk W M h
theorem zcase_street (h : zInv W M) (hr : zHreads sc y3) (hk : zHrest h18 y3) : zS (lQ_law_c442 sc h18 y3 M) (fun r => r.1 = 1) := by
  obtain ⟨a1, e1, b1⟩ := hr 1 (by omega) (by omega)
  obtain ⟨a2, e2, b2⟩ := hr 2 (by omega) (by omega)
  have q : zQ1 M (lX_street a1 a2 M) (lm_street a1 a2 M) := q_street h
  unfold lQ_law_c442
  refine zS_b e1 ?_
  refine zS_b e2 ?_
  obtain ⟨V, hf, hg⟩ := q
  refine zS_m hf (fun v hv => ?_)
  refine zS_b e1 ?_
  refine zS_b e2 ?_
  refine zS_m hg (fun s hs => ?_)
  rw [hv, hs.1, if_pos rfl]
  exact hk W _ (zInv_keep h hs.2)
theorem zcase_well (h : zInv W M) (hr : zHreads sc y3) (hk : zHrest h18 y3) : zS (lQ_law_c475 sc h18 y3 M) (fun r => r.1 = 1) := by
  obtain ⟨a1, e1, b1⟩ := hr 1 (by omega) (by omega)
  have q : zQ1 M (lX_well a1 M) (lm_well a1 M) := q_well h
  unfold lQ_law_c475
  refine zS_b e1 ?_
  obtain ⟨V, hf, hg⟩ := q
  refine zS_m hf (fun v hv => ?_)
  refine zS_b e1 ?_
  refine zS_m hg (fun s hs => ?_)
  rw [hv, hs.1, if_pos rfl]
  exact hk W _ (zInv_keep h hs.2)
theorem zcase_name (h : zInv W M) (hr : zHreads sc y3) (hk : zHrest h18 y3) : zS (lQ_law_c498 sc h18 y3 M) (fun r => r.1 = 1) := by
  obtain ⟨a1, e1, b1⟩ := hr 1 (by omega) (by omega)
  obtain ⟨a2, e2, b2⟩ := hr 2 (by omega) (by omega)
  have q : zQ0 (lX_name a1 a2 M) (lm_name a1 a2 M) := q_name h
  unfold lQ_law_c498
  refine zS_b e1 ?_
  refine zS_b e2 ?_
  obtain ⟨V, hf, hg⟩ := q
  refine zS_m hf (fun v hv => ?_)
  refine zS_b e1 ?_
  refine zS_b e2 ?_
  refine zS_m hg (fun s hs => ?_)
  rw [hv, hs, if_pos rfl]
  exact hk W M h
theorem zcase_walk (h : zInv W M) (hr : zHreads sc y3) (hk : zHrest h18 y3) : zS (lQ_law_c531 sc h18 y3 M) (fun r => r.1 = 1) := by
  obtain ⟨a1, e1, b1⟩ := hr 1 (by omega) (by omega)
  obtain ⟨a2, e2, b2⟩ := hr 2 (by omega) (by omega)
  have q : zQ0 (lX_walk a1 a2 M) (lm_walk a1 a2 M) := q_walk h
  unfold lQ_law_c531
  refine zS_b e1 ?_
  refine zS_b e2 ?_
  obtain ⟨V, hf, hg⟩ := q
  refine zS_m hf (fun v hv => ?_)
  refine zS_b e1 ?_
  refine zS_b e2 ?_
  refine zS_m hg (fun s hs => ?_)
  rw [hv, hs, if_pos rfl]
  exact hk W M h
theorem zcase_contract (h : zInv W M) (hr : zHreads sc y3) (hk : zHrest h18 y3) : zS (lQ_law_c564 sc h18 y3 M) (fun r => r.1 = 1) := by
  obtain ⟨a1, e1, b1⟩ := hr 1 (by omega) (by omega)
  have q : zQ0 (lX_contract a1 M) (lm_contract a1 M) := q_contract h
  unfold lQ_law_c564
  refine zS_b e1 ?_
  obtain ⟨V, hf, hg⟩ := q
  refine zS_m hf (fun v hv => ?_)
  refine zS_b e1 ?_
  refine zS_m hg (fun s hs => ?_)
  rw [hv, hs, if_pos rfl]
  exact hk W M h
theorem zcase_at (h : zInv W M) (hr : zHreads sc y3) (hk : zHrest h18 y3) : zS (lQ_law_c587 sc h18 y3 M) (fun r => r.1 = 1) := by
  obtain ⟨a1, e1, b1⟩ := hr 1 (by omega) (by omega)
  obtain ⟨a2, e2, b2⟩ := hr 2 (by omega) (by omega)
  have q : zQ1 M (lX_at a1 a2 M) (lm_at a1 a2 M) := q_at h
  unfold lQ_law_c587
  refine zS_b e1 ?_
  refine zS_b e2 ?_
  obtain ⟨V, hf, hg⟩ := q
  refine zS_m hf (fun v hv => ?_)
  refine zS_b e1 ?_
  refine zS_b e2 ?_
  refine zS_m hg (fun s hs => ?_)
  rw [hv, hs.1, if_pos rfl]
  exact hk W _ (zInv_keep h hs.2)
theorem zcase_ink (h : zInv W M) (hr : zHreads sc y3) (hk : zHrest h18 y3) : zS (lQ_law_c620 sc h18 y3 M) (fun r => r.1 = 1) := by
  obtain ⟨a1, e1, b1⟩ := hr 1 (by omega) (by omega)
  obtain ⟨a2, e2, b2⟩ := hr 2 (by omega) (by omega)
  have q : zQ1 M (lX_ink a1 a2 M) (lm_ink a1 a2 M) := q_ink h
  unfold lQ_law_c620
  refine zS_b e1 ?_
  refine zS_b e2 ?_
  obtain ⟨V, hf, hg⟩ := q
  refine zS_m hf (fun v hv => ?_)
  refine zS_b e1 ?_
  refine zS_b e2 ?_
  refine zS_m hg (fun s hs => ?_)
  rw [hv, hs.1, if_pos rfl]
  exact hk W _ (zInv_keep h hs.2)
theorem zcase_awake (h : zInv W M) (hr : zHreads sc y3) (hk : zHrest h18 y3) : zS (lQ_law_c653 sc h18 y3 M) (fun r => r.1 = 1) := by
  obtain ⟨a1, e1, b1⟩ := hr 1 (by omega) (by omega)
  have q : zQ1 M (lX_awake a1 M) (lm_awake a1 M) := q_awake h
  unfold lQ_law_c653
  refine zS_b e1 ?_
  obtain ⟨V, hf, hg⟩ := q
  refine zS_m hf (fun v hv => ?_)
  refine zS_b e1 ?_
  refine zS_m hg (fun s hs => ?_)
  rw [hv, hs.1, if_pos rfl]
  exact hk W _ (zInv_keep h hs.2)
theorem zcase_here (h : zInv W M) (hr : zHreads sc y3) (hk : zHrest h18 y3) : zS (lQ_law_c676 sc h18 y3 M) (fun r => r.1 = 1) := by
  obtain ⟨a1, e1, b1⟩ := hr 1 (by omega) (by omega)
  obtain ⟨a2, e2, b2⟩ := hr 2 (by omega) (by omega)
  have q : zQ1 M (lX_here a1 a2 M) (lm_here a1 a2 M) := q_here h
  unfold lQ_law_c676
  refine zS_b e1 ?_
  refine zS_b e2 ?_
  obtain ⟨V, hf, hg⟩ := q
  refine zS_m hf (fun v hv => ?_)
  refine zS_b e1 ?_
  refine zS_b e2 ?_
  refine zS_m hg (fun s hs => ?_)
  rw [hv, hs.1, if_pos rfl]
  exact hk W _ (zInv_keep h hs.2)
theorem zcase_sleeps (h : zInv W M) (hr : zHreads sc y3) (hk : zHrest h18 y3) : zS (lQ_law_c709 sc h18 y3 M) (fun r => r.1 = 1) := by
  obtain ⟨a1, e1, b1⟩ := hr 1 (by omega) (by omega)
  have q : zQ1 M (lX_sleeps a1 M) (lm_sleeps a1 M) := q_sleeps h
  unfold lQ_law_c709
  refine zS_b e1 ?_
  obtain ⟨V, hf, hg⟩ := q
  refine zS_m hf (fun v hv => ?_)
  refine zS_b e1 ?_
  refine zS_m hg (fun s hs => ?_)
  rw [hv, hs.1, if_pos rfl]
  exact hk W _ (zInv_keep h hs.2)
theorem zcase_goes (h : zInv W M) (hr : zHreads sc y3) (hk : zHrest h18 y3) : zS (lQ_law_c732 sc h18 y3 M) (fun r => r.1 = 1) := by
  obtain ⟨a1, e1, b1⟩ := hr 1 (by omega) (by omega)
  have q : zQ1 M (lX_goes a1 M) (lm_goes a1 M) := q_goes h
  unfold lQ_law_c732
  refine zS_b e1 ?_
  obtain ⟨V, hf, hg⟩ := q
  refine zS_m hf (fun v hv => ?_)
  refine zS_b e1 ?_
  refine zS_m hg (fun s hs => ?_)
  rw [hv, hs.1, if_pos rfl]
  exact hk W _ (zInv_keep h hs.2)
theorem zcase_stuck (h : zInv W M) (hr : zHreads sc y3) (hk : zHrest h18 y3) : zS (lQ_law_c755 sc h18 y3 M) (fun r => r.1 = 1) := by
  obtain ⟨a1, e1, b1⟩ := hr 1 (by omega) (by omega)
  have q : zQ1 M (lX_stuck a1 M) (lm_stuck a1 M) := q_stuck h
  unfold lQ_law_c755
  refine zS_b e1 ?_
  obtain ⟨V, hf, hg⟩ := q
  refine zS_m hf (fun v hv => ?_)
  refine zS_b e1 ?_
  refine zS_m hg (fun s hs => ?_)
  rw [hv, hs.1, if_pos rfl]
  exact hk W _ (zInv_keep h hs.2)
theorem zcase_sees (h : zInv W M) (hr : zHreads sc y3) (hk : zHrest h18 y3) : zS (lQ_law_c778 sc h18 y3 M) (fun r => r.1 = 1) := by
  obtain ⟨a1, e1, b1⟩ := hr 1 (by omega) (by omega)
  have q : zQ1 M (lX_sees a1 M) (lm_sees a1 M) := q_sees h
  unfold lQ_law_c778
  refine zS_b e1 ?_
  obtain ⟨V, hf, hg⟩ := q
  refine zS_m hf (fun v hv => ?_)
  refine zS_b e1 ?_
  refine zS_m hg (fun s hs => ?_)
  rw [hv, hs.1, if_pos rfl]
  exact hk W _ (zInv_keep h hs.2)
theorem zcase_drinks (h : zInv W M) (hr : zHreads sc y3) (hk : zHrest h18 y3) : zS (lQ_law_c801 sc h18 y3 M) (fun r => r.1 = 1) := by
  obtain ⟨a1, e1, b1⟩ := hr 1 (by omega) (by omega)
  have q : zQ1 M (lX_drinks a1 M) (lm_drinks a1 M) := q_drinks h
  unfold lQ_law_c801
  refine zS_b e1 ?_
  obtain ⟨V, hf, hg⟩ := q
  refine zS_m hf (fun v hv => ?_)
  refine zS_b e1 ?_
  refine zS_m hg (fun s hs => ?_)
  rw [hv, hs.1, if_pos rfl]
  exact hk W _ (zInv_keep h hs.2)
theorem zcase_signed (h : zInv W M) (hr : zHreads sc y3) (hk : zHrest h18 y3) : zS (lQ_law_c824 sc h18 y3 M) (fun r => r.1 = 1) := by
  obtain ⟨a1, e1, b1⟩ := hr 1 (by omega) (by omega)
  have q : zQ1 M (lX_signed a1 M) (lm_signed a1 M) := q_signed h
  unfold lQ_law_c824
  refine zS_b e1 ?_
  obtain ⟨V, hf, hg⟩ := q
  refine zS_m hf (fun v hv => ?_)
  refine zS_b e1 ?_
  refine zS_m hg (fun s hs => ?_)
  rw [hv, hs.1, if_pos rfl]
  exact hk W _ (zInv_keep h hs.2)
theorem zcase_where (h : zInv W M) (hr : zHreads sc y3) (hk : zHrest h18 y3) : zS (lQ_law_c847 sc h18 y3 M) (fun r => r.1 = 1) := by
  obtain ⟨a1, e1, b1⟩ := hr 1 (by omega) (by omega)
  have q : zQ1 M (lX_where a1 M) (lm_where a1 M) := q_where h
  unfold lQ_law_c847
  refine zS_b e1 ?_
  obtain ⟨V, hf, hg⟩ := q
  refine zS_m hf (fun v hv => ?_)
  refine zS_b e1 ?_
  refine zS_m hg (fun s hs => ?_)
  rw [hv, hs.1, if_pos rfl]
  exact hk W _ (zInv_keep h hs.2)
theorem zcase_signs (h : zInv W M) (hr : zHreads sc y3) (hk : zHrest h18 y3) : zS (lQ_law_c870 sc h18 y3 M) (fun r => r.1 = 1) := by
  obtain ⟨a1, e1, b1⟩ := hr 1 (by omega) (by omega)
  have q : zQ1 M (lX_signs a1 M) (lm_signs a1 M) := q_signs h
  unfold lQ_law_c870
  refine zS_b e1 ?_
  obtain ⟨V, hf, hg⟩ := q
  refine zS_m hf (fun v hv => ?_)
  refine zS_b e1 ?_
  refine zS_m hg (fun s hs => ?_)
  rw [hv, hs.1, if_pos rfl]
  exact hk W _ (zInv_keep h hs.2)
theorem zcase_deeds (h : zInv W M) (hr : zHreads sc y3) (hk : zHrest h18 y3) : zS (lQ_law_c893 sc h18 y3 M) (fun r => r.1 = 1) := by
  obtain ⟨a1, e1, b1⟩ := hr 1 (by omega) (by omega)
  have q : zQ1 M (lX_deeds a1 M) (lm_deeds a1 M) := q_deeds h
  unfold lQ_law_c893
  refine zS_b e1 ?_
  obtain ⟨V, hf, hg⟩ := q
  refine zS_m hf (fun v hv => ?_)
  refine zS_b e1 ?_
  refine zS_m hg (fun s hs => ?_)
  rw [hv, hs.1, if_pos rfl]
  exact hk W _ (zInv_keep h hs.2)
theorem zcase_meets (h : zInv W M) (hr : zHreads sc y3) (hk : zHrest h18 y3) : zS (lQ_law_c916 sc h18 y3 M) (fun r => r.1 = 1) := by
  obtain ⟨a1, e1, b1⟩ := hr 1 (by omega) (by omega)
  obtain ⟨a2, e2, b2⟩ := hr 2 (by omega) (by omega)
  have q : zQ1 M (lX_meets a1 a2 M) (lm_meets a1 a2 M) := q_meets h
  unfold lQ_law_c916
  refine zS_b e1 ?_
  refine zS_b e2 ?_
  obtain ⟨V, hf, hg⟩ := q
  refine zS_m hf (fun v hv => ?_)
  refine zS_b e1 ?_
  refine zS_b e2 ?_
  refine zS_m hg (fun s hs => ?_)
  rw [hv, hs.1, if_pos rfl]
  exact hk W _ (zInv_keep h hs.2)
theorem zcase_often (h : zInv W M) (hr : zHreads sc y3) (hk : zHrest h18 y3) : zS (lQ_law_c949 sc h18 y3 M) (fun r => r.1 = 1) := by
  obtain ⟨a1, e1, b1⟩ := hr 1 (by omega) (by omega)
  obtain ⟨a2, e2, b2⟩ := hr 2 (by omega) (by omega)
  have q : zQ1 M (lX_often a1 a2 M) (lm_often a1 a2 M) := q_often h
  unfold lQ_law_c949
  refine zS_b e1 ?_
  refine zS_b e2 ?_
  obtain ⟨V, hf, hg⟩ := q
  refine zS_m hf (fun v hv => ?_)
  refine zS_b e1 ?_
  refine zS_b e2 ?_
  refine zS_m hg (fun s hs => ?_)
  rw [hv, hs.1, if_pos rfl]
  exact hk W _ (zInv_keep h hs.2)
theorem zcase_pack (h : zInv W M) (hr : zHreads sc y3) (hk : zHrest h18 y3) : zS (lQ_law_c982 sc h18 y3 M) (fun r => r.1 = 1) := by
  have q : zQ1 M (lX_pack M) (lm_pack M) := q_pack h
  unfold lQ_law_c982
  obtain ⟨V, hf, hg⟩ := q
  refine zS_m hf (fun v hv => ?_)
  refine zS_m hg (fun s hs => ?_)
  rw [hv, hs.1, if_pos rfl]
  exact hk W _ (zInv_keep h hs.2)
theorem zcase_busy (h : zInv W M) (hr : zHreads sc y3) (hk : zHrest h18 y3) : zS (lQ_law_c995 sc h18 y3 M) (fun r => r.1 = 1) := by
  have q : zQ1 M (lX_busy M) (lm_busy M) := q_busy h
  unfold lQ_law_c995
  obtain ⟨V, hf, hg⟩ := q
  refine zS_m hf (fun v hv => ?_)
  refine zS_m hg (fun s hs => ?_)
  rw [hv, hs.1, if_pos rfl]
  exact hk W _ (zInv_keep h hs.2)
theorem zcase_lone (h : zInv W M) (hr : zHreads sc y3) (hk : zHrest h18 y3) : zS (lQ_law_c1008 sc h18 y3 M) (fun r => r.1 = 1) := by
  obtain ⟨a1, e1, b1⟩ := hr 1 (by omega) (by omega)
  have q : zQ1 M (lX_lone a1 M) (lm_lone a1 M) := q_lone h
  unfold lQ_law_c1008
  refine zS_b e1 ?_
  obtain ⟨V, hf, hg⟩ := q
  refine zS_m hf (fun v hv => ?_)
  refine zS_b e1 ?_
  refine zS_m hg (fun s hs => ?_)
  rw [hv, hs.1, if_pos rfl]
  exact hk W _ (zInv_keep h hs.2)
theorem zcase_total (h : zInv W M) (hr : zHreads sc y3) (hk : zHrest h18 y3) : zS (lQ_law_c1031 sc h18 y3 M) (fun r => r.1 = 1) := by
  obtain ⟨a1, e1, b1⟩ := hr 1 (by omega) (by omega)
  have q : zQ1 M (lX_total a1 M) (lm_total a1 M) := q_total h
  unfold lQ_law_c1031
  refine zS_b e1 ?_
  obtain ⟨V, hf, hg⟩ := q
  refine zS_m hf (fun v hv => ?_)
  refine zS_b e1 ?_
  refine zS_m hg (fun s hs => ?_)
  rw [hv, hs.1, if_pos rfl]
  exact hk W _ (zInv_keep h hs.2)
theorem zcase_first (h : zInv W M) (hr : zHreads sc y3) (hk : zHrest h18 y3) : zS (lQ_law_c1054 sc h18 y3 M) (fun r => r.1 = 1) := by
  have q : zQ1 M (lX_first M) (lm_first M) := q_first h
  unfold lQ_law_c1054
  obtain ⟨V, hf, hg⟩ := q
  refine zS_m hf (fun v hv => ?_)
  refine zS_m hg (fun s hs => ?_)
  rw [hv, hs.1, if_pos rfl]
  exact hk W _ (zInv_keep h hs.2)
theorem zcase_lies (h : zInv W M) (hr : zHreads sc y3) (hk : zHrest h18 y3) : zS (lQ_law_c1067 sc h18 y3 M) (fun r => r.1 = 1) := by
  obtain ⟨a1, e1, b1⟩ := hr 1 (by omega) (by omega)
  have q : zQ1 M (lX_lies a1 M) (lm_lies a1 M) := q_lies h
  unfold lQ_law_c1067
  refine zS_b e1 ?_
  obtain ⟨V, hf, hg⟩ := q
  refine zS_m hf (fun v hv => ?_)
  refine zS_b e1 ?_
  refine zS_m hg (fun s hs => ?_)
  rw [hv, hs.1, if_pos rfl]
  exact hk W _ (zInv_keep h hs.2)
theorem zcase_thirst (h : zInv W M) (hr : zHreads sc y3) (hk : zHrest h18 y3) : zS (lQ_law_c1090 sc h18 y3 M) (fun r => r.1 = 1) := by
  have q : zQ1 M (lX_thirst M) (lm_thirst M) := q_thirst h
  unfold lQ_law_c1090
  obtain ⟨V, hf, hg⟩ := q
  refine zS_m hf (fun v hv => ?_)
  refine zS_m hg (fun s hs => ?_)
  rw [hv, hs.1, if_pos rfl]
  exact hk W _ (zInv_keep h hs.2)
theorem zcase_way (h : zInv W M) (hr : zHreads sc y3) (hk : zHrest h18 y3) : zS (lQ_law_c1103 sc h18 y3 M) (fun r => r.1 = 1) := by
  obtain ⟨a1, e1, b1⟩ := hr 1 (by omega) (by omega)
  obtain ⟨a2, e2, b2⟩ := hr 2 (by omega) (by omega)
  have q : zQ1 M (lX_way a1 a2 M) (lm_way a1 a2 M) := q_way h
  unfold lQ_law_c1103
  refine zS_b e1 ?_
  refine zS_b e2 ?_
  obtain ⟨V, hf, hg⟩ := q
  refine zS_m hf (fun v hv => ?_)
  refine zS_b e1 ?_
  refine zS_b e2 ?_
  refine zS_m hg (fun s hs => ?_)
  rw [hv, hs.1, if_pos rfl]
  exact hk W _ (zInv_keep h hs.2)
theorem zcase_reach (h : zInv W M) (hr : zHreads sc y3) (hk : zHrest h18 y3) : zS (lQ_law_c1136 sc h18 y3 M) (fun r => r.1 = 1) := by
  obtain ⟨a1, e1, b1⟩ := hr 1 (by omega) (by omega)
  have q : zQ1 M (lX_reach a1 M) (lm_reach a1 M) := q_reach h
  unfold lQ_law_c1136
  refine zS_b e1 ?_
  obtain ⟨V, hf, hg⟩ := q
  refine zS_m hf (fun v hv => ?_)
  refine zS_b e1 ?_
  refine zS_m hg (fun s hs => ?_)
  rw [hv, hs.1, if_pos rfl]
  exact hk W _ (zInv_keep h hs.2)
theorem zcase_soon (h : zInv W M) (hr : zHreads sc y3) (hk : zHrest h18 y3) : zS (lQ_law_c1159 sc h18 y3 M) (fun r => r.1 = 1) := by
  obtain ⟨a1, e1, b1⟩ := hr 1 (by omega) (by omega)
  obtain ⟨a2, e2, b2⟩ := hr 2 (by omega) (by omega)
  have q : zQ1 M (lX_soon a1 a2 M) (lm_soon a1 a2 M) := q_soon h
  unfold lQ_law_c1159
  refine zS_b e1 ?_
  refine zS_b e2 ?_
  obtain ⟨V, hf, hg⟩ := q
  refine zS_m hf (fun v hv => ?_)
  refine zS_b e1 ?_
  refine zS_b e2 ?_
  refine zS_m hg (fun s hs => ?_)
  rw [hv, hs.1, if_pos rfl]
  exact hk W _ (zInv_keep h hs.2)
theorem zcase_gather (h : zInv W M) (hr : zHreads sc y3) (hk : zHrest h18 y3) : zS (lQ_law_c1192 sc h18 y3 M) (fun r => r.1 = 1) := by
  obtain ⟨a1, e1, b1⟩ := hr 1 (by omega) (by omega)
  have q : zQ1 M (lX_gather a1 M) (lm_gather a1 M) := q_gather h
  unfold lQ_law_c1192
  refine zS_b e1 ?_
  obtain ⟨V, hf, hg⟩ := q
  refine zS_m hf (fun v hv => ?_)
  refine zS_b e1 ?_
  refine zS_m hg (fun s hs => ?_)
  rw [hv, hs.1, if_pos rfl]
  exact hk W _ (zInv_keep h hs.2)
theorem zcase_hall (h : zInv W M) (hr : zHreads sc y3) (hk : zHrest h18 y3) : zS (lQ_law_c1215 sc h18 y3 M) (fun r => r.1 = 1) := by
  obtain ⟨a1, e1, b1⟩ := hr 1 (by omega) (by omega)
  have q : zQ1 M (lX_hall a1 M) (lm_hall a1 M) := q_hall h
  unfold lQ_law_c1215
  refine zS_b e1 ?_
  obtain ⟨V, hf, hg⟩ := q
  refine zS_m hf (fun v hv => ?_)
  refine zS_b e1 ?_
  refine zS_m hg (fun s hs => ?_)
  rw [hv, hs.1, if_pos rfl]
  exact hk W _ (zInv_keep h hs.2)
theorem zcase_cut (h : zInv W M) (hr : zHreads sc y3) (hk : zHrest h18 y3) : zS (lQ_law_c1238 sc h18 y3 M) (fun r => r.1 = 1) := by
  obtain ⟨a1, e1, b1⟩ := hr 1 (by omega) (by omega)
  obtain ⟨a2, e2, b2⟩ := hr 2 (by omega) (by omega)
  have q : zQ2 M (lX_cut a1 a2) (lm_cut a1 a2) := q_cut h
  unfold lQ_law_c1238
  refine zS_b e1 ?_
  refine zS_b e2 ?_
  obtain ⟨V, hf, hg⟩ := q
  refine zS_m hf (fun v hv => ?_)
  refine zS_b e1 ?_
  refine zS_b e2 ?_
  refine zS_m (hg v.2 hv.2) (fun s hs => ?_)
  rw [hv.1, hs.1, if_pos rfl]
  exact hk W _ (zInv_keep h (zKeep_t hv.2 hs.2))
theorem zcase_cuts (h : zInv W M) (hr : zHreads sc y3) (hk : zHrest h18 y3) : zS (lQ_law_c1271 sc h18 y3 M) (fun r => r.1 = 1) := by
  obtain ⟨a1, e1, b1⟩ := hr 1 (by omega) (by omega)
  obtain ⟨a2, e2, b2⟩ := hr 2 (by omega) (by omega)
  have q : zQ2 M (lX_cuts a1 a2) (lm_cuts a1 a2) := q_cuts h
  unfold lQ_law_c1271
  refine zS_b e1 ?_
  refine zS_b e2 ?_
  obtain ⟨V, hf, hg⟩ := q
  refine zS_m hf (fun v hv => ?_)
  refine zS_b e1 ?_
  refine zS_b e2 ?_
  refine zS_m (hg v.2 hv.2) (fun s hs => ?_)
  rw [hv.1, hs.1, if_pos rfl]
  exact hk W _ (zInv_keep h (zKeep_t hv.2 hs.2))
theorem zcase_by (h : zInv W M) (hr : zHreads sc y3) (hk : zHrest h18 y3) : zS (lQ_law_c1304 sc h18 y3 M) (fun r => r.1 = 1) := by
  obtain ⟨a1, e1, b1⟩ := hr 1 (by omega) (by omega)
  have q : zQ2 M (lX_by a1) (lm_by a1) := q_by h
  unfold lQ_law_c1304
  refine zS_b e1 ?_
  obtain ⟨V, hf, hg⟩ := q
  refine zS_m hf (fun v hv => ?_)
  refine zS_b e1 ?_
  refine zS_m (hg v.2 hv.2) (fun s hs => ?_)
  rw [hv.1, hs.1, if_pos rfl]
  exact hk W _ (zInv_keep h (zKeep_t hv.2 hs.2))
theorem zcase_law (h : zInv W M) (hr : zHreads sc y3) (hk : zHrest h18 y3) : zS (lQ_law_c1327 sc h18 y3 M) (fun r => r.1 = 1) := by
  have q : zQ2 M (lX_law) (lm_law) := q_law h
  unfold lQ_law_c1327
  obtain ⟨V, hf, hg⟩ := q
  refine zS_m hf (fun v hv => ?_)
  refine zS_m (hg v.2 hv.2) (fun s hs => ?_)
  rw [hv.1, hs.1, if_pos rfl]
  exact hk W _ (zInv_keep h (zKeep_t hv.2 hs.2))
theorem zcase_needs (h : zInv W M) (hr : zHreads sc y3) (hk : zHrest h18 y3) : zS (lQ_law_c1340 sc h18 y3 M) (fun r => r.1 = 1) := by
  obtain ⟨a1, e1, b1⟩ := hr 1 (by omega) (by omega)
  have q : zQ2 M (lX_needs a1) (lm_needs_279 a1) := q_needs h
  unfold lQ_law_c1340
  refine zS_b e1 ?_
  obtain ⟨V, hf, hg⟩ := q
  refine zS_m hf (fun v hv => ?_)
  refine zS_b e1 ?_
  refine zS_m (hg v.2 hv.2) (fun s hs => ?_)
  rw [hv.1, hs.1, if_pos rfl]
  exact hk W _ (zInv_keep h (zKeep_t hv.2 hs.2))
theorem zcase_lives (h : zInv W M) (hr : zHreads sc y3) (hk : zHrest h18 y3) : zS (lQ_law_c1363 sc h18 y3 M) (fun r => r.1 = 1) := by
  obtain ⟨a1, e1, b1⟩ := hr 1 (by omega) (by omega)
  have q : zQ2 M (lX_lives a1) (lm_lives a1) := q_lives h
  unfold lQ_law_c1363
  refine zS_b e1 ?_
  obtain ⟨V, hf, hg⟩ := q
  refine zS_m hf (fun v hv => ?_)
  refine zS_b e1 ?_
  refine zS_m (hg v.2 hv.2) (fun s hs => ?_)
  rw [hv.1, hs.1, if_pos rfl]
  exact hk W _ (zInv_keep h (zKeep_t hv.2 hs.2))
theorem zcase_dig (h : zInv W M) (hr : zHreads sc y3) (hk : zHrest h18 y3) : zS (lQ_law_c1386 sc h18 y3 M) (fun r => r.1 = 1) := by
  have q : zQ2 M (lX_dig) (lm_dig) := q_dig h
  unfold lQ_law_c1386
  obtain ⟨V, hf, hg⟩ := q
  refine zS_m hf (fun v hv => ?_)
  refine zS_m (hg v.2 hv.2) (fun s hs => ?_)
  rw [hv.1, hs.1, if_pos rfl]
  exact hk W _ (zInv_keep h (zKeep_t hv.2 hs.2))
theorem zcase_shut (h : zInv W M) (hr : zHreads sc y3) (hk : zHrest h18 y3) : zS (lQ_law_c1399 sc h18 y3 M) (fun r => r.1 = 1) := by
  have q : zQ2 M (lX_shut) (lm_shut) := q_shut h
  unfold lQ_law_c1399
  obtain ⟨V, hf, hg⟩ := q
  refine zS_m hf (fun v hv => ?_)
  refine zS_m (hg v.2 hv.2) (fun s hs => ?_)
  rw [hv.1, hs.1, if_pos rfl]
  exact hk W _ (zInv_keep h (zKeep_t hv.2 hs.2))
theorem zcase_homes (h : zInv W M) (hr : zHreads sc y3) (hk : zHrest h18 y3) : zS (lQ_law_c1412 sc h18 y3 M) (fun r => r.1 = 1) := by
  obtain ⟨a1, e1, b1⟩ := hr 1 (by omega) (by omega)
  obtain ⟨a2, e2, b2⟩ := hr 2 (by omega) (by omega)
  have q : zQ2 M (lX_homes a1 a2) (lm_homes a1 a2) := q_homes h
  unfold lQ_law_c1412
  refine zS_b e1 ?_
  refine zS_b e2 ?_
  obtain ⟨V, hf, hg⟩ := q
  refine zS_m hf (fun v hv => ?_)
  refine zS_b e1 ?_
  refine zS_b e2 ?_
  refine zS_m (hg v.2 hv.2) (fun s hs => ?_)
  rw [hv.1, hs.1, if_pos rfl]
  exact hk W _ (zInv_keep h (zKeep_t hv.2 hs.2))
theorem zcase_ask (h : zInv W M) (hr : zHreads sc y3) (hk : zHrest h18 y3) : zS (lQ_law_c1445 sc h18 y3 M) (fun r => r.1 = 1) := by
  obtain ⟨a1, e1, b1⟩ := hr 1 (by omega) (by omega)
  obtain ⟨a2, e2, b2⟩ := hr 2 (by omega) (by omega)
  have q : zQ2 M (lX_ask a1 a2) (lm_ask a1 a2) := q_ask h
  unfold lQ_law_c1445
  refine zS_b e1 ?_
  refine zS_b e2 ?_
  obtain ⟨V, hf, hg⟩ := q
  refine zS_m hf (fun v hv => ?_)
  refine zS_b e1 ?_
  refine zS_b e2 ?_
  refine zS_m (hg v.2 hv.2) (fun s hs => ?_)
  rw [hv.1, hs.1, if_pos rfl]
  exact hk W _ (zInv_keep h (zKeep_t hv.2 hs.2))
theorem zcase_leaves (h : zInv W M) (hr : zHreads sc y3) (hk : zHrest h18 y3) : zS (lQ_law_c1478 sc h18 y3 M) (fun r => r.1 = 1) := by
  obtain ⟨a1, e1, b1⟩ := hr 1 (by omega) (by omega)
  obtain ⟨a2, e2, b2⟩ := hr 2 (by omega) (by omega)
  have q : zQ2 M (lX_leaves a1 a2) (lm_leaves a1 a2) := q_leaves h
  unfold lQ_law_c1478
  refine zS_b e1 ?_
  refine zS_b e2 ?_
  obtain ⟨V, hf, hg⟩ := q
  refine zS_m hf (fun v hv => ?_)
  refine zS_b e1 ?_
  refine zS_b e2 ?_
  refine zS_m (hg v.2 hv.2) (fun s hs => ?_)
  rw [hv.1, hs.1, if_pos rfl]
  exact hk W _ (zInv_keep h (zKeep_t hv.2 hs.2))
theorem zcase_sniffs (h : zInv W M) (hr : zHreads sc y3) (hk : zHrest h18 y3) : zS (lQ_law_c1511 sc h18 y3 M) (fun r => r.1 = 1) := by
  obtain ⟨a1, e1, b1⟩ := hr 1 (by omega) (by omega)
  have q : zQ0 (lX_sniffs a1 M) (lm_sniffs a1 M) := q_sniffs h
  unfold lQ_law_c1511
  refine zS_b e1 ?_
  obtain ⟨V, hf, hg⟩ := q
  refine zS_m hf (fun v hv => ?_)
  refine zS_b e1 ?_
  refine zS_m hg (fun s hs => ?_)
  rw [hv, hs, if_pos rfl]
  exact hk W M h
theorem zcase_next (h : zInv W M) (hr : zHreads sc y3) (hk : zHrest h18 y3) : zS (lQ_law_c1534 sc h18 y3 M) (fun r => r.1 = 1) := by
  obtain ⟨a1, e1, b1⟩ := hr 1 (by omega) (by omega)
  have q : zQ0 (lX_next a1 M) (lm_next a1 M) := q_next h
  unfold lQ_law_c1534
  refine zS_b e1 ?_
  obtain ⟨V, hf, hg⟩ := q
  refine zS_m hf (fun v hv => ?_)
  refine zS_b e1 ?_
  refine zS_m hg (fun s hs => ?_)
  rw [hv, hs, if_pos rfl]
  exact hk W M h
theorem zcase_worth (h : zInv W M) (hr : zHreads sc y3) (hk : zHrest h18 y3) : zS (lQ_law_c1557 sc h18 y3 M) (fun r => r.1 = 1) := by
  obtain ⟨a1, e1, b1⟩ := hr 1 (by omega) (by omega)
  have q : zQ0 (lX_worth a1 M) (lm_worth a1 M) := q_worth h
  unfold lQ_law_c1557
  refine zS_b e1 ?_
  obtain ⟨V, hf, hg⟩ := q
  refine zS_m hf (fun v hv => ?_)
  refine zS_b e1 ?_
  refine zS_m hg (fun s hs => ?_)
  rw [hv, hs, if_pos rfl]
  exact hk W M h
theorem zcase_share (h : zInv W M) (hr : zHreads sc y3) (hk : zHrest h18 y3) : zS (lQ_law_c1580 sc h18 y3 M) (fun r => r.1 = 1) := by
  obtain ⟨a1, e1, b1⟩ := hr 1 (by omega) (by omega)
  obtain ⟨a2, e2, b2⟩ := hr 2 (by omega) (by omega)
  have q : zQ0 (lX_share a1 a2 M) (lm_share a1 a2 M) := q_share h
  unfold lQ_law_c1580
  refine zS_b e1 ?_
  refine zS_b e2 ?_
  obtain ⟨V, hf, hg⟩ := q
  refine zS_m hf (fun v hv => ?_)
  refine zS_b e1 ?_
  refine zS_b e2 ?_
  refine zS_m hg (fun s hs => ?_)
  rw [hv, hs, if_pos rfl]
  exact hk W M h
theorem zcase_rests (h : zInv W M) (hr : zHreads sc y3) (hk : zHrest h18 y3) : zS (lQ_law_c1613 sc h18 y3 M) (fun r => r.1 = 1) := by
  obtain ⟨a1, e1, b1⟩ := hr 1 (by omega) (by omega)
  obtain ⟨a2, e2, b2⟩ := hr 2 (by omega) (by omega)
  have q : zQ2 M (lX_rests a1 a2) (lm_rests a1 a2) := q_rests h
  unfold lQ_law_c1613
  refine zS_b e1 ?_
  refine zS_b e2 ?_
  obtain ⟨V, hf, hg⟩ := q
  refine zS_m hf (fun v hv => ?_)
  refine zS_b e1 ?_
  refine zS_b e2 ?_
  refine zS_m (hg v.2 hv.2) (fun s hs => ?_)
  rw [hv.1, hs.1, if_pos rfl]
  exact hk W _ (zInv_keep h (zKeep_t hv.2 hs.2))
theorem zcase_gets (h : zInv W M) (hr : zHreads sc y3) (hk : zHrest h18 y3) : zS (lQ_law_c1646 sc h18 y3 M) (fun r => r.1 = 1) := by
  obtain ⟨a1, e1, b1⟩ := hr 1 (by omega) (by omega)
  obtain ⟨a2, e2, b2⟩ := hr 2 (by omega) (by omega)
  obtain ⟨a3, e3, b3⟩ := hr 3 (by omega) (by omega)
  obtain ⟨a4, e4, b4⟩ := hr 4 (by omega) (by omega)
  have q : zQ2 M (lX_gets a1 a2 a3 a4) (lm_gets a1 a2 a3 a4) := q_gets h
  unfold lQ_law_c1646
  refine zS_b e1 ?_
  refine zS_b e2 ?_
  refine zS_b e3 ?_
  refine zS_b e4 ?_
  obtain ⟨V, hf, hg⟩ := q
  refine zS_m hf (fun v hv => ?_)
  refine zS_b e1 ?_
  refine zS_b e2 ?_
  refine zS_b e3 ?_
  refine zS_b e4 ?_
  refine zS_m (hg v.2 hv.2) (fun s hs => ?_)
  rw [hv.1, hs.1, if_pos rfl]
  exact hk W _ (zInv_keep h (zKeep_t hv.2 hs.2))
theorem zcase_chance (h : zInv W M) (hr : zHreads sc y3) (hk : zHrest h18 y3) : zS (lQ_law_c1699 sc h18 y3 M) (fun r => r.1 = 1) := by
  obtain ⟨a1, e1, b1⟩ := hr 1 (by omega) (by omega)
  obtain ⟨a2, e2, b2⟩ := hr 2 (by omega) (by omega)
  obtain ⟨a3, e3, b3⟩ := hr 3 (by omega) (by omega)
  have q : zQ2 M (lX_chance a1 a2 a3) (lm_chance a1 a2 a3) := q_chance h
  unfold lQ_law_c1699
  refine zS_b e1 ?_
  refine zS_b e2 ?_
  refine zS_b e3 ?_
  obtain ⟨V, hf, hg⟩ := q
  refine zS_m hf (fun v hv => ?_)
  refine zS_b e1 ?_
  refine zS_b e2 ?_
  refine zS_b e3 ?_
  refine zS_m (hg v.2 hv.2) (fun s hs => ?_)
  rw [hv.1, hs.1, if_pos rfl]
  exact hk W _ (zInv_keep h (zKeep_t hv.2 hs.2))
theorem zcase_mean (h : zInv W M) (hr : zHreads sc y3) (hk : zHrest h18 y3) : zS (lQ_law_c1743 sc h18 y3 M) (fun r => r.1 = 1) := by
  obtain ⟨a1, e1, b1⟩ := hr 1 (by omega) (by omega)
  obtain ⟨a2, e2, b2⟩ := hr 2 (by omega) (by omega)
  have q : zQ2 M (lX_mean a1 a2) (lm_mean a1 a2) := q_mean h
  unfold lQ_law_c1743
  refine zS_b e1 ?_
  refine zS_b e2 ?_
  obtain ⟨V, hf, hg⟩ := q
  refine zS_m hf (fun v hv => ?_)
  refine zS_b e1 ?_
  refine zS_b e2 ?_
  refine zS_m (hg v.2 hv.2) (fun s hs => ?_)
  rw [hv.1, hs.1, if_pos rfl]
  exact hk W _ (zInv_keep h (zKeep_t hv.2 hs.2))
theorem zcase_send (h : zInv W M) (hr : zHreads sc y3) (hk : zHrest h18 y3) : zS (lQ_law_c1777 sc h18 y3 M) (fun r => r.1 = 1) := by
  obtain ⟨a1, e1, b1⟩ := hr 1 (by omega) (by omega)
  obtain ⟨a2, e2, b2⟩ := hr 2 (by omega) (by omega)
  obtain ⟨a3, e3, b3⟩ := hr 3 (by omega) (by omega)
  have q : zQ4 (lX_send a1 a2 a3) (lm_send a1 a2 a3) M := q_send h
  unfold lQ_law_c1777
  refine zS_b e1 ?_
  refine zS_b e2 ?_
  refine zS_b e3 ?_
  refine zS_m q (fun v hv => ?_)
  refine zS_b e1 ?_
  refine zS_b e2 ?_
  refine zS_b e3 ?_
  refine zS_m hv (fun s hs => ?_)
  obtain ⟨s1, W2, s2⟩ := hs
  rw [s1, if_pos rfl]
  exact hk W2 _ s2
theorem zcase_close (h : zInv W M) (hr : zHreads sc y3) (hk : zHrest h18 y3) : zS (lQ_law_c1820 sc h18 y3 M) (fun r => r.1 = 1) := by
  obtain ⟨a1, e1, b1⟩ := hr 1 (by omega) (by omega)
  obtain ⟨a2, e2, b2⟩ := hr 2 (by omega) (by omega)
  have q : zQ4 (lX_close a1 a2) (lm_close a1 a2) M := q_close h
  unfold lQ_law_c1820
  refine zS_b e1 ?_
  refine zS_b e2 ?_
  refine zS_m q (fun v hv => ?_)
  refine zS_b e1 ?_
  refine zS_b e2 ?_
  refine zS_m hv (fun s hs => ?_)
  obtain ⟨s1, W2, s2⟩ := hs
  rw [s1, if_pos rfl]
  exact hk W2 _ s2
theorem zcase_undo (h : zInv W M) (hr : zHreads sc y3) (hk : zHrest h18 y3) : zS (lQ_law_c1853 sc h18 y3 M) (fun r => r.1 = 1) := by
  have q : zQ4 (lX_undo) (lm_undo) M := q_undo h
  unfold lQ_law_c1853
  refine zS_m q (fun v hv => ?_)
  refine zS_m hv (fun s hs => ?_)
  obtain ⟨s1, W2, s2⟩ := hs
  rw [s1, if_pos rfl]
  exact hk W2 _ s2
theorem zcase_anew (h : zInv W M) (hr : zHreads sc y3) (hk : zHrest h18 y3) : zS (lQ_law_c1866 sc h18 y3 M) (fun r => r.1 = 1) := by
  have q : zQ4 (lX_anew) (lm_anew) M := q_anew h
  unfold lQ_law_c1866
  refine zS_m q (fun v hv => ?_)
  refine zS_m hv (fun s hs => ?_)
  obtain ⟨s1, W2, s2⟩ := hs
  rw [s1, if_pos rfl]
  exact hk W2 _ s2
theorem zcase_drawn (h : zInv W M) (hr : zHreads sc y3) (hk : zHrest h18 y3) : zS (lQ_law_c1879 sc h18 y3 M) (fun r => r.1 = 1) := by
  obtain ⟨a1, e1, b1⟩ := hr 1 (by omega) (by omega)
  obtain ⟨a2, e2, b2⟩ := hr 2 (by omega) (by omega)
  have q : zQ2 M (lX_drawn a1 a2) (lm_drawn a1 a2) := q_drawn h
  unfold lQ_law_c1879
  refine zS_b e1 ?_
  refine zS_b e2 ?_
  obtain ⟨V, hf, hg⟩ := q
  refine zS_m hf (fun v hv => ?_)
  refine zS_b e1 ?_
  refine zS_b e2 ?_
  refine zS_m (hg v.2 hv.2) (fun s hs => ?_)
  rw [hv.1, hs.1, if_pos rfl]
  exact hk W _ (zInv_keep h (zKeep_t hv.2 hs.2))
theorem zcase_luck (h : zInv W M) (hr : zHreads sc y3) (hk : zHrest h18 y3) : zS (lQ_law_c1912 sc h18 y3 M) (fun r => r.1 = 1) := by
  obtain ⟨a1, e1, b1⟩ := hr 1 (by omega) (by omega)
  obtain ⟨a2, e2, b2⟩ := hr 2 (by omega) (by omega)
  obtain ⟨a3, e3, b3⟩ := hr 3 (by omega) (by omega)
  have q : zQ2 M (lX_luck a1 a2 a3) (lm_luck a1 a2 a3) := q_luck h
  unfold lQ_law_c1912
  refine zS_b e1 ?_
  refine zS_b e2 ?_
  refine zS_b e3 ?_
  obtain ⟨V, hf, hg⟩ := q
  refine zS_m hf (fun v hv => ?_)
  refine zS_b e1 ?_
  refine zS_b e2 ?_
  refine zS_b e3 ?_
  refine zS_m (hg v.2 hv.2) (fun s hs => ?_)
  rw [hv.1, hs.1, if_pos rfl]
  exact hk W _ (zInv_keep h (zKeep_t hv.2 hs.2))
theorem zcase_rate (h : zInv W M) (hr : zHreads sc y3) (hk : zHrest h18 y3) : zS (lQ_law_c1955 sc h18 y3 M) (fun r => r.1 = 1) := by
  obtain ⟨a1, e1, b1⟩ := hr 1 (by omega) (by omega)
  obtain ⟨a2, e2, b2⟩ := hr 2 (by omega) (by omega)
  have q : zQ4 (lX_rate a1 a2) (lm_rate a1 a2) M := q_rate h
  unfold lQ_law_c1955
  refine zS_b e1 ?_
  refine zS_b e2 ?_
  refine zS_m q (fun v hv => ?_)
  refine zS_b e1 ?_
  refine zS_b e2 ?_
  refine zS_m hv (fun s hs => ?_)
  obtain ⟨s1, W2, s2⟩ := hs
  rw [s1, if_pos rfl]
  exact hk W2 _ s2
theorem zcase_count (h : zInv W M) (hr : zHreads sc y3) (hk : zHrest h18 y3) : zS (lQ_law_c1988 sc h18 y3 M) (fun r => r.1 = 1) := by
  obtain ⟨a1, e1, b1⟩ := hr 1 (by omega) (by omega)
  have q : zQ0 (lX_count a1 M) (lm_count a1 M) := q_count h
  unfold lQ_law_c1988
  refine zS_b e1 ?_
  obtain ⟨V, hf, hg⟩ := q
  refine zS_m hf (fun v hv => ?_)
  refine zS_b e1 ?_
  refine zS_m hg (fun s hs => ?_)
  rw [hv, hs, if_pos rfl]
  exact hk W M h
theorem zcase_image (h : zInv W M) (hr : zHreads sc y3) (hk : zHrest h18 y3) : zS (lQ_law_c2011 sc h18 y3 M) (fun r => r.1 = 1) := by
  obtain ⟨a1, e1, b1⟩ := hr 1 (by omega) (by omega)
  have q : zQ4 (lX_image a1) (lm_image a1) M := q_image h
  unfold lQ_law_c2011
  refine zS_b e1 ?_
  refine zS_m q (fun v hv => ?_)
  refine zS_b e1 ?_
  refine zS_m hv (fun s hs => ?_)
  obtain ⟨s1, W2, s2⟩ := hs
  rw [s1, if_pos rfl]
  exact hk W2 _ s2
theorem zcase_back (h : zInv W M) (hr : zHreads sc y3) (hk : zHrest h18 y3) : zS (lQ_law_c2034 sc h18 y3 M) (fun r => r.1 = 1) := by
  obtain ⟨a1, e1, b1⟩ := hr 1 (by omega) (by omega)
  have q : zQ4 (lX_back a1) (lm_back a1) M := q_back h
  unfold lQ_law_c2034
  refine zS_b e1 ?_
  refine zS_m q (fun v hv => ?_)
  refine zS_b e1 ?_
  refine zS_m hv (fun s hs => ?_)
  obtain ⟨s1, W2, s2⟩ := hs
  rw [s1, if_pos rfl]
  exact hk W2 _ s2
theorem zcase_row (h : zInv W M) (hr : zHreads sc y3) (hk : zHrest h18 y3) : zS (lQ_law_c2057 sc h18 y3 M) (fun r => r.1 = 1) := by
  obtain ⟨a1, e1, b1⟩ := hr 1 (by omega) (by omega)
  obtain ⟨a2, e2, b2⟩ := hr 2 (by omega) (by omega)
  obtain ⟨a3, e3, b3⟩ := hr 3 (by omega) (by omega)
  have q : zQ4 (lX_row a1 a2 a3) (lm_row a1 a2 a3) M := q_row h
  unfold lQ_law_c2057
  refine zS_b e1 ?_
  refine zS_b e2 ?_
  refine zS_b e3 ?_
  refine zS_m q (fun v hv => ?_)
  refine zS_b e1 ?_
  refine zS_b e2 ?_
  refine zS_b e3 ?_
  refine zS_m hv (fun s hs => ?_)
  obtain ⟨s1, W2, s2⟩ := hs
  rw [s1, if_pos rfl]
  exact hk W2 _ s2
theorem zcase_write (h : zInv W M) (hr : zHreads sc y3) (hk : zHrest h18 y3) : zS (lQ_law_c2100 sc h18 y3 M) (fun r => r.1 = 1) := by
  obtain ⟨a1, e1, b1⟩ := hr 1 (by omega) (by omega)
  obtain ⟨a2, e2, b2⟩ := hr 2 (by omega) (by omega)
  obtain ⟨a3, e3, b3⟩ := hr 3 (by omega) (by omega)
  obtain ⟨a4, e4, b4⟩ := hr 4 (by omega) (by omega)
  have q : zQ4 (lX_write a1 a2 (zorL (zshlL a3 (32 : Int)) (zandL a4 (4294967295 : Int)))) (lm_write a1 a2 (zorL (zshlL a3 (32 : Int)) (zandL a4 (4294967295 : Int)))) M := q_write h zorL_b.1 zorL_b.2
  unfold lQ_law_c2100
  refine zS_b e1 ?_
  refine zS_b e2 ?_
  refine zS_b e3 ?_
  refine zS_b e4 ?_
  refine zS_m q (fun v hv => ?_)
  refine zS_b e1 ?_
  refine zS_b e2 ?_
  refine zS_b e3 ?_
  refine zS_b e4 ?_
  refine zS_m hv (fun s hs => ?_)
  obtain ⟨s1, W2, s2⟩ := hs
  rw [s1, if_pos rfl]
  exact hk W2 _ s2
theorem zcase_paste (h : zInv W M) (hr : zHreads sc y3) (hk : zHrest h18 y3) : zS (lQ_law_c2173 sc h18 y3 M) (fun r => r.1 = 1) := by
  obtain ⟨a1, e1, b1⟩ := hr 1 (by omega) (by omega)
  obtain ⟨a2, e2, b2⟩ := hr 2 (by omega) (by omega)
  obtain ⟨a3, e3, b3⟩ := hr 3 (by omega) (by omega)
  obtain ⟨a4, e4, b4⟩ := hr 4 (by omega) (by omega)
  obtain ⟨a5, e5, b5⟩ := hr 5 (by omega) (by omega)
  have q : zQ4 (lX_paste a1 a2 a3 a4 a5) (lm_paste a1 a2 a3 a4 a5) M := q_paste h b2 b4 b5
  unfold lQ_law_c2173
  refine zS_b e1 ?_
  refine zS_b e2 ?_
  refine zS_b e3 ?_
  refine zS_b e4 ?_
  refine zS_b e5 ?_
  refine zS_m q (fun v hv => ?_)
  refine zS_b e1 ?_
  refine zS_b e2 ?_
  refine zS_b e3 ?_
  refine zS_b e4 ?_
  refine zS_b e5 ?_
  refine zS_m hv (fun s hs => ?_)
  obtain ⟨s1, W2, s2⟩ := hs
  rw [s1, if_pos rfl]
  exact hk W2 _ s2
end ZCA
