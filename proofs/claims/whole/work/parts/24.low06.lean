/-! Lifted methods 6 (written by wip/whole/lift.py): decode rows, functions, proofs. -/
def zD_327 : List (Nat × Instr × Nat) := [(0, .iload_n (1), 1), (1, .aload_n (0), 1), (2, .arraylength, 1), (3, .invokestatic (9), 3), (6, .aload_n (0), 1), (7, .iload_n (1), 1), (8, .baload, 1), (9, .sipush (255), 3), (12, .iand, 1), (13, .i2c, 1), (14, .ireturn, 1)]
set_option maxRecDepth 100000 in
theorem zD_327_ok : zDo 327 zD_327 = true := by decide +kernel
theorem zc_327 : zcls 327 = 12 := by decide +kernel
theorem zm_327 : zml 327 = 2 := by decide +kernel
theorem zt_327 : zrt 327 = (some (.char)) := by decide +kernel
theorem zk_327 : zkd 327 = 0 ∧ znp 327 = 2 := by decide +kernel
theorem zr_327 (as : List zV) : zrk 327 as = 2 := by unfold zrk; rw [if_neg (by decide)]; decide +kernel
def lL_charAt (r0 : Nat) (x1 : Int) (M : Nat → Nat → Int) : Option Int :=
    ((lnA r0).bind (fun v2 =>
    ((lS_checkIndex x1 v2 M).bind (fun u3 =>
    ((rdB r0 x1 M).bind (fun v8 =>
    (if 0 ≤ (zi2c (zand v8 (255 : Int))) ∧ (zi2c (zand v8 (255 : Int))) < 65536 then some (zi2c (zand v8 (255 : Int))) else none)))))))
set_option maxRecDepth 100000 in
theorem ok_lL_charAt {sc : zSc} {r0 : Nat} {x1 : Int} {M : Nat → Nat → Int} {P : Int → (Nat → Nat → Int) → Prop} (h : zS (lL_charAt r0 x1 M) (fun x => P x M)) : zCi sc 327 [.inr (.inr r0), .inl x1] M P := by
  have ea : zarg (zml 327) [.inr (.inr r0), .inl x1] = [some (.inr (.inr r0)), some (.inl x1)] := by rw [zm_327]; rfl
  unfold zCi zCw
  rw [ea, zr_327]
  have hq : 2 ≤ 2 := Nat.le_refl _
  unfold lL_charAt at h
  have h := zS_mono h (fun x hx => (⟨x, rfl, hx⟩ : ∃ y, (some (.inl x) : Option zV) = some (.inl y) ∧ P y M))
  skip
  refine E_iload_n (pc := 0) (zDk zD_327_ok 0 rfl) rfl ?_
  refine E_aload_n (pc := 1) (zDk zD_327_ok 1 rfl) rfl ?_
  obtain ⟨v2, e2, h⟩ := zS_bind h
  refine E_arraylength (pc := 2) (zDk zD_327_ok 2 rfl) e2 ?_
  obtain ⟨u3, e3, h⟩ := zS_bind h
  refine E_staV (pc := 3) (c := 326) (as := [.inl x1, .inl v2]) (rest := []) (zDk zD_327_ok 3 rfl) zc_327 (by decide +kernel) (by decide +kernel) zk_326 ⟨(Nat.le_of_ble_eq_true rfl), rfl, rfl⟩ (Nat.le_of_ble_eq_true rfl) (zr_326 _) (Nat.lt_of_lt_of_le (by decide) hq) (by rw [zm_326]; exact (Nat.le_of_ble_eq_true rfl)) (ok_lS_checkIndex ⟨u3, e3, ?_⟩)
  refine E_aload_n (pc := 6) (zDk zD_327_ok 4 rfl) rfl ?_
  refine E_iload_n (pc := 7) (zDk zD_327_ok 5 rfl) rfl ?_
  obtain ⟨v8, e8, h⟩ := zS_bind h
  refine E_baload (pc := 8) (zDk zD_327_ok 6 rfl) e8 ?_
  refine E_sipush (pc := 9) (zDk zD_327_ok 7 rfl) (by decide +kernel) ?_
  refine E_iand (pc := 12) (zDk zD_327_ok 8 rfl) ?_
  refine E_i2c (pc := 13) (zDk zD_327_ok 9 rfl) ?_
  obtain ⟨hx, h⟩ := zS_c h
  have h := zS_some h
  exact E_ireturnC (pc := 14) (zDk zD_327_ok 10 rfl) zt_327 hx h
def zD_9 : List (Nat × Instr × Nat) := [(0, .aload_n (0), 1), (1, .invokevirtual (75), 3), (4, .iconst (0), 1), (5, .istore_n (2), 1), (6, .iload_n (2), 1), (7, .aload_n (0), 1), (8, .getfield (38), 3), (11, .getfield (78), 3), (14, .if_icmp .ge (27), 3), (17, .aload_n (0), 1), (18, .iload_n (2), 1), (19, .iload_n (1), 1), (20, .iload_n (2), 1), (21, .ishr, 1), (22, .iconst (1), 1), (23, .iand, 1), (24, .ifCond .eq (7), 3), (27, .iconst (1), 1), (28, .goto (4), 3), (31, .iconst (0), 1), (32, .invokevirtual (81), 3), (35, .iinc (2) (1), 3), (38, .goto (-32), 3), (41, .aload_n (0), 1), (42, .getfield (31), 3), (45, .aload_n (0), 1), (46, .getfield (38), 3), (49, .getfield (78), 3), (52, .iaload, 1), (53, .invokestatic (85), 3), (56, .ireturn, 1)]
set_option maxRecDepth 100000 in
theorem zD_9_ok : zDo 9 zD_9 = true := by decide +kernel
theorem zc_9 : zcls 9 = 1 := by decide +kernel
theorem zm_9 : zml 9 = 3 := by decide +kernel
theorem zt_9 : zrt 9 = (some (.int)) := by decide +kernel
theorem zk_9 : zkd 9 = 1 ∧ znp 9 + 1 = 2 := by decide +kernel
theorem zr_9 (as : List zV) : zrk 9 as = 3 := by unfold zrk; rw [if_neg (by decide)]; decide +kernel
def lD_runAll_c6 (r0 : Nat) (x1 : Int) : Nat → Int → (Nat → Nat → Int) → Option (Int × (Nat → Nat → Int))
  | 0, _, _ => none
  | n + 1, y2, M =>
    (if y2 < (M 3 1) then
    (if (zand (zshr x1 y2) (1 : Int)) = 0 then
    ((lD_goOn r0 y2 (0 : Int) M).bind (fun M32 =>
    ((lD_runAll_c6 r0 x1 n) (w32 (y2 + 1)) M32)))
    else
    ((lD_goOn r0 y2 (1 : Int) M).bind (fun M32 =>
    ((lD_runAll_c6 r0 x1 n) (w32 (y2 + 1)) M32))))
    else
    ((rdI (r0 + 7) (M 3 1) M).bind (fun v52 =>
    ((lJ_bitCount v52 M).bind (fun v53 =>
    (some (v53, M)))))))
set_option maxRecDepth 100000 in
theorem ok_lD_runAll_c6 {sc : zSc} {q : Nat} {P : Option zV → (Nat → Nat → Int) → Prop} (hq : 3 ≤ q) (r0 : Nat) (x1 : Int) (hr0 : zis 1 r0 = true) : ∀ (n : Nat) (y2 : Int) (M : Nat → Nat → Int), zS (lD_runAll_c6 r0 x1 n y2 M) (fun r => P (some (.inl r.1)) r.2) → zWp sc q 9 6 [some (.inr (.inr r0)), some (.inl x1), some (.inl y2)] [] M P := by
  intro n
  induction n with
  | zero => intro y2 M h; exact (zS_none h).elim
  | succ n ih =>
    intro y2 M h
    rw [lD_runAll_c6] at h
    refine E_iload_n (pc := 6) (zDk zD_9_ok 4 rfl) rfl ?_
    refine E_aload_n (pc := 7) (zDk zD_9_ok 5 rfl) rfl ?_
    refine E_getR (pc := 8) (ci := 1) (f := 0) (r := 3) (zDk zD_9_ok 6 rfl) zc_9 (by decide +kernel) (by decide) hr0 (zg_1_0 hr0) (by decide) ?_
    refine E_getI (pc := 11) (ci := 6) (f := 1) (zDk zD_9_ok 7 rfl) zc_9 (by decide +kernel) (by decide) zis_6_3 ?_
    refine E_icmp (pc := 14) (t := 41) (zDk zD_9_ok 8 rfl) rfl (fun hz => ?_) (fun hz => ?_)
    · have h := zS_f h (Int.not_lt.mpr (T_ge hz))
      refine E_aload_n (pc := 41) (zDk zD_9_ok 23 rfl) rfl ?_
      refine E_getR (pc := 42) (ci := 1) (f := 7) (r := (r0 + 7)) (zDk zD_9_ok 24 rfl) zc_9 (by decide +kernel) (by decide) hr0 (zg_1_7 hr0) (zh_1_7 hr0) ?_
      refine E_aload_n (pc := 45) (zDk zD_9_ok 25 rfl) rfl ?_
      refine E_getR (pc := 46) (ci := 1) (f := 0) (r := 3) (zDk zD_9_ok 26 rfl) zc_9 (by decide +kernel) (by decide) hr0 (zg_1_0 hr0) (by decide) ?_
      refine E_getI (pc := 49) (ci := 6) (f := 1) (zDk zD_9_ok 27 rfl) zc_9 (by decide +kernel) (by decide) zis_6_3 ?_
      obtain ⟨v52, e52, h⟩ := zS_bind h
      refine E_iaload (pc := 52) (zDk zD_9_ok 28 rfl) e52 ?_
      obtain ⟨v53, e53, h⟩ := zS_bind h
      refine E_staI (pc := 53) (c := 321) (as := [.inl v52]) (rest := []) (zDk zD_9_ok 29 rfl) zc_9 (by decide +kernel) (by decide +kernel) zk_321 ⟨(Nat.le_of_ble_eq_true rfl), rfl, rfl⟩ (Nat.le_of_ble_eq_true rfl) (zr_321 _) (Nat.lt_of_lt_of_le (by decide) hq) (by rw [zm_321]; exact (Nat.le_of_ble_eq_true rfl)) (ok_lJ_bitCount ⟨v53, e53, ?_⟩)
      have h := zS_some h
      exact E_ireturn (pc := 56) (zDk zD_9_ok 30 rfl) zt_9 h
    · have h := zS_t h (F_ge hz)
      refine E_aload_n (pc := 17) (zDk zD_9_ok 9 rfl) rfl ?_
      refine E_iload_n (pc := 18) (zDk zD_9_ok 10 rfl) rfl ?_
      refine E_iload_n (pc := 19) (zDk zD_9_ok 11 rfl) rfl ?_
      refine E_iload_n (pc := 20) (zDk zD_9_ok 12 rfl) rfl ?_
      refine E_ishr (pc := 21) (zDk zD_9_ok 13 rfl) ?_
      refine E_iconst (pc := 22) (zDk zD_9_ok 14 rfl) (by decide +kernel) ?_
      refine E_iand (pc := 23) (zDk zD_9_ok 15 rfl) ?_
      refine E_if (pc := 24) (t := 31) (zDk zD_9_ok 16 rfl) rfl (fun hz => ?_) (fun hz => ?_)
      · have h := zS_t h (T_eq hz)
        refine E_iconst (pc := 31) (zDk zD_9_ok 19 rfl) (by decide +kernel) ?_
        obtain ⟨M32, e32, h⟩ := zS_bind h
        refine E_virV (pc := 32) (c := 11) (r := r0) (as := [.inl y2, .inl (0 : Int)]) (rest := []) (zDk zD_9_ok 20 rfl) zc_9 (by decide +kernel) zk_11 ⟨(Nat.le_of_ble_eq_true rfl), rfl, rfl⟩ (Nat.le_of_ble_eq_true rfl) (zr_11 _) (Nat.lt_of_lt_of_le (by decide) hq) (by rw [zm_11]; exact (Nat.le_of_ble_eq_true rfl)) ⟨zc_11, by decide⟩ hr0 (ok_lD_goOn ⟨M32, e32, ?_⟩)
        refine W_iinc (pc := 35) (L' := [some (.inr (.inr r0)), some (.inl x1), some (.inl (w32 (y2 + 1)))]) (zDk zD_9_ok 21 rfl) rfl zm_9 (by decide) rfl ?_
        refine E_goto (pc := 38) (t := 6) (zDk zD_9_ok 22 rfl) rfl ?_
        exact (ih) (w32 (y2 + 1)) M32 h
      · have h := zS_f h (F_eq hz)
        refine E_iconst (pc := 27) (zDk zD_9_ok 17 rfl) (by decide +kernel) ?_
        refine E_goto (pc := 28) (t := 32) (zDk zD_9_ok 18 rfl) rfl ?_
        obtain ⟨M32, e32, h⟩ := zS_bind h
        refine E_virV (pc := 32) (c := 11) (r := r0) (as := [.inl y2, .inl (1 : Int)]) (rest := []) (zDk zD_9_ok 20 rfl) zc_9 (by decide +kernel) zk_11 ⟨(Nat.le_of_ble_eq_true rfl), rfl, rfl⟩ (Nat.le_of_ble_eq_true rfl) (zr_11 _) (Nat.lt_of_lt_of_le (by decide) hq) (by rw [zm_11]; exact (Nat.le_of_ble_eq_true rfl)) ⟨zc_11, by decide⟩ hr0 (ok_lD_goOn ⟨M32, e32, ?_⟩)
        refine W_iinc (pc := 35) (L' := [some (.inr (.inr r0)), some (.inl x1), some (.inl (w32 (y2 + 1)))]) (zDk zD_9_ok 21 rfl) rfl zm_9 (by decide) rfl ?_
        refine E_goto (pc := 38) (t := 6) (zDk zD_9_ok 22 rfl) rfl ?_
        exact (ih) (w32 (y2 + 1)) M32 h
def lD_runAll (r0 : Nat) (x1 : Int) (M : Nat → Nat → Int) : Option (Int × (Nat → Nat → Int)) :=
    (if zis 1 r0 = true then
    ((lD_begin r0 M).bind (fun M1 =>
    (lD_runAll_c6 r0 x1 zN (0 : Int) M1)))
    else none)
set_option maxRecDepth 100000 in
theorem ok_lD_runAll {sc : zSc} {r0 : Nat} {x1 : Int} {M : Nat → Nat → Int} {P : Int → (Nat → Nat → Int) → Prop} (h : zS (lD_runAll r0 x1 M) (fun r => P r.1 r.2)) : zCi sc 9 [.inr (.inr r0), .inl x1] M P := by
  have ea : zarg (zml 9) [.inr (.inr r0), .inl x1] = [some (.inr (.inr r0)), some (.inl x1), none] := by rw [zm_9]; rfl
  unfold zCi zCw
  rw [ea, zr_9]
  have hq : 3 ≤ 3 := Nat.le_refl _
  unfold lD_runAll at h
  have h := zS_mono h (fun x hx => (⟨x.1, rfl, hx⟩ : ∃ y, (some (.inl x.1) : Option zV) = some (.inl y) ∧ P y x.2))
  obtain ⟨hr0, h⟩ := zS_c h
  skip
  refine E_aload_n (pc := 0) (zDk zD_9_ok 0 rfl) rfl ?_
  obtain ⟨M1, e1, h⟩ := zS_bind h
  refine E_virV (pc := 1) (c := 10) (r := r0) (as := []) (rest := []) (zDk zD_9_ok 1 rfl) zc_9 (by decide +kernel) zk_10 ⟨(Nat.le_of_ble_eq_true rfl), rfl, rfl⟩ (Nat.le_of_ble_eq_true rfl) (zr_10 _) (Nat.lt_of_lt_of_le (by decide) hq) (by rw [zm_10]; exact (Nat.le_of_ble_eq_true rfl)) ⟨zc_10, by decide⟩ hr0 (ok_lD_begin ⟨M1, e1, ?_⟩)
  refine E_iconst (pc := 4) (zDk zD_9_ok 2 rfl) (by decide +kernel) ?_
  refine W_istore_n (pc := 5) (L' := [some (.inr (.inr r0)), some (.inl x1), some (.inl (0 : Int))]) (zDk zD_9_ok 3 rfl) zm_9 (by decide) rfl ?_
  exact ok_lD_runAll_c6 hq r0 x1 hr0 zN (0 : Int) M1 h
def zD_140 : List (Nat × Instr × Nat) := [(0, .iload_n (1), 1), (1, .ifCond .lt (8), 3), (4, .iload_n (1), 1), (5, .iconst (3), 1), (6, .if_icmp .lt (6), 3), (9, .bipush (-2), 2), (11, .ireturn, 1), (12, .aload_n (0), 1), (13, .getfield (47), 3), (16, .iload_n (1), 1), (17, .aaload, 1), (18, .getfield (344), 3), (21, .aload_n (0), 1), (22, .getfield (19), 3), (25, .invokevirtual (78), 3), (28, .aload_n (0), 1), (29, .getfield (47), 3), (32, .iload_n (1), 1), (33, .aaload, 1), (34, .getfield (345), 3), (37, .aload_n (0), 1), (38, .getfield (29), 3), (41, .invokevirtual (346), 3), (44, .aload_n (0), 1), (45, .getfield (47), 3), (48, .iload_n (1), 1), (49, .aaload, 1), (50, .iconst (1), 1), (51, .putfield (349), 3), (54, .iconst (0), 1), (55, .ireturn, 1)]
set_option maxRecDepth 100000 in
theorem zD_140_ok : zDo 140 zD_140 = true := by decide +kernel
theorem zc_140 : zcls 140 = 7 := by decide +kernel
theorem zm_140 : zml 140 = 2 := by decide +kernel
theorem zt_140 : zrt 140 = (some (.int)) := by decide +kernel
theorem zk_140 : zkd 140 = 1 ∧ znp 140 + 1 = 2 := by decide +kernel
theorem zr_140 (as : List zV) : zrk 140 as = 3 := by unfold zrk; rw [if_neg (by decide)]; decide +kernel
def lX_image (x1 : Int) (M : Nat → Nat → Int) : Option (Int × (Nat → Nat → Int)) :=
    (if x1 < 0 then
    (some ((-2 : Int), M))
    else
    (if x1 < (3 : Int) then
    ((rdA 45 x1).bind (fun v17 =>
    (if zis 2 v17 = true then
    ((lT_takeFrom (v17 + 1) 3 M).bind (fun M25 =>
    ((rdA 45 x1).bind (fun v33 =>
    (if zis 2 v33 = true then
    ((lA_takeFrom (v33 + 11) 23 M25).bind (fun M41 =>
    ((rdA 45 x1).bind (fun v49 =>
    (if zis 2 v49 = true then
    ((some (zup M41 v49 0 (1 : Int))).bind (fun M51 =>
    (some ((0 : Int), M51))))
    else none)))))
    else none)))))
    else none)))
    else
    (some ((-2 : Int), M))))
set_option maxRecDepth 100000 in
theorem ok_lX_image {sc : zSc} {x1 : Int} {M : Nat → Nat → Int} {P : Int → (Nat → Nat → Int) → Prop} (h : zS (lX_image x1 M) (fun r => P r.1 r.2)) : zCi sc 140 [.inr (.inr 0), .inl x1] M P := by
  have ea : zarg (zml 140) [.inr (.inr 0), .inl x1] = [some (.inr (.inr 0)), some (.inl x1)] := by rw [zm_140]; rfl
  unfold zCi zCw
  rw [ea, zr_140]
  have hq : 3 ≤ 3 := Nat.le_refl _
  unfold lX_image at h
  have h := zS_mono h (fun x hx => (⟨x.1, rfl, hx⟩ : ∃ y, (some (.inl x.1) : Option zV) = some (.inl y) ∧ P y x.2))
  skip
  refine E_iload_n (pc := 0) (zDk zD_140_ok 0 rfl) rfl ?_
  refine E_if (pc := 1) (t := 9) (zDk zD_140_ok 1 rfl) rfl (fun hz => ?_) (fun hz => ?_)
  · have h := zS_t h (T_lt hz)
    refine E_bipush (pc := 9) (zDk zD_140_ok 5 rfl) (by decide +kernel) ?_
    have h := zS_some h
    exact E_ireturn (pc := 11) (zDk zD_140_ok 6 rfl) zt_140 h
  · have h := zS_f h (Int.not_lt.mpr (F_lt hz))
    refine E_iload_n (pc := 4) (zDk zD_140_ok 2 rfl) rfl ?_
    refine E_iconst (pc := 5) (zDk zD_140_ok 3 rfl) (by decide +kernel) ?_
    refine E_icmp (pc := 6) (t := 12) (zDk zD_140_ok 4 rfl) rfl (fun hz => ?_) (fun hz => ?_)
    · have h := zS_t h (T_lt hz)
      refine E_aload_n (pc := 12) (zDk zD_140_ok 7 rfl) rfl ?_
      refine E_getR (pc := 13) (ci := 7) (f := 6) (r := 45) (zDk zD_140_ok 8 rfl) zc_140 (by decide +kernel) (by decide) zis_7_0 (by decide +kernel) (by decide) ?_
      refine E_iload_n (pc := 16) (zDk zD_140_ok 9 rfl) rfl ?_
      obtain ⟨v17, e17, h⟩ := zS_bind h
      refine E_aaload (pc := 17) (zDk zD_140_ok 10 rfl) e17 ?_
      obtain ⟨hz18, h⟩ := zS_c h
      refine E_getR (pc := 18) (ci := 2) (f := 1) (r := (v17 + 1)) (zDk zD_140_ok 11 rfl) zc_140 (by decide +kernel) (by decide) hz18 (zg_2_1 hz18) (zh_2_1 hz18) ?_
      refine E_aload_n (pc := 21) (zDk zD_140_ok 12 rfl) rfl ?_
      refine E_getR (pc := 22) (ci := 7) (f := 1) (r := 3) (zDk zD_140_ok 13 rfl) zc_140 (by decide +kernel) (by decide) zis_7_0 (by decide +kernel) (by decide) ?_
      obtain ⟨M25, e25, h⟩ := zS_bind h
      refine E_virV (pc := 25) (c := 68) (r := (v17 + 1)) (as := [.inr (.inr 3)]) (rest := []) (zDk zD_140_ok 14 rfl) zc_140 (by decide +kernel) zk_68 ⟨(Nat.le_of_ble_eq_true rfl), rfl, rfl⟩ (Nat.le_of_ble_eq_true rfl) (zr_68 _) (Nat.lt_of_lt_of_le (by decide) hq) (by rw [zm_68]; exact (Nat.le_of_ble_eq_true rfl)) ⟨zc_68, by decide⟩ (zi_2_1 hz18) (ok_lT_takeFrom ⟨M25, e25, ?_⟩)
      refine E_aload_n (pc := 28) (zDk zD_140_ok 15 rfl) rfl ?_
      refine E_getR (pc := 29) (ci := 7) (f := 6) (r := 45) (zDk zD_140_ok 16 rfl) zc_140 (by decide +kernel) (by decide) zis_7_0 (by decide +kernel) (by decide) ?_
      refine E_iload_n (pc := 32) (zDk zD_140_ok 17 rfl) rfl ?_
      obtain ⟨v33, e33, h⟩ := zS_bind h
      refine E_aaload (pc := 33) (zDk zD_140_ok 18 rfl) e33 ?_
      obtain ⟨hz34, h⟩ := zS_c h
      refine E_getR (pc := 34) (ci := 2) (f := 2) (r := (v33 + 11)) (zDk zD_140_ok 19 rfl) zc_140 (by decide +kernel) (by decide) hz34 (zg_2_2 hz34) (zh_2_2 hz34) ?_
      refine E_aload_n (pc := 37) (zDk zD_140_ok 20 rfl) rfl ?_
      refine E_getR (pc := 38) (ci := 7) (f := 3) (r := 23) (zDk zD_140_ok 21 rfl) zc_140 (by decide +kernel) (by decide) zis_7_0 (by decide +kernel) (by decide) ?_
      obtain ⟨M41, e41, h⟩ := zS_bind h
      refine E_virV (pc := 41) (c := 6) (r := (v33 + 11)) (as := [.inr (.inr 23)]) (rest := []) (zDk zD_140_ok 22 rfl) zc_140 (by decide +kernel) zk_6 ⟨(Nat.le_of_ble_eq_true rfl), rfl, rfl⟩ (Nat.le_of_ble_eq_true rfl) (zr_6 _) (Nat.lt_of_lt_of_le (by decide) hq) (by rw [zm_6]; exact (Nat.le_of_ble_eq_true rfl)) ⟨zc_6, by decide⟩ (zi_2_2 hz34) (ok_lA_takeFrom ⟨M41, e41, ?_⟩)
      refine E_aload_n (pc := 44) (zDk zD_140_ok 23 rfl) rfl ?_
      refine E_getR (pc := 45) (ci := 7) (f := 6) (r := 45) (zDk zD_140_ok 24 rfl) zc_140 (by decide +kernel) (by decide) zis_7_0 (by decide +kernel) (by decide) ?_
      refine E_iload_n (pc := 48) (zDk zD_140_ok 25 rfl) rfl ?_
      obtain ⟨v49, e49, h⟩ := zS_bind h
      refine E_aaload (pc := 49) (zDk zD_140_ok 26 rfl) e49 ?_
      refine E_iconst (pc := 50) (zDk zD_140_ok 27 rfl) (by decide +kernel) ?_
      obtain ⟨hz51, h⟩ := zS_c h
      obtain ⟨M51, e51, h⟩ := zS_bind h
      refine W_putZ (pc := 51) (ci := 2) (f := 0) (zDk zD_140_ok 28 rfl) zc_140 (by decide +kernel) (by decide) hz51 (by decide) (Option.some.inj e51) ?_
      refine E_iconst (pc := 54) (zDk zD_140_ok 29 rfl) (by decide +kernel) ?_
      have h := zS_some h
      exact E_ireturn (pc := 55) (zDk zD_140_ok 30 rfl) zt_140 h
    · have h := zS_f h (Int.not_lt.mpr (F_lt hz))
      refine E_bipush (pc := 9) (zDk zD_140_ok 5 rfl) (by decide +kernel) ?_
      have h := zS_some h
      exact E_ireturn (pc := 11) (zDk zD_140_ok 6 rfl) zt_140 h
def zD_148 : List (Nat × Instr × Nat) := [(0, .iconst (0), 1), (1, .istore_n (2), 1), (2, .iload_n (2), 1), (3, .bipush (8), 2), (5, .if_icmp .ge (20), 3), (8, .aload_n (0), 1), (9, .iload_n (1), 1), (10, .iload_n (2), 1), (11, .invokevirtual (229), 3), (14, .ifCond .eq (5), 3), (17, .iload_n (2), 1), (18, .ireturn, 1), (19, .iinc (2) (1), 3), (22, .goto (-20), 3), (25, .iconst (-1), 1), (26, .ireturn, 1)]
set_option maxRecDepth 100000 in
theorem zD_148_ok : zDo 148 zD_148 = true := by decide +kernel
theorem zc_148 : zcls 148 = 7 := by decide +kernel
theorem zm_148 : zml 148 = 3 := by decide +kernel
theorem zt_148 : zrt 148 = (some (.int)) := by decide +kernel
theorem zk_148 : zkd 148 = 1 ∧ znp 148 + 1 = 2 := by decide +kernel
theorem zr_148 (as : List zV) : zrk 148 as = 3 := by unfold zrk; rw [if_neg (by decide)]; decide +kernel
def lX_fewestToGather_c2 (x1 : Int) (M : Nat → Nat → Int) : Nat → Int → Option Int
  | 0, _ => none
  | n + 1, y2 =>
    (if y2 < (8 : Int) then
    ((lX_cornersForAll x1 y2 M).bind (fun v11 =>
    (if v11 = 0 then
    ((lX_fewestToGather_c2 x1 M n) (w32 (y2 + 1)))
    else
    (some y2))))
    else
    (some (-1 : Int)))
set_option maxRecDepth 100000 in
theorem ok_lX_fewestToGather_c2 {sc : zSc} {q : Nat} {P : Option zV → (Nat → Nat → Int) → Prop} (hq : 3 ≤ q) (x1 : Int) (M : Nat → Nat → Int) : ∀ (n : Nat) (y2 : Int), zS (lX_fewestToGather_c2 x1 M n y2) (fun x => P (some (.inl x)) M) → zWp sc q 148 2 [some (.inr (.inr 0)), some (.inl x1), some (.inl y2)] [] M P := by
  intro n
  induction n with
  | zero => intro y2 h; exact (zS_none h).elim
  | succ n ih =>
    intro y2 h
    rw [lX_fewestToGather_c2] at h
    refine E_iload_n (pc := 2) (zDk zD_148_ok 2 rfl) rfl ?_
    refine E_bipush (pc := 3) (zDk zD_148_ok 3 rfl) (by decide +kernel) ?_
    refine E_icmp (pc := 5) (t := 25) (zDk zD_148_ok 4 rfl) rfl (fun hz => ?_) (fun hz => ?_)
    · have h := zS_f h (Int.not_lt.mpr (T_ge hz))
      refine E_iconst (pc := 25) (zDk zD_148_ok 14 rfl) (by decide +kernel) ?_
      have h := zS_some h
      exact E_ireturn (pc := 26) (zDk zD_148_ok 15 rfl) zt_148 h
    · have h := zS_t h (F_ge hz)
      refine E_aload_n (pc := 8) (zDk zD_148_ok 5 rfl) rfl ?_
      refine E_iload_n (pc := 9) (zDk zD_148_ok 6 rfl) rfl ?_
      refine E_iload_n (pc := 10) (zDk zD_148_ok 7 rfl) rfl ?_
      obtain ⟨v11, e11, h⟩ := zS_bind h
      refine E_virI (pc := 11) (c := 147) (r := 0) (as := [.inl x1, .inl y2]) (rest := []) (zDk zD_148_ok 8 rfl) zc_148 (by decide +kernel) zk_147 ⟨(Nat.le_of_ble_eq_true rfl), rfl, rfl⟩ (Nat.le_of_ble_eq_true rfl) (zr_147 _) (Nat.lt_of_lt_of_le (by decide) hq) (by rw [zm_147]; exact (Nat.le_of_ble_eq_true rfl)) ⟨zc_147, by decide⟩ zis_7_0 (ok_lX_cornersForAll ⟨v11, e11, ?_⟩)
      refine E_if (pc := 14) (t := 19) (zDk zD_148_ok 9 rfl) rfl (fun hz => ?_) (fun hz => ?_)
      · have h := zS_t h (T_eq hz)
        refine W_iinc (pc := 19) (L' := [some (.inr (.inr 0)), some (.inl x1), some (.inl (w32 (y2 + 1)))]) (zDk zD_148_ok 12 rfl) rfl zm_148 (by decide) rfl ?_
        refine E_goto (pc := 22) (t := 2) (zDk zD_148_ok 13 rfl) rfl ?_
        exact (ih) (w32 (y2 + 1)) h
      · have h := zS_f h (F_eq hz)
        refine E_iload_n (pc := 17) (zDk zD_148_ok 10 rfl) rfl ?_
        have h := zS_some h
        exact E_ireturn (pc := 18) (zDk zD_148_ok 11 rfl) zt_148 h
def lX_fewestToGather (x1 : Int) (M : Nat → Nat → Int) : Option Int :=
    (lX_fewestToGather_c2 x1 M zN (0 : Int))
set_option maxRecDepth 100000 in
theorem ok_lX_fewestToGather {sc : zSc} {x1 : Int} {M : Nat → Nat → Int} {P : Int → (Nat → Nat → Int) → Prop} (h : zS (lX_fewestToGather x1 M) (fun x => P x M)) : zCi sc 148 [.inr (.inr 0), .inl x1] M P := by
  have ea : zarg (zml 148) [.inr (.inr 0), .inl x1] = [some (.inr (.inr 0)), some (.inl x1), none] := by rw [zm_148]; rfl
  unfold zCi zCw
  rw [ea, zr_148]
  have hq : 3 ≤ 3 := Nat.le_refl _
  unfold lX_fewestToGather at h
  have h := zS_mono h (fun x hx => (⟨x, rfl, hx⟩ : ∃ y, (some (.inl x) : Option zV) = some (.inl y) ∧ P y M))
  skip
  refine E_iconst (pc := 0) (zDk zD_148_ok 0 rfl) (by decide +kernel) ?_
  refine W_istore_n (pc := 1) (L' := [some (.inr (.inr 0)), some (.inl x1), some (.inl (0 : Int))]) (zDk zD_148_ok 1 rfl) zm_148 (by decide) rfl ?_
  exact ok_lX_fewestToGather_c2 hq x1 M zN (0 : Int) h
def zD_150 : List (Nat × Instr × Nat) := [(0, .aload_n (0), 1), (1, .iload_n (1), 1), (2, .iload_n (2), 1), (3, .invokevirtual (296), 3), (6, .ifCond .ne (6), 3), (9, .bipush (-2), 2), (11, .ireturn, 1), (12, .aload_n (0), 1), (13, .getfield (19), 3), (16, .getfield (115), 3), (19, .iload_n (1), 1), (20, .iaload, 1), (21, .istore_n (3), 1), (22, .aload_n (0), 1), (23, .getfield (19), 3), (26, .getfield (115), 3), (29, .iload_n (2), 1), (30, .iaload, 1), (31, .istore (4), 2), (33, .iload_n (3), 1), (34, .iload (4), 2), (36, .if_icmp .ne (5), 3), (39, .iconst (-1), 1), (40, .ireturn, 1), (41, .iconst (1), 1), (42, .aload_n (0), 1), (43, .getfield (19), 3), (46, .getfield (262), 3), (49, .ishl, 1), (50, .istore (5), 2), (52, .iconst (0), 1), (53, .istore (6), 2), (55, .iload (6), 2), (57, .aload_n (0), 1), (58, .getfield (19), 3), (61, .getfield (262), 3), (64, .if_icmp .gt (75), 3), (67, .iconst (0), 1), (68, .istore (7), 2), (70, .iload (7), 2), (72, .iload (5), 2), (74, .if_icmp .ge (59), 3), (77, .iload (7), 2), (79, .invokestatic (183), 3), (82, .iload (6), 2), (84, .if_icmp .ne (20), 3), (87, .iload (7), 2), (89, .aload_n (0), 1), (90, .getfield (29), 3), (93, .getfield (103), 3), (96, .iand, 1), (97, .ifCond .ne (7), 3), (100, .iconst (1), 1), (101, .goto (4), 3), (104, .iconst (0), 1), (105, .istore (8), 2), (107, .iload (8), 2), (109, .ifCond .eq (18), 3), (112, .aload_n (0), 1), (113, .iload (7), 2), (115, .iload_n (3), 1), (116, .iload (4), 2), (118, .invokevirtual (387), 3), (121, .ifCond .eq (6), 3), (124, .iload (7), 2), (126, .ireturn, 1), (127, .iinc (7) (1), 3), (130, .goto (-60), 3), (133, .iinc (6) (1), 3), (136, .goto (-81), 3), (139, .iconst (-1), 1), (140, .ireturn, 1)]
set_option maxRecDepth 100000 in
theorem zD_150_ok : zDo 150 zD_150 = true := by decide +kernel
theorem zc_150 : zcls 150 = 7 := by decide +kernel
theorem zm_150 : zml 150 = 9 := by decide +kernel
theorem zt_150 : zrt 150 = (some (.int)) := by decide +kernel
theorem zk_150 : zkd 150 = 1 ∧ znp 150 + 1 = 3 := by decide +kernel
theorem zr_150 (as : List zV) : zrk 150 as = 3 := by unfold zrk; rw [if_neg (by decide)]; decide +kernel
def lX_streetsToCut_c105 (x1 : Int) (x2 : Int) (h55 : Int → Int → Int → Int → (Nat → Nat → Int) → Option (Int × (Nat → Nat → Int))) (h70 : Int → Int → Int → Int → Int → (Nat → Nat → Int) → Option (Int × (Nat → Nat → Int))) (y3 : Int) (y4 : Int) (y5 : Int) (y6 : Int) (y7 : Int) (s0 : Int) (M : Nat → Nat → Int) : Option (Int × (Nat → Nat → Int)) :=
    (if s0 = 0 then
    (h70 y3 y4 y5 y6 (w32 (y7 + 1)) M)
    else
    ((lX_isCutBy y7 y3 y4 M).bind (fun r118_ =>
    (if r118_.1 = 0 then
    (h70 y3 y4 y5 y6 (w32 (y7 + 1)) r118_.2)
    else
    (some (y7, r118_.2))))))
set_option maxRecDepth 100000 in
theorem ok_lX_streetsToCut_c105 {sc : zSc} {q : Nat} {P : Option zV → (Nat → Nat → Int) → Prop} (hq : 3 ≤ q) (x1 : Int) (x2 : Int) (h55 : Int → Int → Int → Int → (Nat → Nat → Int) → Option (Int × (Nat → Nat → Int))) (H55 : ∀ (y3 : Int) (y4 : Int) (y5 : Int) (y6 : Int) (M : Nat → Nat → Int) (d7 d8 : Option zV), zS (h55 y3 y4 y5 y6 M) (fun r => P (some (.inl r.1)) r.2) → zWp sc q 150 55 [some (.inr (.inr 0)), some (.inl x1), some (.inl x2), some (.inl y3), some (.inl y4), some (.inl y5), some (.inl y6), d7, d8] [] M P) (h70 : Int → Int → Int → Int → Int → (Nat → Nat → Int) → Option (Int × (Nat → Nat → Int))) (H70 : ∀ (y3 : Int) (y4 : Int) (y5 : Int) (y6 : Int) (y7 : Int) (M : Nat → Nat → Int) (d8 : Option zV), zS (h70 y3 y4 y5 y6 y7 M) (fun r => P (some (.inl r.1)) r.2) → zWp sc q 150 70 [some (.inr (.inr 0)), some (.inl x1), some (.inl x2), some (.inl y3), some (.inl y4), some (.inl y5), some (.inl y6), some (.inl y7), d8] [] M P) : ∀ (y3 : Int) (y4 : Int) (y5 : Int) (y6 : Int) (y7 : Int) (s0 : Int) (M : Nat → Nat → Int) (d8 : Option zV), zS (lX_streetsToCut_c105 x1 x2 h55 h70 y3 y4 y5 y6 y7 s0 M) (fun r => P (some (.inl r.1)) r.2) → zWp sc q 150 105 [some (.inr (.inr 0)), some (.inl x1), some (.inl x2), some (.inl y3), some (.inl y4), some (.inl y5), some (.inl y6), some (.inl y7), d8] [(.inl s0 : zV)] M P := by
  intro y3 y4 y5 y6 y7 s0 M d8 h
  unfold lX_streetsToCut_c105 at h
  refine W_istore (pc := 105) (L' := [some (.inr (.inr 0)), some (.inl x1), some (.inl x2), some (.inl y3), some (.inl y4), some (.inl y5), some (.inl y6), some (.inl y7), some (.inl s0)]) (zDk zD_150_ok 55 rfl) zm_150 (by decide) rfl ?_
  refine E_iload (pc := 107) (zDk zD_150_ok 56 rfl) rfl ?_
  refine E_if (pc := 109) (t := 127) (zDk zD_150_ok 57 rfl) rfl (fun hz => ?_) (fun hz => ?_)
  · have h := zS_t h (T_eq hz)
    refine W_iinc (pc := 127) (L' := [some (.inr (.inr 0)), some (.inl x1), some (.inl x2), some (.inl y3), some (.inl y4), some (.inl y5), some (.inl y6), some (.inl (w32 (y7 + 1))), some (.inl s0)]) (zDk zD_150_ok 66 rfl) rfl zm_150 (by decide) rfl ?_
    refine E_goto (pc := 130) (t := 70) (zDk zD_150_ok 67 rfl) rfl ?_
    exact H70 y3 y4 y5 y6 (w32 (y7 + 1)) M (some (.inl s0)) h
  · have h := zS_f h (F_eq hz)
    refine E_aload_n (pc := 112) (zDk zD_150_ok 58 rfl) rfl ?_
    refine E_iload (pc := 113) (zDk zD_150_ok 59 rfl) rfl ?_
    refine E_iload_n (pc := 115) (zDk zD_150_ok 60 rfl) rfl ?_
    refine E_iload (pc := 116) (zDk zD_150_ok 61 rfl) rfl ?_
    obtain ⟨r118_, e118, h⟩ := zS_bind h
    refine E_virI (pc := 118) (c := 151) (r := 0) (as := [.inl y7, .inl y3, .inl y4]) (rest := []) (zDk zD_150_ok 62 rfl) zc_150 (by decide +kernel) zk_151 ⟨(Nat.le_of_ble_eq_true rfl), rfl, rfl⟩ (Nat.le_of_ble_eq_true rfl) (zr_151 _) (Nat.lt_of_lt_of_le (by decide) hq) (by rw [zm_151]; exact (Nat.le_of_ble_eq_true rfl)) ⟨zc_151, by decide⟩ zis_7_0 (ok_lX_isCutBy ⟨r118_, e118, ?_⟩)
    refine E_if (pc := 121) (t := 127) (zDk zD_150_ok 63 rfl) rfl (fun hz => ?_) (fun hz => ?_)
    · have h := zS_t h (T_eq hz)
      refine W_iinc (pc := 127) (L' := [some (.inr (.inr 0)), some (.inl x1), some (.inl x2), some (.inl y3), some (.inl y4), some (.inl y5), some (.inl y6), some (.inl (w32 (y7 + 1))), some (.inl s0)]) (zDk zD_150_ok 66 rfl) rfl zm_150 (by decide) rfl ?_
      refine E_goto (pc := 130) (t := 70) (zDk zD_150_ok 67 rfl) rfl ?_
      exact H70 y3 y4 y5 y6 (w32 (y7 + 1)) r118_.2 (some (.inl s0)) h
    · have h := zS_f h (F_eq hz)
      refine E_iload (pc := 124) (zDk zD_150_ok 64 rfl) rfl ?_
      have h := zS_some h
      exact E_ireturn (pc := 126) (zDk zD_150_ok 65 rfl) zt_150 h
def lX_streetsToCut_c70 (x1 : Int) (x2 : Int) (h55 : Int → Int → Int → Int → (Nat → Nat → Int) → Option (Int × (Nat → Nat → Int))) : Nat → Int → Int → Int → Int → Int → (Nat → Nat → Int) → Option (Int × (Nat → Nat → Int))
  | 0, _, _, _, _, _, _ => none
  | n + 1, y3, y4, y5, y6, y7, M =>
    (if y7 < y5 then
    ((lJ_bitCount y7 M).bind (fun v79 =>
    (if v79 = y6 then
    (if (zand y7 (M 23 1)) = 0 then
    (lX_streetsToCut_c105 x1 x2 h55 (lX_streetsToCut_c70 x1 x2 h55 n) y3 y4 y5 y6 y7 (1 : Int) M)
    else
    (lX_streetsToCut_c105 x1 x2 h55 (lX_streetsToCut_c70 x1 x2 h55 n) y3 y4 y5 y6 y7 (0 : Int) M))
    else
    (lX_streetsToCut_c105 x1 x2 h55 (lX_streetsToCut_c70 x1 x2 h55 n) y3 y4 y5 y6 y7 (0 : Int) M))))
    else
    (h55 y3 y4 y5 (w32 (y6 + 1)) M))
set_option maxRecDepth 100000 in
theorem ok_lX_streetsToCut_c70 {sc : zSc} {q : Nat} {P : Option zV → (Nat → Nat → Int) → Prop} (hq : 3 ≤ q) (x1 : Int) (x2 : Int) (h55 : Int → Int → Int → Int → (Nat → Nat → Int) → Option (Int × (Nat → Nat → Int))) (H55 : ∀ (y3 : Int) (y4 : Int) (y5 : Int) (y6 : Int) (M : Nat → Nat → Int) (d7 d8 : Option zV), zS (h55 y3 y4 y5 y6 M) (fun r => P (some (.inl r.1)) r.2) → zWp sc q 150 55 [some (.inr (.inr 0)), some (.inl x1), some (.inl x2), some (.inl y3), some (.inl y4), some (.inl y5), some (.inl y6), d7, d8] [] M P) : ∀ (n : Nat) (y3 : Int) (y4 : Int) (y5 : Int) (y6 : Int) (y7 : Int) (M : Nat → Nat → Int) (d8 : Option zV), zS (lX_streetsToCut_c70 x1 x2 h55 n y3 y4 y5 y6 y7 M) (fun r => P (some (.inl r.1)) r.2) → zWp sc q 150 70 [some (.inr (.inr 0)), some (.inl x1), some (.inl x2), some (.inl y3), some (.inl y4), some (.inl y5), some (.inl y6), some (.inl y7), d8] [] M P := by
  intro n
  induction n with
  | zero => intro y3 y4 y5 y6 y7 M d8 h; exact (zS_none h).elim
  | succ n ih =>
    intro y3 y4 y5 y6 y7 M d8 h
    rw [lX_streetsToCut_c70] at h
    refine E_iload (pc := 70) (zDk zD_150_ok 39 rfl) rfl ?_
    refine E_iload (pc := 72) (zDk zD_150_ok 40 rfl) rfl ?_
    refine E_icmp (pc := 74) (t := 133) (zDk zD_150_ok 41 rfl) rfl (fun hz => ?_) (fun hz => ?_)
    · have h := zS_f h (Int.not_lt.mpr (T_ge hz))
      refine W_iinc (pc := 133) (L' := [some (.inr (.inr 0)), some (.inl x1), some (.inl x2), some (.inl y3), some (.inl y4), some (.inl y5), some (.inl (w32 (y6 + 1))), some (.inl y7), d8]) (zDk zD_150_ok 68 rfl) rfl zm_150 (by decide) rfl ?_
      refine E_goto (pc := 136) (t := 55) (zDk zD_150_ok 69 rfl) rfl ?_
      exact H55 y3 y4 y5 (w32 (y6 + 1)) M (some (.inl y7)) d8 h
    · have h := zS_t h (F_ge hz)
      refine E_iload (pc := 77) (zDk zD_150_ok 42 rfl) rfl ?_
      obtain ⟨v79, e79, h⟩ := zS_bind h
      refine E_staI (pc := 79) (c := 321) (as := [.inl y7]) (rest := []) (zDk zD_150_ok 43 rfl) zc_150 (by decide +kernel) (by decide +kernel) zk_321 ⟨(Nat.le_of_ble_eq_true rfl), rfl, rfl⟩ (Nat.le_of_ble_eq_true rfl) (zr_321 _) (Nat.lt_of_lt_of_le (by decide) hq) (by rw [zm_321]; exact (Nat.le_of_ble_eq_true rfl)) (ok_lJ_bitCount ⟨v79, e79, ?_⟩)
      refine E_iload (pc := 82) (zDk zD_150_ok 44 rfl) rfl ?_
      refine E_icmp (pc := 84) (t := 104) (zDk zD_150_ok 45 rfl) rfl (fun hz => ?_) (fun hz => ?_)
      · have h := zS_f h (T_ne hz)
        refine E_iconst (pc := 104) (zDk zD_150_ok 54 rfl) (by decide +kernel) ?_
        exact ok_lX_streetsToCut_c105 hq x1 x2 h55 H55 (lX_streetsToCut_c70 x1 x2 h55 n) (ih) y3 y4 y5 y6 y7 (0 : Int) M d8 h
      · have h := zS_t h (F_ne hz)
        refine E_iload (pc := 87) (zDk zD_150_ok 46 rfl) rfl ?_
        refine E_aload_n (pc := 89) (zDk zD_150_ok 47 rfl) rfl ?_
        refine E_getR (pc := 90) (ci := 7) (f := 3) (r := 23) (zDk zD_150_ok 48 rfl) zc_150 (by decide +kernel) (by decide) zis_7_0 (by decide +kernel) (by decide) ?_
        refine E_getI (pc := 93) (ci := 0) (f := 1) (zDk zD_150_ok 49 rfl) zc_150 (by decide +kernel) (by decide) zis_0_23 ?_
        refine E_iand (pc := 96) (zDk zD_150_ok 50 rfl) ?_
        refine E_if (pc := 97) (t := 104) (zDk zD_150_ok 51 rfl) rfl (fun hz => ?_) (fun hz => ?_)
        · have h := zS_f h (T_ne hz)
          refine E_iconst (pc := 104) (zDk zD_150_ok 54 rfl) (by decide +kernel) ?_
          exact ok_lX_streetsToCut_c105 hq x1 x2 h55 H55 (lX_streetsToCut_c70 x1 x2 h55 n) (ih) y3 y4 y5 y6 y7 (0 : Int) M d8 h
        · have h := zS_t h (F_ne hz)
          refine E_iconst (pc := 100) (zDk zD_150_ok 52 rfl) (by decide +kernel) ?_
          refine E_goto (pc := 101) (t := 105) (zDk zD_150_ok 53 rfl) rfl ?_
          exact ok_lX_streetsToCut_c105 hq x1 x2 h55 H55 (lX_streetsToCut_c70 x1 x2 h55 n) (ih) y3 y4 y5 y6 y7 (1 : Int) M d8 h
def lX_streetsToCut_c55 (x1 : Int) (x2 : Int) : Nat → Int → Int → Int → Int → (Nat → Nat → Int) → Option (Int × (Nat → Nat → Int))
  | 0, _, _, _, _, _ => none
  | n + 1, y3, y4, y5, y6, M =>
    (if (M 3 5) < y6 then
    (some ((-1 : Int), M))
    else
    (lX_streetsToCut_c70 x1 x2 (lX_streetsToCut_c55 x1 x2 n) zN y3 y4 y5 y6 (0 : Int) M))
set_option maxRecDepth 100000 in
theorem ok_lX_streetsToCut_c55 {sc : zSc} {q : Nat} {P : Option zV → (Nat → Nat → Int) → Prop} (hq : 3 ≤ q) (x1 : Int) (x2 : Int) : ∀ (n : Nat) (y3 : Int) (y4 : Int) (y5 : Int) (y6 : Int) (M : Nat → Nat → Int) (d7 d8 : Option zV), zS (lX_streetsToCut_c55 x1 x2 n y3 y4 y5 y6 M) (fun r => P (some (.inl r.1)) r.2) → zWp sc q 150 55 [some (.inr (.inr 0)), some (.inl x1), some (.inl x2), some (.inl y3), some (.inl y4), some (.inl y5), some (.inl y6), d7, d8] [] M P := by
  intro n
  induction n with
  | zero => intro y3 y4 y5 y6 M d7 d8 h; exact (zS_none h).elim
  | succ n ih =>
    intro y3 y4 y5 y6 M d7 d8 h
    rw [lX_streetsToCut_c55] at h
    refine E_iload (pc := 55) (zDk zD_150_ok 32 rfl) rfl ?_
    refine E_aload_n (pc := 57) (zDk zD_150_ok 33 rfl) rfl ?_
    refine E_getR (pc := 58) (ci := 7) (f := 1) (r := 3) (zDk zD_150_ok 34 rfl) zc_150 (by decide +kernel) (by decide) zis_7_0 (by decide +kernel) (by decide) ?_
    refine E_getI (pc := 61) (ci := 6) (f := 5) (zDk zD_150_ok 35 rfl) zc_150 (by decide +kernel) (by decide) zis_6_3 ?_
    refine E_icmp (pc := 64) (t := 139) (zDk zD_150_ok 36 rfl) rfl (fun hz => ?_) (fun hz => ?_)
    · have h := zS_t h (T_gt hz)
      refine E_iconst (pc := 139) (zDk zD_150_ok 70 rfl) (by decide +kernel) ?_
      have h := zS_some h
      exact E_ireturn (pc := 140) (zDk zD_150_ok 71 rfl) zt_150 h
    · have h := zS_f h (Int.not_lt.mpr (F_gt hz))
      refine E_iconst (pc := 67) (zDk zD_150_ok 37 rfl) (by decide +kernel) ?_
      refine W_istore (pc := 68) (L' := [some (.inr (.inr 0)), some (.inl x1), some (.inl x2), some (.inl y3), some (.inl y4), some (.inl y5), some (.inl y6), some (.inl (0 : Int)), d8]) (zDk zD_150_ok 38 rfl) zm_150 (by decide) rfl ?_
      exact ok_lX_streetsToCut_c70 hq x1 x2 (lX_streetsToCut_c55 x1 x2 n) (ih) zN y3 y4 y5 y6 (0 : Int) M d8 h
def lX_streetsToCut (x1 : Int) (x2 : Int) (M : Nat → Nat → Int) : Option (Int × (Nat → Nat → Int)) :=
    ((lX_areTwo x1 x2 M).bind (fun v3 =>
    (if v3 = 0 then
    (some ((-2 : Int), M))
    else
    ((rdI 7 x1 M).bind (fun v20 =>
    ((rdI 7 x2 M).bind (fun v30 =>
    (if v20 = v30 then
    (some ((-1 : Int), M))
    else
    (lX_streetsToCut_c55 x1 x2 zN v20 v30 (zshl (1 : Int) (M 3 5)) (0 : Int) M)))))))))
set_option maxRecDepth 100000 in
theorem ok_lX_streetsToCut {sc : zSc} {x1 : Int} {x2 : Int} {M : Nat → Nat → Int} {P : Int → (Nat → Nat → Int) → Prop} (h : zS (lX_streetsToCut x1 x2 M) (fun r => P r.1 r.2)) : zCi sc 150 [.inr (.inr 0), .inl x1, .inl x2] M P := by
  have ea : zarg (zml 150) [.inr (.inr 0), .inl x1, .inl x2] = [some (.inr (.inr 0)), some (.inl x1), some (.inl x2), none, none, none, none, none, none] := by rw [zm_150]; rfl
  unfold zCi zCw
  rw [ea, zr_150]
  have hq : 3 ≤ 3 := Nat.le_refl _
  unfold lX_streetsToCut at h
  have h := zS_mono h (fun x hx => (⟨x.1, rfl, hx⟩ : ∃ y, (some (.inl x.1) : Option zV) = some (.inl y) ∧ P y x.2))
  skip
  refine E_aload_n (pc := 0) (zDk zD_150_ok 0 rfl) rfl ?_
  refine E_iload_n (pc := 1) (zDk zD_150_ok 1 rfl) rfl ?_
  refine E_iload_n (pc := 2) (zDk zD_150_ok 2 rfl) rfl ?_
  obtain ⟨v3, e3, h⟩ := zS_bind h
  refine E_virI (pc := 3) (c := 149) (r := 0) (as := [.inl x1, .inl x2]) (rest := []) (zDk zD_150_ok 3 rfl) zc_150 (by decide +kernel) zk_149 ⟨(Nat.le_of_ble_eq_true rfl), rfl, rfl⟩ (Nat.le_of_ble_eq_true rfl) (zr_149 _) (Nat.lt_of_lt_of_le (by decide) hq) (by rw [zm_149]; exact (Nat.le_of_ble_eq_true rfl)) ⟨zc_149, by decide⟩ zis_7_0 (ok_lX_areTwo ⟨v3, e3, ?_⟩)
  refine E_if (pc := 6) (t := 12) (zDk zD_150_ok 4 rfl) rfl (fun hz => ?_) (fun hz => ?_)
  · have h := zS_f h (T_ne hz)
    refine E_aload_n (pc := 12) (zDk zD_150_ok 7 rfl) rfl ?_
    refine E_getR (pc := 13) (ci := 7) (f := 1) (r := 3) (zDk zD_150_ok 8 rfl) zc_150 (by decide +kernel) (by decide) zis_7_0 (by decide +kernel) (by decide) ?_
    refine E_getR (pc := 16) (ci := 6) (f := 12) (r := 7) (zDk zD_150_ok 9 rfl) zc_150 (by decide +kernel) (by decide) zis_6_3 (by decide +kernel) (by decide) ?_
    refine E_iload_n (pc := 19) (zDk zD_150_ok 10 rfl) rfl ?_
    obtain ⟨v20, e20, h⟩ := zS_bind h
    refine E_iaload (pc := 20) (zDk zD_150_ok 11 rfl) e20 ?_
    refine W_istore_n (pc := 21) (L' := [some (.inr (.inr 0)), some (.inl x1), some (.inl x2), some (.inl v20), none, none, none, none, none]) (zDk zD_150_ok 12 rfl) zm_150 (by decide) rfl ?_
    refine E_aload_n (pc := 22) (zDk zD_150_ok 13 rfl) rfl ?_
    refine E_getR (pc := 23) (ci := 7) (f := 1) (r := 3) (zDk zD_150_ok 14 rfl) zc_150 (by decide +kernel) (by decide) zis_7_0 (by decide +kernel) (by decide) ?_
    refine E_getR (pc := 26) (ci := 6) (f := 12) (r := 7) (zDk zD_150_ok 15 rfl) zc_150 (by decide +kernel) (by decide) zis_6_3 (by decide +kernel) (by decide) ?_
    refine E_iload_n (pc := 29) (zDk zD_150_ok 16 rfl) rfl ?_
    obtain ⟨v30, e30, h⟩ := zS_bind h
    refine E_iaload (pc := 30) (zDk zD_150_ok 17 rfl) e30 ?_
    refine W_istore (pc := 31) (L' := [some (.inr (.inr 0)), some (.inl x1), some (.inl x2), some (.inl v20), some (.inl v30), none, none, none, none]) (zDk zD_150_ok 18 rfl) zm_150 (by decide) rfl ?_
    refine E_iload_n (pc := 33) (zDk zD_150_ok 19 rfl) rfl ?_
    refine E_iload (pc := 34) (zDk zD_150_ok 20 rfl) rfl ?_
    refine E_icmp (pc := 36) (t := 41) (zDk zD_150_ok 21 rfl) rfl (fun hz => ?_) (fun hz => ?_)
    · have h := zS_f h (T_ne hz)
      refine E_iconst (pc := 41) (zDk zD_150_ok 24 rfl) (by decide +kernel) ?_
      refine E_aload_n (pc := 42) (zDk zD_150_ok 25 rfl) rfl ?_
      refine E_getR (pc := 43) (ci := 7) (f := 1) (r := 3) (zDk zD_150_ok 26 rfl) zc_150 (by decide +kernel) (by decide) zis_7_0 (by decide +kernel) (by decide) ?_
      refine E_getI (pc := 46) (ci := 6) (f := 5) (zDk zD_150_ok 27 rfl) zc_150 (by decide +kernel) (by decide) zis_6_3 ?_
      refine E_ishl (pc := 49) (zDk zD_150_ok 28 rfl) ?_
      refine W_istore (pc := 50) (L' := [some (.inr (.inr 0)), some (.inl x1), some (.inl x2), some (.inl v20), some (.inl v30), some (.inl (zshl (1 : Int) (M 3 5))), none, none, none]) (zDk zD_150_ok 29 rfl) zm_150 (by decide) rfl ?_
      refine E_iconst (pc := 52) (zDk zD_150_ok 30 rfl) (by decide +kernel) ?_
      refine W_istore (pc := 53) (L' := [some (.inr (.inr 0)), some (.inl x1), some (.inl x2), some (.inl v20), some (.inl v30), some (.inl (zshl (1 : Int) (M 3 5))), some (.inl (0 : Int)), none, none]) (zDk zD_150_ok 31 rfl) zm_150 (by decide) rfl ?_
      exact ok_lX_streetsToCut_c55 hq x1 x2 zN v20 v30 (zshl (1 : Int) (M 3 5)) (0 : Int) M none none h
    · have h := zS_t h (F_ne hz)
      refine E_iconst (pc := 39) (zDk zD_150_ok 22 rfl) (by decide +kernel) ?_
      have h := zS_some h
      exact E_ireturn (pc := 40) (zDk zD_150_ok 23 rfl) zt_150 h
  · have h := zS_t h (F_ne hz)
    refine E_bipush (pc := 9) (zDk zD_150_ok 5 rfl) (by decide +kernel) ?_
    have h := zS_some h
    exact E_ireturn (pc := 11) (zDk zD_150_ok 6 rfl) zt_150 h
def zD_204 : List (Nat × Instr × Nat) := [(0, .aload_n (0), 1), (1, .iconst (0), 1), (2, .aload_n (0), 1), (3, .getfield (31), 3), (6, .iconst (0), 1), (7, .iaload, 1), (8, .iconst (1), 1), (9, .isub, 1), (10, .invokevirtual (173), 3), (13, .ireturn, 1)]
set_option maxRecDepth 100000 in
theorem zD_204_ok : zDo 204 zD_204 = true := by decide +kernel
theorem zc_204 : zcls 204 = 8 := by decide +kernel
theorem zm_204 : zml 204 = 1 := by decide +kernel
theorem zt_204 : zrt 204 = (some (.int)) := by decide +kernel
theorem zk_204 : zkd 204 = 1 ∧ znp 204 + 1 = 1 := by decide +kernel
theorem zr_204 (as : List zV) : zrk 204 as = 3 := by unfold zrk; rw [if_neg (by decide)]; decide +kernel
def lm_freshCorner (M : Nat → Nat → Int) : Option (Int × (Nat → Nat → Int)) :=
    ((rdI 112 (0 : Int) M).bind (fun v7 =>
    ((lm_number (0 : Int) (w32 (v7 - (1 : Int))) M).bind (fun r10_ =>
    (some (r10_.1, r10_.2))))))
set_option maxRecDepth 100000 in
theorem ok_lm_freshCorner {sc : zSc} {M : Nat → Nat → Int} {P : Int → (Nat → Nat → Int) → Prop} (h : zS (lm_freshCorner M) (fun r => P r.1 r.2)) : zCi sc 204 [.inr (.inr 106)] M P := by
  have ea : zarg (zml 204) [.inr (.inr 106)] = [some (.inr (.inr 106))] := by rw [zm_204]; rfl
  unfold zCi zCw
  rw [ea, zr_204]
  have hq : 3 ≤ 3 := Nat.le_refl _
  unfold lm_freshCorner at h
  have h := zS_mono h (fun x hx => (⟨x.1, rfl, hx⟩ : ∃ y, (some (.inl x.1) : Option zV) = some (.inl y) ∧ P y x.2))
  skip
  refine E_aload_n (pc := 0) (zDk zD_204_ok 0 rfl) rfl ?_
  refine E_iconst (pc := 1) (zDk zD_204_ok 1 rfl) (by decide +kernel) ?_
  refine E_aload_n (pc := 2) (zDk zD_204_ok 2 rfl) rfl ?_
  refine E_getR (pc := 3) (ci := 8) (f := 14) (r := 112) (zDk zD_204_ok 3 rfl) zc_204 (by decide +kernel) (by decide) zis_8_106 (by decide +kernel) (by decide) ?_
  refine E_iconst (pc := 6) (zDk zD_204_ok 4 rfl) (by decide +kernel) ?_
  obtain ⟨v7, e7, h⟩ := zS_bind h
  refine E_iaload (pc := 7) (zDk zD_204_ok 5 rfl) e7 ?_
  refine E_iconst (pc := 8) (zDk zD_204_ok 6 rfl) (by decide +kernel) ?_
  refine W_isub (pc := 9) (zDk zD_204_ok 7 rfl) ?_
  obtain ⟨r10_, e10, h⟩ := zS_bind h
  refine E_virI (pc := 10) (c := 201) (r := 106) (as := [.inl (0 : Int), .inl (w32 (v7 - (1 : Int)))]) (rest := []) (zDk zD_204_ok 8 rfl) zc_204 (by decide +kernel) zk_201 ⟨(Nat.le_of_ble_eq_true rfl), rfl, rfl⟩ (Nat.le_of_ble_eq_true rfl) (zr_201 _) (Nat.lt_of_lt_of_le (by decide) hq) (by rw [zm_201]; exact (Nat.le_of_ble_eq_true rfl)) ⟨zc_201, by decide⟩ zis_8_106 (ok_lm_number ⟨r10_, e10, ?_⟩)
  have h := zS_some h
  exact E_ireturn (pc := 13) (zDk zD_204_ok 9 rfl) zt_204 h
def zD_208 : List (Nat × Instr × Nat) := [(0, .aload_n (0), 1), (1, .invokevirtual (143), 3), (4, .ifCond .eq (50), 3), (7, .aload_n (0), 1), (8, .getfield (119), 3), (11, .iconst (2), 1), (12, .if_icmp .ne (42), 3), (15, .aload_n (0), 1), (16, .getfield (130), 3), (19, .i2l, 1), (20, .lconst (0), 1), (21, .aload_n (0), 1), (22, .getfield (31), 3), (25, .bipush (6), 2), (27, .iaload, 1), (28, .iconst (1), 1), (29, .isub, 1), (30, .i2l, 1), (31, .invokestatic (91), 3), (34, .ifCond .eq (20), 3), (37, .iload_n (1), 1), (38, .aload_n (0), 1), (39, .getfield (130), 3), (42, .invokestatic (202), 3), (45, .iconst (1), 1), (46, .if_icmp .ne (8), 3), (49, .aload_n (0), 1), (50, .iconst (2), 1), (51, .invokevirtual (165), 3), (54, .aload_n (0), 1), (55, .iconst (0), 1), (56, .aload_n (0), 1), (57, .getfield (31), 3), (60, .bipush (6), 2), (62, .iaload, 1), (63, .iconst (1), 1), (64, .isub, 1), (65, .invokevirtual (173), 3), (68, .istore_n (2), 1), (69, .aload_n (0), 1), (70, .invokevirtual (143), 3), (73, .ifCond .eq (11), 3), (76, .iload_n (1), 1), (77, .iconst (1), 1), (78, .iload_n (2), 1), (79, .ishl, 1), (80, .ior, 1), (81, .goto (4), 3), (84, .iload_n (1), 1), (85, .ireturn, 1)]
set_option maxRecDepth 100000 in
theorem zD_208_ok : zDo 208 zD_208 = true := by decide +kernel
theorem zc_208 : zcls 208 = 8 := by decide +kernel
theorem zm_208 : zml 208 = 3 := by decide +kernel
theorem zt_208 : zrt 208 = (some (.int)) := by decide +kernel
theorem zk_208 : zkd 208 = 1 ∧ znp 208 + 1 = 2 := by decide +kernel
theorem zr_208 (as : List zV) : zrk 208 as = 3 := by unfold zrk; rw [if_neg (by decide)]; decide +kernel
def lm_freshName_c54 (x1 : Int) (M : Nat → Nat → Int) : Option (Int × (Nat → Nat → Int)) :=
    ((rdI 112 (6 : Int) M).bind (fun v62 =>
    ((lm_number (0 : Int) (w32 (v62 - (1 : Int))) M).bind (fun r65_ =>
    ((lm_good r65_.2).bind (fun v70 =>
    (if v70 = 0 then
    (some (x1, r65_.2))
    else
    (some ((zor x1 (zshl (1 : Int) r65_.1)), r65_.2)))))))))
set_option maxRecDepth 100000 in
theorem ok_lm_freshName_c54 {sc : zSc} {q : Nat} {P : Option zV → (Nat → Nat → Int) → Prop} (hq : 3 ≤ q) (x1 : Int) : ∀ (M : Nat → Nat → Int) (d2 : Option zV), zS (lm_freshName_c54 x1 M) (fun r => P (some (.inl r.1)) r.2) → zWp sc q 208 54 [some (.inr (.inr 106)), some (.inl x1), d2] [] M P := by
  intro M d2 h
  unfold lm_freshName_c54 at h
  refine E_aload_n (pc := 54) (zDk zD_208_ok 29 rfl) rfl ?_
  refine E_iconst (pc := 55) (zDk zD_208_ok 30 rfl) (by decide +kernel) ?_
  refine E_aload_n (pc := 56) (zDk zD_208_ok 31 rfl) rfl ?_
  refine E_getR (pc := 57) (ci := 8) (f := 14) (r := 112) (zDk zD_208_ok 32 rfl) zc_208 (by decide +kernel) (by decide) zis_8_106 (by decide +kernel) (by decide) ?_
  refine E_bipush (pc := 60) (zDk zD_208_ok 33 rfl) (by decide +kernel) ?_
  obtain ⟨v62, e62, h⟩ := zS_bind h
  refine E_iaload (pc := 62) (zDk zD_208_ok 34 rfl) e62 ?_
  refine E_iconst (pc := 63) (zDk zD_208_ok 35 rfl) (by decide +kernel) ?_
  refine W_isub (pc := 64) (zDk zD_208_ok 36 rfl) ?_
  obtain ⟨r65_, e65, h⟩ := zS_bind h
  refine E_virI (pc := 65) (c := 201) (r := 106) (as := [.inl (0 : Int), .inl (w32 (v62 - (1 : Int)))]) (rest := []) (zDk zD_208_ok 37 rfl) zc_208 (by decide +kernel) zk_201 ⟨(Nat.le_of_ble_eq_true rfl), rfl, rfl⟩ (Nat.le_of_ble_eq_true rfl) (zr_201 _) (Nat.lt_of_lt_of_le (by decide) hq) (by rw [zm_201]; exact (Nat.le_of_ble_eq_true rfl)) ⟨zc_201, by decide⟩ zis_8_106 (ok_lm_number ⟨r65_, e65, ?_⟩)
  refine W_istore_n (pc := 68) (L' := [some (.inr (.inr 106)), some (.inl x1), some (.inl r65_.1)]) (zDk zD_208_ok 38 rfl) zm_208 (by decide) rfl ?_
  refine E_aload_n (pc := 69) (zDk zD_208_ok 39 rfl) rfl ?_
  obtain ⟨v70, e70, h⟩ := zS_bind h
  refine E_virI (pc := 70) (c := 196) (r := 106) (as := []) (rest := []) (zDk zD_208_ok 40 rfl) zc_208 (by decide +kernel) zk_196 ⟨(Nat.le_of_ble_eq_true rfl), rfl, rfl⟩ (Nat.le_of_ble_eq_true rfl) (zr_196 _) (Nat.lt_of_lt_of_le (by decide) hq) (by rw [zm_196]; exact (Nat.le_of_ble_eq_true rfl)) ⟨zc_196, by decide⟩ zis_8_106 (ok_lm_good ⟨v70, e70, ?_⟩)
  refine E_if (pc := 73) (t := 84) (zDk zD_208_ok 41 rfl) rfl (fun hz => ?_) (fun hz => ?_)
  · have h := zS_t h (T_eq hz)
    refine E_iload_n (pc := 84) (zDk zD_208_ok 48 rfl) rfl ?_
    have h := zS_some h
    exact E_ireturn (pc := 85) (zDk zD_208_ok 49 rfl) zt_208 h
  · have h := zS_f h (F_eq hz)
    refine E_iload_n (pc := 76) (zDk zD_208_ok 42 rfl) rfl ?_
    refine E_iconst (pc := 77) (zDk zD_208_ok 43 rfl) (by decide +kernel) ?_
    refine E_iload_n (pc := 78) (zDk zD_208_ok 44 rfl) rfl ?_
    refine E_ishl (pc := 79) (zDk zD_208_ok 45 rfl) ?_
    refine E_ior (pc := 80) (zDk zD_208_ok 46 rfl) ?_
    refine E_goto (pc := 81) (t := 85) (zDk zD_208_ok 47 rfl) rfl ?_
    have h := zS_some h
    exact E_ireturn (pc := 85) (zDk zD_208_ok 49 rfl) zt_208 h
def lm_freshName (x1 : Int) (M : Nat → Nat → Int) : Option (Int × (Nat → Nat → Int)) :=
    ((lm_good M).bind (fun v1 =>
    (if v1 = 0 then
    (lm_freshName_c54 x1 M)
    else
    (if (M 106 10) = (2 : Int) then
    ((rdI 112 (6 : Int) M).bind (fun v27 =>
    ((lm_in (M 106 11) (0 : Int) (w32 (v27 - (1 : Int))) M).bind (fun v31 =>
    (if v31 = 0 then
    (lm_freshName_c54 x1 M)
    else
    ((lm_bit x1 (M 106 11) M).bind (fun v42 =>
    (if v42 = (1 : Int) then
    ((lm_errs (2 : Int) M).bind (fun M51 =>
    (lm_freshName_c54 x1 M51)))
    else
    (lm_freshName_c54 x1 M)))))))))
    else
    (lm_freshName_c54 x1 M)))))
set_option maxRecDepth 100000 in
theorem ok_lm_freshName {sc : zSc} {x1 : Int} {M : Nat → Nat → Int} {P : Int → (Nat → Nat → Int) → Prop} (h : zS (lm_freshName x1 M) (fun r => P r.1 r.2)) : zCi sc 208 [.inr (.inr 106), .inl x1] M P := by
  have ea : zarg (zml 208) [.inr (.inr 106), .inl x1] = [some (.inr (.inr 106)), some (.inl x1), none] := by rw [zm_208]; rfl
  unfold zCi zCw
  rw [ea, zr_208]
  have hq : 3 ≤ 3 := Nat.le_refl _
  unfold lm_freshName at h
  have h := zS_mono h (fun x hx => (⟨x.1, rfl, hx⟩ : ∃ y, (some (.inl x.1) : Option zV) = some (.inl y) ∧ P y x.2))
  skip
  refine E_aload_n (pc := 0) (zDk zD_208_ok 0 rfl) rfl ?_
  obtain ⟨v1, e1, h⟩ := zS_bind h
  refine E_virI (pc := 1) (c := 196) (r := 106) (as := []) (rest := []) (zDk zD_208_ok 1 rfl) zc_208 (by decide +kernel) zk_196 ⟨(Nat.le_of_ble_eq_true rfl), rfl, rfl⟩ (Nat.le_of_ble_eq_true rfl) (zr_196 _) (Nat.lt_of_lt_of_le (by decide) hq) (by rw [zm_196]; exact (Nat.le_of_ble_eq_true rfl)) ⟨zc_196, by decide⟩ zis_8_106 (ok_lm_good ⟨v1, e1, ?_⟩)
  refine E_if (pc := 4) (t := 54) (zDk zD_208_ok 2 rfl) rfl (fun hz => ?_) (fun hz => ?_)
  · have h := zS_t h (T_eq hz)
    exact ok_lm_freshName_c54 hq x1 M none h
  · have h := zS_f h (F_eq hz)
    refine E_aload_n (pc := 7) (zDk zD_208_ok 3 rfl) rfl ?_
    refine E_getI (pc := 8) (ci := 8) (f := 10) (zDk zD_208_ok 4 rfl) zc_208 (by decide +kernel) (by decide) zis_8_106 ?_
    refine E_iconst (pc := 11) (zDk zD_208_ok 5 rfl) (by decide +kernel) ?_
    refine E_icmp (pc := 12) (t := 54) (zDk zD_208_ok 6 rfl) rfl (fun hz => ?_) (fun hz => ?_)
    · have h := zS_f h (T_ne hz)
      exact ok_lm_freshName_c54 hq x1 M none h
    · have h := zS_t h (F_ne hz)
      refine E_aload_n (pc := 15) (zDk zD_208_ok 7 rfl) rfl ?_
      refine E_getI (pc := 16) (ci := 8) (f := 11) (zDk zD_208_ok 8 rfl) zc_208 (by decide +kernel) (by decide) zis_8_106 ?_
      refine E_i2l (pc := 19) (zDk zD_208_ok 9 rfl) ?_
      refine E_lconst (pc := 20) (v := 0) (zDk zD_208_ok 10 rfl) (by decide +kernel) ?_
      refine E_aload_n (pc := 21) (zDk zD_208_ok 11 rfl) rfl ?_
      refine E_getR (pc := 22) (ci := 8) (f := 14) (r := 112) (zDk zD_208_ok 12 rfl) zc_208 (by decide +kernel) (by decide) zis_8_106 (by decide +kernel) (by decide) ?_
      refine E_bipush (pc := 25) (zDk zD_208_ok 13 rfl) (by decide +kernel) ?_
      obtain ⟨v27, e27, h⟩ := zS_bind h
      refine E_iaload (pc := 27) (zDk zD_208_ok 14 rfl) e27 ?_
      refine E_iconst (pc := 28) (zDk zD_208_ok 15 rfl) (by decide +kernel) ?_
      refine W_isub (pc := 29) (zDk zD_208_ok 16 rfl) ?_
      refine E_i2l (pc := 30) (zDk zD_208_ok 17 rfl) ?_
      obtain ⟨v31, e31, h⟩ := zS_bind h
      refine E_staI (pc := 31) (c := 176) (as := [.inr (.inl (M 106 11)), .inr (.inl (0 : Int)), .inr (.inl (w32 (v27 - (1 : Int))))]) (rest := []) (zDk zD_208_ok 18 rfl) zc_208 (by decide +kernel) (by decide +kernel) zk_176 ⟨(Nat.le_of_ble_eq_true rfl), rfl, rfl⟩ (Nat.le_of_ble_eq_true rfl) (zr_176 _) (Nat.lt_of_lt_of_le (by decide) hq) (by rw [zm_176]; exact (Nat.le_of_ble_eq_true rfl)) (ok_lm_in ⟨v31, e31, ?_⟩)
      refine E_if (pc := 34) (t := 54) (zDk zD_208_ok 19 rfl) rfl (fun hz => ?_) (fun hz => ?_)
      · have h := zS_t h (T_eq hz)
        exact ok_lm_freshName_c54 hq x1 M none h
      · have h := zS_f h (F_eq hz)
        refine E_iload_n (pc := 37) (zDk zD_208_ok 20 rfl) rfl ?_
        refine E_aload_n (pc := 38) (zDk zD_208_ok 21 rfl) rfl ?_
        refine E_getI (pc := 39) (ci := 8) (f := 11) (zDk zD_208_ok 22 rfl) zc_208 (by decide +kernel) (by decide) zis_8_106 ?_
        obtain ⟨v42, e42, h⟩ := zS_bind h
        refine E_staI (pc := 42) (c := 178) (as := [.inl x1, .inl (M 106 11)]) (rest := []) (zDk zD_208_ok 23 rfl) zc_208 (by decide +kernel) (by decide +kernel) zk_178 ⟨(Nat.le_of_ble_eq_true rfl), rfl, rfl⟩ (Nat.le_of_ble_eq_true rfl) (zr_178 _) (Nat.lt_of_lt_of_le (by decide) hq) (by rw [zm_178]; exact (Nat.le_of_ble_eq_true rfl)) (ok_lm_bit ⟨v42, e42, ?_⟩)
        refine E_iconst (pc := 45) (zDk zD_208_ok 24 rfl) (by decide +kernel) ?_
        refine E_icmp (pc := 46) (t := 54) (zDk zD_208_ok 25 rfl) rfl (fun hz => ?_) (fun hz => ?_)
        · have h := zS_f h (T_ne hz)
          exact ok_lm_freshName_c54 hq x1 M none h
        · have h := zS_t h (F_ne hz)
          refine E_aload_n (pc := 49) (zDk zD_208_ok 26 rfl) rfl ?_
          refine E_iconst (pc := 50) (zDk zD_208_ok 27 rfl) (by decide +kernel) ?_
          obtain ⟨M51, e51, h⟩ := zS_bind h
          refine E_virV (pc := 51) (c := 197) (r := 106) (as := [.inl (2 : Int)]) (rest := []) (zDk zD_208_ok 28 rfl) zc_208 (by decide +kernel) zk_197 ⟨(Nat.le_of_ble_eq_true rfl), rfl, rfl⟩ (Nat.le_of_ble_eq_true rfl) (zr_197 _) (Nat.lt_of_lt_of_le (by decide) hq) (by rw [zm_197]; exact (Nat.le_of_ble_eq_true rfl)) ⟨zc_197, by decide⟩ zis_8_106 (ok_lm_errs ⟨M51, e51, ?_⟩)
          exact ok_lm_freshName_c54 hq x1 M51 none h
def zD_228 : List (Nat × Instr × Nat) := [(0, .iconst (0), 1), (1, .istore_n (1), 1), (2, .iload_n (1), 1), (3, .bipush (6), 2), (5, .if_icmp .ge (23), 3), (8, .aload_n (0), 1), (9, .getfield (52), 3), (12, .iload_n (1), 1), (13, .iconst (-1), 1), (14, .iastore, 1), (15, .aload_n (0), 1), (16, .getfield (55), 3), (19, .iload_n (1), 1), (20, .iconst (-1), 1), (21, .iastore, 1), (22, .iinc (1) (1), 3), (25, .goto (-23), 3), (28, .iconst (0), 1), (29, .istore_n (1), 1), (30, .iload_n (1), 1), (31, .iconst (5), 1), (32, .if_icmp .ge (54), 3), (35, .aload_n (0), 1), (36, .getfield (46), 3), (39, .iload_n (1), 1), (40, .aload_n (0), 1), (41, .getfield (34), 3), (44, .iload_n (1), 1), (45, .iaload, 1), (46, .iastore, 1), (47, .aload_n (0), 1), (48, .getfield (49), 3), (51, .iload_n (1), 1), (52, .aload_n (0), 1), (53, .getfield (37), 3), (56, .iload_n (1), 1), (57, .iaload, 1), (58, .iastore, 1), (59, .aload_n (0), 1), (60, .getfield (58), 3), (63, .iload_n (1), 1), (64, .iconst (0), 1), (65, .iastore, 1), (66, .aload_n (0), 1), (67, .getfield (61), 3), (70, .iload_n (1), 1), (71, .iconst (0), 1), (72, .iastore, 1), (73, .aload_n (0), 1), (74, .getfield (64), 3), (77, .iload_n (1), 1), (78, .iconst (0), 1), (79, .iastore, 1), (80, .iinc (1) (1), 3), (83, .goto (-53), 3), (86, .iconst (0), 1), (87, .istore_n (1), 1), (88, .iload_n (1), 1), (89, .aload_n (0), 1), (90, .invokevirtual (99), 3), (93, .if_icmp .gt (95), 3), (96, .iconst (0), 1), (97, .istore_n (2), 1), (98, .iload_n (2), 1), (99, .aload_n (0), 1), (100, .invokevirtual (279), 3), (103, .if_icmp .ge (61), 3), (106, .bipush (60), 2), (108, .aload_n (0), 1), (109, .iload_n (2), 1), (110, .iload_n (1), 1), (111, .invokevirtual (285), 3), (114, .aload_n (0), 1), (115, .getfield (40), 3), (118, .aload_n (0), 1), (119, .iload_n (2), 1), (120, .iload_n (1), 1), (121, .invokevirtual (276), 3), (124, .iaload, 1), (125, .iadd, 1), (126, .invokestatic (134), 3), (129, .istore_n (3), 1), (130, .aload_n (0), 1), (131, .getfield (64), 3), (134, .iload_n (2), 1), (135, .dup2, 1), (136, .iaload, 1), (137, .iload_n (3), 1), (138, .aload_n (0), 1), (139, .iload_n (2), 1), (140, .iload_n (1), 1), (141, .invokevirtual (285), 3), (144, .isub, 1), (145, .iadd, 1), (146, .iastore, 1), (147, .aload_n (0), 1), (148, .getfield (49), 3), (151, .iconst (5), 1), (152, .iload_n (1), 1), (153, .imul, 1), (154, .iload_n (2), 1), (155, .iadd, 1), (156, .iload_n (3), 1), (157, .iastore, 1), (158, .iinc (2) (1), 3), (161, .goto (-63), 3), (164, .aload_n (0), 1), (165, .iload_n (1), 1), (166, .invokevirtual (299), 3), (169, .iload_n (1), 1), (170, .aload_n (0), 1), (171, .invokevirtual (99), 3), (174, .if_icmp .ge (8), 3), (177, .aload_n (0), 1), (178, .iload_n (1), 1), (179, .invokevirtual (302), 3), (182, .iinc (1) (1), 3), (185, .goto (-97), 3), (188, .return_, 1)]
set_option maxRecDepth 100000 in
theorem zD_228_ok : zDo 228 zD_228 = true := by decide +kernel
theorem zc_228 : zcls 228 = 8 := by decide +kernel
theorem zm_228 : zml 228 = 4 := by decide +kernel
theorem zt_228 : zrt 228 = none := by decide +kernel
theorem zk_228 : zkd 228 = 1 ∧ znp 228 + 1 = 1 := by decide +kernel
theorem zr_228 (as : List zV) : zrk 228 as = 3 := by unfold zrk; rw [if_neg (by decide)]; decide +kernel
def lm_goAll_c98 (h88 : Int → (Nat → Nat → Int) → Option (Nat → Nat → Int)) : Nat → Int → Int → (Nat → Nat → Int) → Option (Nat → Nat → Int)
  | 0, _, _, _ => none
  | n + 1, y1, y2, M =>
    ((lm_names M).bind (fun v100 =>
    (if y2 < v100 then
    ((lm_inkIn y2 y1 M).bind (fun v111 =>
    ((lm_placeOf y2 y1 M).bind (fun v121 =>
    ((rdI 115 v121 M).bind (fun v124 =>
    ((rdI 123 y2 M).bind (fun v136 =>
    ((lm_inkIn y2 y1 M).bind (fun v141 =>
    ((wrI 123 y2 (w32 (v136 + (w32 ((zmin (60 : Int) (w32 (v111 + v124))) - v141)))) M).bind (fun M146 =>
    ((wrI 118 (w32 ((w32 ((5 : Int) * y1)) + y2)) (zmin (60 : Int) (w32 (v111 + v124))) M146).bind (fun M157 =>
    ((lm_goAll_c98 h88 n) y1 (w32 (y2 + 1)) M157)))))))))))))))
    else
    ((lm_goSigns y1 M).bind (fun M166 =>
    ((lm_last M166).bind (fun v171 =>
    (if y1 < v171 then
    ((lm_goOn y1 M166).bind (fun M179 =>
    (h88 (w32 (y1 + 1)) M179)))
    else
    (h88 (w32 (y1 + 1)) M166)))))))))
set_option maxRecDepth 100000 in
theorem ok_lm_goAll_c98 {sc : zSc} {q : Nat} {P : Option zV → (Nat → Nat → Int) → Prop} (hq : 3 ≤ q) (h88 : Int → (Nat → Nat → Int) → Option (Nat → Nat → Int)) (H88 : ∀ (y1 : Int) (M : Nat → Nat → Int) (d2 d3 : Option zV), zS (h88 y1 M) (fun M0 => P none M0) → zWp sc q 228 88 [some (.inr (.inr 106)), some (.inl y1), d2, d3] [] M P) : ∀ (n : Nat) (y1 : Int) (y2 : Int) (M : Nat → Nat → Int) (d3 : Option zV), zS (lm_goAll_c98 h88 n y1 y2 M) (fun M0 => P none M0) → zWp sc q 228 98 [some (.inr (.inr 106)), some (.inl y1), some (.inl y2), d3] [] M P := by
  intro n
  induction n with
  | zero => intro y1 y2 M d3 h; exact (zS_none h).elim
  | succ n ih =>
    intro y1 y2 M d3 h
    rw [lm_goAll_c98] at h
    refine E_iload_n (pc := 98) (zDk zD_228_ok 63 rfl) rfl ?_
    refine E_aload_n (pc := 99) (zDk zD_228_ok 64 rfl) rfl ?_
    obtain ⟨v100, e100, h⟩ := zS_bind h
    refine E_virI (pc := 100) (c := 189) (r := 106) (as := []) (rest := [.inl y2]) (zDk zD_228_ok 65 rfl) zc_228 (by decide +kernel) zk_189 ⟨(Nat.le_of_ble_eq_true rfl), rfl, rfl⟩ (Nat.le_of_ble_eq_true rfl) (zr_189 _) (Nat.lt_of_lt_of_le (by decide) hq) (by rw [zm_189]; exact (Nat.le_of_ble_eq_true rfl)) ⟨zc_189, by decide⟩ zis_8_106 (ok_lm_names ⟨v100, e100, ?_⟩)
    refine E_icmp (pc := 103) (t := 164) (zDk zD_228_ok 66 rfl) rfl (fun hz => ?_) (fun hz => ?_)
    · have h := zS_f h (Int.not_lt.mpr (T_ge hz))
      refine E_aload_n (pc := 164) (zDk zD_228_ok 106 rfl) rfl ?_
      refine E_iload_n (pc := 165) (zDk zD_228_ok 107 rfl) rfl ?_
      obtain ⟨M166, e166, h⟩ := zS_bind h
      refine E_virV (pc := 166) (c := 227) (r := 106) (as := [.inl y1]) (rest := []) (zDk zD_228_ok 108 rfl) zc_228 (by decide +kernel) zk_227 ⟨(Nat.le_of_ble_eq_true rfl), rfl, rfl⟩ (Nat.le_of_ble_eq_true rfl) (zr_227 _) (Nat.lt_of_lt_of_le (by decide) hq) (by rw [zm_227]; exact (Nat.le_of_ble_eq_true rfl)) ⟨zc_227, by decide⟩ zis_8_106 (ok_lm_goSigns ⟨M166, e166, ?_⟩)
      refine E_iload_n (pc := 169) (zDk zD_228_ok 109 rfl) rfl ?_
      refine E_aload_n (pc := 170) (zDk zD_228_ok 110 rfl) rfl ?_
      obtain ⟨v171, e171, h⟩ := zS_bind h
      refine E_virI (pc := 171) (c := 182) (r := 106) (as := []) (rest := [.inl y1]) (zDk zD_228_ok 111 rfl) zc_228 (by decide +kernel) zk_182 ⟨(Nat.le_of_ble_eq_true rfl), rfl, rfl⟩ (Nat.le_of_ble_eq_true rfl) (zr_182 _) (Nat.lt_of_lt_of_le (by decide) hq) (by rw [zm_182]; exact (Nat.le_of_ble_eq_true rfl)) ⟨zc_182, by decide⟩ zis_8_106 (ok_lm_last ⟨v171, e171, ?_⟩)
      refine E_icmp (pc := 174) (t := 182) (zDk zD_228_ok 112 rfl) rfl (fun hz => ?_) (fun hz => ?_)
      · have h := zS_f h (Int.not_lt.mpr (T_ge hz))
        refine W_iinc (pc := 182) (L' := [some (.inr (.inr 106)), some (.inl (w32 (y1 + 1))), some (.inl y2), d3]) (zDk zD_228_ok 116 rfl) rfl zm_228 (by decide) rfl ?_
        refine E_goto (pc := 185) (t := 88) (zDk zD_228_ok 117 rfl) rfl ?_
        exact H88 (w32 (y1 + 1)) M166 (some (.inl y2)) d3 h
      · have h := zS_t h (F_ge hz)
        refine E_aload_n (pc := 177) (zDk zD_228_ok 113 rfl) rfl ?_
        refine E_iload_n (pc := 178) (zDk zD_228_ok 114 rfl) rfl ?_
        obtain ⟨M179, e179, h⟩ := zS_bind h
        refine E_virV (pc := 179) (c := 224) (r := 106) (as := [.inl y1]) (rest := []) (zDk zD_228_ok 115 rfl) zc_228 (by decide +kernel) zk_224 ⟨(Nat.le_of_ble_eq_true rfl), rfl, rfl⟩ (Nat.le_of_ble_eq_true rfl) (zr_224 _) (Nat.lt_of_lt_of_le (by decide) hq) (by rw [zm_224]; exact (Nat.le_of_ble_eq_true rfl)) ⟨zc_224, by decide⟩ zis_8_106 (ok_lm_goOn ⟨M179, e179, ?_⟩)
        refine W_iinc (pc := 182) (L' := [some (.inr (.inr 106)), some (.inl (w32 (y1 + 1))), some (.inl y2), d3]) (zDk zD_228_ok 116 rfl) rfl zm_228 (by decide) rfl ?_
        refine E_goto (pc := 185) (t := 88) (zDk zD_228_ok 117 rfl) rfl ?_
        exact H88 (w32 (y1 + 1)) M179 (some (.inl y2)) d3 h
    · have h := zS_t h (F_ge hz)
      refine E_bipush (pc := 106) (zDk zD_228_ok 67 rfl) (by decide +kernel) ?_
      refine E_aload_n (pc := 108) (zDk zD_228_ok 68 rfl) rfl ?_
      refine E_iload_n (pc := 109) (zDk zD_228_ok 69 rfl) rfl ?_
      refine E_iload_n (pc := 110) (zDk zD_228_ok 70 rfl) rfl ?_
      obtain ⟨v111, e111, h⟩ := zS_bind h
      refine E_virI (pc := 111) (c := 222) (r := 106) (as := [.inl y2, .inl y1]) (rest := [.inl (60 : Int)]) (zDk zD_228_ok 71 rfl) zc_228 (by decide +kernel) zk_222 ⟨(Nat.le_of_ble_eq_true rfl), rfl, rfl⟩ (Nat.le_of_ble_eq_true rfl) (zr_222 _) (Nat.lt_of_lt_of_le (by decide) hq) (by rw [zm_222]; exact (Nat.le_of_ble_eq_true rfl)) ⟨zc_222, by decide⟩ zis_8_106 (ok_lm_inkIn ⟨v111, e111, ?_⟩)
      refine E_aload_n (pc := 114) (zDk zD_228_ok 72 rfl) rfl ?_
      refine E_getR (pc := 115) (ci := 8) (f := 21) (r := 115) (zDk zD_228_ok 73 rfl) zc_228 (by decide +kernel) (by decide) zis_8_106 (by decide +kernel) (by decide) ?_
      refine E_aload_n (pc := 118) (zDk zD_228_ok 74 rfl) rfl ?_
      refine E_iload_n (pc := 119) (zDk zD_228_ok 75 rfl) rfl ?_
      refine E_iload_n (pc := 120) (zDk zD_228_ok 76 rfl) rfl ?_
      obtain ⟨v121, e121, h⟩ := zS_bind h
      refine E_virI (pc := 121) (c := 221) (r := 106) (as := [.inl y2, .inl y1]) (rest := [.inr (.inr 115), .inl v111, .inl (60 : Int)]) (zDk zD_228_ok 77 rfl) zc_228 (by decide +kernel) zk_221 ⟨(Nat.le_of_ble_eq_true rfl), rfl, rfl⟩ (Nat.le_of_ble_eq_true rfl) (zr_221 _) (Nat.lt_of_lt_of_le (by decide) hq) (by rw [zm_221]; exact (Nat.le_of_ble_eq_true rfl)) ⟨zc_221, by decide⟩ zis_8_106 (ok_lm_placeOf ⟨v121, e121, ?_⟩)
      obtain ⟨v124, e124, h⟩ := zS_bind h
      refine E_iaload (pc := 124) (zDk zD_228_ok 78 rfl) e124 ?_
      refine W_iadd (pc := 125) (zDk zD_228_ok 79 rfl) ?_
      refine W_min (pc := 126) (zDk zD_228_ok 80 rfl) zc_228 (by decide +kernel) (Nat.le_of_ble_eq_true rfl) (Nat.lt_of_lt_of_le (by decide) hq) ?_
      refine W_istore_n (pc := 129) (L' := [some (.inr (.inr 106)), some (.inl y1), some (.inl y2), some (.inl (zmin (60 : Int) (w32 (v111 + v124))))]) (zDk zD_228_ok 81 rfl) zm_228 (by decide) rfl ?_
      refine E_aload_n (pc := 130) (zDk zD_228_ok 82 rfl) rfl ?_
      refine E_getR (pc := 131) (ci := 8) (f := 29) (r := 123) (zDk zD_228_ok 83 rfl) zc_228 (by decide +kernel) (by decide) zis_8_106 (by decide +kernel) (by decide) ?_
      refine E_iload_n (pc := 134) (zDk zD_228_ok 84 rfl) rfl ?_
      refine E_dup2 (pc := 135) (zDk zD_228_ok 85 rfl) rfl rfl ?_
      obtain ⟨v136, e136, h⟩ := zS_bind h
      refine E_iaload (pc := 136) (zDk zD_228_ok 86 rfl) e136 ?_
      refine E_iload_n (pc := 137) (zDk zD_228_ok 87 rfl) rfl ?_
      refine E_aload_n (pc := 138) (zDk zD_228_ok 88 rfl) rfl ?_
      refine E_iload_n (pc := 139) (zDk zD_228_ok 89 rfl) rfl ?_
      refine E_iload_n (pc := 140) (zDk zD_228_ok 90 rfl) rfl ?_
      obtain ⟨v141, e141, h⟩ := zS_bind h
      refine E_virI (pc := 141) (c := 222) (r := 106) (as := [.inl y2, .inl y1]) (rest := [.inl (zmin (60 : Int) (w32 (v111 + v124))), .inl v136, .inl y2, .inr (.inr 123)]) (zDk zD_228_ok 91 rfl) zc_228 (by decide +kernel) zk_222 ⟨(Nat.le_of_ble_eq_true rfl), rfl, rfl⟩ (Nat.le_of_ble_eq_true rfl) (zr_222 _) (Nat.lt_of_lt_of_le (by decide) hq) (by rw [zm_222]; exact (Nat.le_of_ble_eq_true rfl)) ⟨zc_222, by decide⟩ zis_8_106 (ok_lm_inkIn ⟨v141, e141, ?_⟩)
      refine W_isub (pc := 144) (zDk zD_228_ok 92 rfl) ?_
      refine W_iadd (pc := 145) (zDk zD_228_ok 93 rfl) ?_
      obtain ⟨M146, e146, h⟩ := zS_bind h
      refine E_iastore (pc := 146) (zDk zD_228_ok 94 rfl) e146 ?_
      refine E_aload_n (pc := 147) (zDk zD_228_ok 95 rfl) rfl ?_
      refine E_getR (pc := 148) (ci := 8) (f := 24) (r := 118) (zDk zD_228_ok 96 rfl) zc_228 (by decide +kernel) (by decide) zis_8_106 (by decide +kernel) (by decide) ?_
      refine E_iconst (pc := 151) (zDk zD_228_ok 97 rfl) (by decide +kernel) ?_
      refine E_iload_n (pc := 152) (zDk zD_228_ok 98 rfl) rfl ?_
      refine W_imul (pc := 153) (zDk zD_228_ok 99 rfl) ?_
      refine E_iload_n (pc := 154) (zDk zD_228_ok 100 rfl) rfl ?_
      refine W_iadd (pc := 155) (zDk zD_228_ok 101 rfl) ?_
      refine E_iload_n (pc := 156) (zDk zD_228_ok 102 rfl) rfl ?_
      obtain ⟨M157, e157, h⟩ := zS_bind h
      refine E_iastore (pc := 157) (zDk zD_228_ok 103 rfl) e157 ?_
      refine W_iinc (pc := 158) (L' := [some (.inr (.inr 106)), some (.inl y1), some (.inl (w32 (y2 + 1))), some (.inl (zmin (60 : Int) (w32 (v111 + v124))))]) (zDk zD_228_ok 104 rfl) rfl zm_228 (by decide) rfl ?_
      refine E_goto (pc := 161) (t := 98) (zDk zD_228_ok 105 rfl) rfl ?_
      exact (ih) y1 (w32 (y2 + 1)) M157 (some (.inl (zmin (60 : Int) (w32 (v111 + v124))))) h
def lm_goAll_c88 : Nat → Int → (Nat → Nat → Int) → Option (Nat → Nat → Int)
  | 0, _, _ => none
  | n + 1, y1, M =>
    ((lm_last M).bind (fun v90 =>
    (if v90 < y1 then
    (some M)
    else
    (lm_goAll_c98 (lm_goAll_c88 n) zN y1 (0 : Int) M))))
set_option maxRecDepth 100000 in
theorem ok_lm_goAll_c88 {sc : zSc} {q : Nat} {P : Option zV → (Nat → Nat → Int) → Prop} (hq : 3 ≤ q) : ∀ (n : Nat) (y1 : Int) (M : Nat → Nat → Int) (d2 d3 : Option zV), zS (lm_goAll_c88 n y1 M) (fun M0 => P none M0) → zWp sc q 228 88 [some (.inr (.inr 106)), some (.inl y1), d2, d3] [] M P := by
  intro n
  induction n with
  | zero => intro y1 M d2 d3 h; exact (zS_none h).elim
  | succ n ih =>
    intro y1 M d2 d3 h
    rw [lm_goAll_c88] at h
    refine E_iload_n (pc := 88) (zDk zD_228_ok 57 rfl) rfl ?_
    refine E_aload_n (pc := 89) (zDk zD_228_ok 58 rfl) rfl ?_
    obtain ⟨v90, e90, h⟩ := zS_bind h
    refine E_virI (pc := 90) (c := 182) (r := 106) (as := []) (rest := [.inl y1]) (zDk zD_228_ok 59 rfl) zc_228 (by decide +kernel) zk_182 ⟨(Nat.le_of_ble_eq_true rfl), rfl, rfl⟩ (Nat.le_of_ble_eq_true rfl) (zr_182 _) (Nat.lt_of_lt_of_le (by decide) hq) (by rw [zm_182]; exact (Nat.le_of_ble_eq_true rfl)) ⟨zc_182, by decide⟩ zis_8_106 (ok_lm_last ⟨v90, e90, ?_⟩)
    refine E_icmp (pc := 93) (t := 188) (zDk zD_228_ok 60 rfl) rfl (fun hz => ?_) (fun hz => ?_)
    · have h := zS_t h (T_gt hz)
      have h := zS_some h
      exact E_return (x := ()) (pc := 188) (zDk zD_228_ok 118 rfl) zt_228 h
    · have h := zS_f h (Int.not_lt.mpr (F_gt hz))
      refine E_iconst (pc := 96) (zDk zD_228_ok 61 rfl) (by decide +kernel) ?_
      refine W_istore_n (pc := 97) (L' := [some (.inr (.inr 106)), some (.inl y1), some (.inl (0 : Int)), d3]) (zDk zD_228_ok 62 rfl) zm_228 (by decide) rfl ?_
      exact ok_lm_goAll_c98 hq (lm_goAll_c88 n) (ih) zN y1 (0 : Int) M d3 h
def lm_goAll_c30 : Nat → Int → (Nat → Nat → Int) → Option (Nat → Nat → Int)
  | 0, _, _ => none
  | n + 1, y1, M =>
    (if y1 < (5 : Int) then
    ((rdI 113 y1 M).bind (fun v45 =>
    ((wrI 117 y1 v45 M).bind (fun M46 =>
    ((rdI 114 y1 M46).bind (fun v57 =>
    ((wrI 118 y1 v57 M46).bind (fun M58 =>
    ((wrI 121 y1 (0 : Int) M58).bind (fun M65 =>
    ((wrI 122 y1 (0 : Int) M65).bind (fun M72 =>
    ((wrI 123 y1 (0 : Int) M72).bind (fun M79 =>
    ((lm_goAll_c30 n) (w32 (y1 + 1)) M79)))))))))))))))
    else
    (lm_goAll_c88 zN (0 : Int) M))
set_option maxRecDepth 100000 in
theorem ok_lm_goAll_c30 {sc : zSc} {q : Nat} {P : Option zV → (Nat → Nat → Int) → Prop} (hq : 3 ≤ q) : ∀ (n : Nat) (y1 : Int) (M : Nat → Nat → Int) (d2 d3 : Option zV), zS (lm_goAll_c30 n y1 M) (fun M0 => P none M0) → zWp sc q 228 30 [some (.inr (.inr 106)), some (.inl y1), d2, d3] [] M P := by
  intro n
  induction n with
  | zero => intro y1 M d2 d3 h; exact (zS_none h).elim
  | succ n ih =>
    intro y1 M d2 d3 h
    rw [lm_goAll_c30] at h
    refine E_iload_n (pc := 30) (zDk zD_228_ok 19 rfl) rfl ?_
    refine E_iconst (pc := 31) (zDk zD_228_ok 20 rfl) (by decide +kernel) ?_
    refine E_icmp (pc := 32) (t := 86) (zDk zD_228_ok 21 rfl) rfl (fun hz => ?_) (fun hz => ?_)
    · have h := zS_f h (Int.not_lt.mpr (T_ge hz))
      refine E_iconst (pc := 86) (zDk zD_228_ok 55 rfl) (by decide +kernel) ?_
      refine W_istore_n (pc := 87) (L' := [some (.inr (.inr 106)), some (.inl (0 : Int)), d2, d3]) (zDk zD_228_ok 56 rfl) zm_228 (by decide) rfl ?_
      exact ok_lm_goAll_c88 hq zN (0 : Int) M d2 d3 h
    · have h := zS_t h (F_ge hz)
      refine E_aload_n (pc := 35) (zDk zD_228_ok 22 rfl) rfl ?_
      refine E_getR (pc := 36) (ci := 8) (f := 23) (r := 117) (zDk zD_228_ok 23 rfl) zc_228 (by decide +kernel) (by decide) zis_8_106 (by decide +kernel) (by decide) ?_
      refine E_iload_n (pc := 39) (zDk zD_228_ok 24 rfl) rfl ?_
      refine E_aload_n (pc := 40) (zDk zD_228_ok 25 rfl) rfl ?_
      refine E_getR (pc := 41) (ci := 8) (f := 19) (r := 113) (zDk zD_228_ok 26 rfl) zc_228 (by decide +kernel) (by decide) zis_8_106 (by decide +kernel) (by decide) ?_
      refine E_iload_n (pc := 44) (zDk zD_228_ok 27 rfl) rfl ?_
      obtain ⟨v45, e45, h⟩ := zS_bind h
      refine E_iaload (pc := 45) (zDk zD_228_ok 28 rfl) e45 ?_
      obtain ⟨M46, e46, h⟩ := zS_bind h
      refine E_iastore (pc := 46) (zDk zD_228_ok 29 rfl) e46 ?_
      refine E_aload_n (pc := 47) (zDk zD_228_ok 30 rfl) rfl ?_
      refine E_getR (pc := 48) (ci := 8) (f := 24) (r := 118) (zDk zD_228_ok 31 rfl) zc_228 (by decide +kernel) (by decide) zis_8_106 (by decide +kernel) (by decide) ?_
      refine E_iload_n (pc := 51) (zDk zD_228_ok 32 rfl) rfl ?_
      refine E_aload_n (pc := 52) (zDk zD_228_ok 33 rfl) rfl ?_
      refine E_getR (pc := 53) (ci := 8) (f := 20) (r := 114) (zDk zD_228_ok 34 rfl) zc_228 (by decide +kernel) (by decide) zis_8_106 (by decide +kernel) (by decide) ?_
      refine E_iload_n (pc := 56) (zDk zD_228_ok 35 rfl) rfl ?_
      obtain ⟨v57, e57, h⟩ := zS_bind h
      refine E_iaload (pc := 57) (zDk zD_228_ok 36 rfl) e57 ?_
      obtain ⟨M58, e58, h⟩ := zS_bind h
      refine E_iastore (pc := 58) (zDk zD_228_ok 37 rfl) e58 ?_
      refine E_aload_n (pc := 59) (zDk zD_228_ok 38 rfl) rfl ?_
      refine E_getR (pc := 60) (ci := 8) (f := 27) (r := 121) (zDk zD_228_ok 39 rfl) zc_228 (by decide +kernel) (by decide) zis_8_106 (by decide +kernel) (by decide) ?_
      refine E_iload_n (pc := 63) (zDk zD_228_ok 40 rfl) rfl ?_
      refine E_iconst (pc := 64) (zDk zD_228_ok 41 rfl) (by decide +kernel) ?_
      obtain ⟨M65, e65, h⟩ := zS_bind h
      refine E_iastore (pc := 65) (zDk zD_228_ok 42 rfl) e65 ?_
      refine E_aload_n (pc := 66) (zDk zD_228_ok 43 rfl) rfl ?_
      refine E_getR (pc := 67) (ci := 8) (f := 28) (r := 122) (zDk zD_228_ok 44 rfl) zc_228 (by decide +kernel) (by decide) zis_8_106 (by decide +kernel) (by decide) ?_
      refine E_iload_n (pc := 70) (zDk zD_228_ok 45 rfl) rfl ?_
      refine E_iconst (pc := 71) (zDk zD_228_ok 46 rfl) (by decide +kernel) ?_
      obtain ⟨M72, e72, h⟩ := zS_bind h
      refine E_iastore (pc := 72) (zDk zD_228_ok 47 rfl) e72 ?_
      refine E_aload_n (pc := 73) (zDk zD_228_ok 48 rfl) rfl ?_
      refine E_getR (pc := 74) (ci := 8) (f := 29) (r := 123) (zDk zD_228_ok 49 rfl) zc_228 (by decide +kernel) (by decide) zis_8_106 (by decide +kernel) (by decide) ?_
      refine E_iload_n (pc := 77) (zDk zD_228_ok 50 rfl) rfl ?_
      refine E_iconst (pc := 78) (zDk zD_228_ok 51 rfl) (by decide +kernel) ?_
      obtain ⟨M79, e79, h⟩ := zS_bind h
      refine E_iastore (pc := 79) (zDk zD_228_ok 52 rfl) e79 ?_
      refine W_iinc (pc := 80) (L' := [some (.inr (.inr 106)), some (.inl (w32 (y1 + 1))), d2, d3]) (zDk zD_228_ok 53 rfl) rfl zm_228 (by decide) rfl ?_
      refine E_goto (pc := 83) (t := 30) (zDk zD_228_ok 54 rfl) rfl ?_
      exact (ih) (w32 (y1 + 1)) M79 d2 d3 h
def lm_goAll_c2 : Nat → Int → (Nat → Nat → Int) → Option (Nat → Nat → Int)
  | 0, _, _ => none
  | n + 1, y1, M =>
    (if y1 < (6 : Int) then
    ((wrI 119 y1 (-1 : Int) M).bind (fun M14 =>
    ((wrI 120 y1 (-1 : Int) M14).bind (fun M21 =>
    ((lm_goAll_c2 n) (w32 (y1 + 1)) M21)))))
    else
    (lm_goAll_c30 zN (0 : Int) M))
set_option maxRecDepth 100000 in
theorem ok_lm_goAll_c2 {sc : zSc} {q : Nat} {P : Option zV → (Nat → Nat → Int) → Prop} (hq : 3 ≤ q) : ∀ (n : Nat) (y1 : Int) (M : Nat → Nat → Int) (d2 d3 : Option zV), zS (lm_goAll_c2 n y1 M) (fun M0 => P none M0) → zWp sc q 228 2 [some (.inr (.inr 106)), some (.inl y1), d2, d3] [] M P := by
  intro n
  induction n with
  | zero => intro y1 M d2 d3 h; exact (zS_none h).elim
  | succ n ih =>
    intro y1 M d2 d3 h
    rw [lm_goAll_c2] at h
    refine E_iload_n (pc := 2) (zDk zD_228_ok 2 rfl) rfl ?_
    refine E_bipush (pc := 3) (zDk zD_228_ok 3 rfl) (by decide +kernel) ?_
    refine E_icmp (pc := 5) (t := 28) (zDk zD_228_ok 4 rfl) rfl (fun hz => ?_) (fun hz => ?_)
    · have h := zS_f h (Int.not_lt.mpr (T_ge hz))
      refine E_iconst (pc := 28) (zDk zD_228_ok 17 rfl) (by decide +kernel) ?_
      refine W_istore_n (pc := 29) (L' := [some (.inr (.inr 106)), some (.inl (0 : Int)), d2, d3]) (zDk zD_228_ok 18 rfl) zm_228 (by decide) rfl ?_
      exact ok_lm_goAll_c30 hq zN (0 : Int) M d2 d3 h
    · have h := zS_t h (F_ge hz)
      refine E_aload_n (pc := 8) (zDk zD_228_ok 5 rfl) rfl ?_
      refine E_getR (pc := 9) (ci := 8) (f := 25) (r := 119) (zDk zD_228_ok 6 rfl) zc_228 (by decide +kernel) (by decide) zis_8_106 (by decide +kernel) (by decide) ?_
      refine E_iload_n (pc := 12) (zDk zD_228_ok 7 rfl) rfl ?_
      refine E_iconst (pc := 13) (zDk zD_228_ok 8 rfl) (by decide +kernel) ?_
      obtain ⟨M14, e14, h⟩ := zS_bind h
      refine E_iastore (pc := 14) (zDk zD_228_ok 9 rfl) e14 ?_
      refine E_aload_n (pc := 15) (zDk zD_228_ok 10 rfl) rfl ?_
      refine E_getR (pc := 16) (ci := 8) (f := 26) (r := 120) (zDk zD_228_ok 11 rfl) zc_228 (by decide +kernel) (by decide) zis_8_106 (by decide +kernel) (by decide) ?_
      refine E_iload_n (pc := 19) (zDk zD_228_ok 12 rfl) rfl ?_
      refine E_iconst (pc := 20) (zDk zD_228_ok 13 rfl) (by decide +kernel) ?_
      obtain ⟨M21, e21, h⟩ := zS_bind h
      refine E_iastore (pc := 21) (zDk zD_228_ok 14 rfl) e21 ?_
      refine W_iinc (pc := 22) (L' := [some (.inr (.inr 106)), some (.inl (w32 (y1 + 1))), d2, d3]) (zDk zD_228_ok 15 rfl) rfl zm_228 (by decide) rfl ?_
      refine E_goto (pc := 25) (t := 2) (zDk zD_228_ok 16 rfl) rfl ?_
      exact (ih) (w32 (y1 + 1)) M21 d2 d3 h
def lm_goAll (M : Nat → Nat → Int) : Option (Nat → Nat → Int) :=
    (lm_goAll_c2 zN (0 : Int) M)
set_option maxRecDepth 100000 in
theorem ok_lm_goAll {sc : zSc} {M : Nat → Nat → Int} {P : (Nat → Nat → Int) → Prop} (h : zS (lm_goAll M) P) : zCv sc 228 [.inr (.inr 106)] M P := by
  have ea : zarg (zml 228) [.inr (.inr 106)] = [some (.inr (.inr 106)), none, none, none] := by rw [zm_228]; rfl
  unfold zCv zCw
  rw [ea, zr_228]
  have hq : 3 ≤ 3 := Nat.le_refl _
  unfold lm_goAll at h
  have h := zS_mono h (fun x hx => (⟨rfl, hx⟩ : (none : Option zV) = none ∧ P x))
  skip
  refine E_iconst (pc := 0) (zDk zD_228_ok 0 rfl) (by decide +kernel) ?_
  refine W_istore_n (pc := 1) (L' := [some (.inr (.inr 106)), some (.inl (0 : Int)), none, none]) (zDk zD_228_ok 1 rfl) zm_228 (by decide) rfl ?_
  exact ok_lm_goAll_c2 hq zN (0 : Int) M none none h
def zD_263 : List (Nat × Instr × Nat) := [(0, .aload_n (0), 1), (1, .iload_n (1), 1), (2, .i2l, 1), (3, .invokevirtual (261), 3), (6, .ifCond .eq (12), 3), (9, .aload_n (0), 1), (10, .iload_n (2), 1), (11, .i2l, 1), (12, .invokevirtual (261), 3), (15, .ifCond .ne (6), 3), (18, .bipush (-2), 2), (20, .ireturn, 1), (21, .aload_n (0), 1), (22, .invokevirtual (254), 3), (25, .aload_n (0), 1), (26, .invokevirtual (345), 3), (29, .aload_n (0), 1), (30, .iload_n (1), 1), (31, .iload_n (2), 1), (32, .invokevirtual (342), 3), (35, .invokestatic (348), 3), (38, .ireturn, 1)]
set_option maxRecDepth 100000 in
theorem zD_263_ok : zDo 263 zD_263 = true := by decide +kernel
theorem zc_263 : zcls 263 = 8 := by decide +kernel
theorem zm_263 : zml 263 = 3 := by decide +kernel
theorem zt_263 : zrt 263 = (some (.int)) := by decide +kernel
theorem zk_263 : zkd 263 = 1 ∧ znp 263 + 1 = 3 := by decide +kernel
theorem zr_263 (as : List zV) : zrk 263 as = 3 := by unfold zrk; rw [if_neg (by decide)]; decide +kernel
def lm_way (x1 : Int) (x2 : Int) (M : Nat → Nat → Int) : Option (Int × (Nat → Nat → Int)) :=
    ((lm_isCorner x1 M).bind (fun v3 =>
    (if v3 = 0 then
    (some ((-2 : Int), M))
    else
    ((lm_isCorner x2 M).bind (fun v12 =>
    (if v12 = 0 then
    (some ((-2 : Int), M))
    else
    ((lm_asItIs M).bind (fun M22 =>
    ((lm_layWays M22).bind (fun M26 =>
    ((lm_wayOf x1 x2 M26).bind (fun v32 =>
    ((lm_orNone v32 M26).bind (fun v35 =>
    (some (v35, M26))))))))))))))))
set_option maxRecDepth 100000 in
theorem ok_lm_way {sc : zSc} {x1 : Int} {x2 : Int} {M : Nat → Nat → Int} {P : Int → (Nat → Nat → Int) → Prop} (h : zS (lm_way x1 x2 M) (fun r => P r.1 r.2)) : zCi sc 263 [.inr (.inr 106), .inl x1, .inl x2] M P := by
  have ea : zarg (zml 263) [.inr (.inr 106), .inl x1, .inl x2] = [some (.inr (.inr 106)), some (.inl x1), some (.inl x2)] := by rw [zm_263]; rfl
  unfold zCi zCw
  rw [ea, zr_263]
  have hq : 3 ≤ 3 := Nat.le_refl _
  unfold lm_way at h
  have h := zS_mono h (fun x hx => (⟨x.1, rfl, hx⟩ : ∃ y, (some (.inl x.1) : Option zV) = some (.inl y) ∧ P y x.2))
  skip
  refine E_aload_n (pc := 0) (zDk zD_263_ok 0 rfl) rfl ?_
  refine E_iload_n (pc := 1) (zDk zD_263_ok 1 rfl) rfl ?_
  refine E_i2l (pc := 2) (zDk zD_263_ok 2 rfl) ?_
  obtain ⟨v3, e3, h⟩ := zS_bind h
  refine E_virI (pc := 3) (c := 185) (r := 106) (as := [.inr (.inl x1)]) (rest := []) (zDk zD_263_ok 3 rfl) zc_263 (by decide +kernel) zk_185 ⟨(Nat.le_of_ble_eq_true rfl), rfl, rfl⟩ (Nat.le_of_ble_eq_true rfl) (zr_185 _) (Nat.lt_of_lt_of_le (by decide) hq) (by rw [zm_185]; exact (Nat.le_of_ble_eq_true rfl)) ⟨zc_185, by decide⟩ zis_8_106 (ok_lm_isCorner ⟨v3, e3, ?_⟩)
  refine E_if (pc := 6) (t := 18) (zDk zD_263_ok 4 rfl) rfl (fun hz => ?_) (fun hz => ?_)
  · have h := zS_t h (T_eq hz)
    refine E_bipush (pc := 18) (zDk zD_263_ok 10 rfl) (by decide +kernel) ?_
    have h := zS_some h
    exact E_ireturn (pc := 20) (zDk zD_263_ok 11 rfl) zt_263 h
  · have h := zS_f h (F_eq hz)
    refine E_aload_n (pc := 9) (zDk zD_263_ok 5 rfl) rfl ?_
    refine E_iload_n (pc := 10) (zDk zD_263_ok 6 rfl) rfl ?_
    refine E_i2l (pc := 11) (zDk zD_263_ok 7 rfl) ?_
    obtain ⟨v12, e12, h⟩ := zS_bind h
    refine E_virI (pc := 12) (c := 185) (r := 106) (as := [.inr (.inl x2)]) (rest := []) (zDk zD_263_ok 8 rfl) zc_263 (by decide +kernel) zk_185 ⟨(Nat.le_of_ble_eq_true rfl), rfl, rfl⟩ (Nat.le_of_ble_eq_true rfl) (zr_185 _) (Nat.lt_of_lt_of_le (by decide) hq) (by rw [zm_185]; exact (Nat.le_of_ble_eq_true rfl)) ⟨zc_185, by decide⟩ zis_8_106 (ok_lm_isCorner ⟨v12, e12, ?_⟩)
    refine E_if (pc := 15) (t := 21) (zDk zD_263_ok 9 rfl) rfl (fun hz => ?_) (fun hz => ?_)
    · have h := zS_f h (T_ne hz)
      refine E_aload_n (pc := 21) (zDk zD_263_ok 12 rfl) rfl ?_
      obtain ⟨M22, e22, h⟩ := zS_bind h
      refine E_virV (pc := 22) (c := 214) (r := 106) (as := []) (rest := []) (zDk zD_263_ok 13 rfl) zc_263 (by decide +kernel) zk_214 ⟨(Nat.le_of_ble_eq_true rfl), rfl, rfl⟩ (Nat.le_of_ble_eq_true rfl) (zr_214 _) (Nat.lt_of_lt_of_le (by decide) hq) (by rw [zm_214]; exact (Nat.le_of_ble_eq_true rfl)) ⟨zc_214, by decide⟩ zis_8_106 (ok_lm_asItIs ⟨M22, e22, ?_⟩)
      refine E_aload_n (pc := 25) (zDk zD_263_ok 14 rfl) rfl ?_
      obtain ⟨M26, e26, h⟩ := zS_bind h
      refine E_virV (pc := 26) (c := 261) (r := 106) (as := []) (rest := []) (zDk zD_263_ok 15 rfl) zc_263 (by decide +kernel) zk_261 ⟨(Nat.le_of_ble_eq_true rfl), rfl, rfl⟩ (Nat.le_of_ble_eq_true rfl) (zr_261 _) (Nat.lt_of_lt_of_le (by decide) hq) (by rw [zm_261]; exact (Nat.le_of_ble_eq_true rfl)) ⟨zc_261, by decide⟩ zis_8_106 (ok_lm_layWays ⟨M26, e26, ?_⟩)
      refine E_aload_n (pc := 29) (zDk zD_263_ok 16 rfl) rfl ?_
      refine E_iload_n (pc := 30) (zDk zD_263_ok 17 rfl) rfl ?_
      refine E_iload_n (pc := 31) (zDk zD_263_ok 18 rfl) rfl ?_
      obtain ⟨v32, e32, h⟩ := zS_bind h
      refine E_virI (pc := 32) (c := 260) (r := 106) (as := [.inl x1, .inl x2]) (rest := []) (zDk zD_263_ok 19 rfl) zc_263 (by decide +kernel) zk_260 ⟨(Nat.le_of_ble_eq_true rfl), rfl, rfl⟩ (Nat.le_of_ble_eq_true rfl) (zr_260 _) (Nat.lt_of_lt_of_le (by decide) hq) (by rw [zm_260]; exact (Nat.le_of_ble_eq_true rfl)) ⟨zc_260, by decide⟩ zis_8_106 (ok_lm_wayOf ⟨v32, e32, ?_⟩)
      obtain ⟨v35, e35, h⟩ := zS_bind h
      refine E_staI (pc := 35) (c := 262) (as := [.inl v32]) (rest := []) (zDk zD_263_ok 20 rfl) zc_263 (by decide +kernel) (by decide +kernel) zk_262 ⟨(Nat.le_of_ble_eq_true rfl), rfl, rfl⟩ (Nat.le_of_ble_eq_true rfl) (zr_262 _) (Nat.lt_of_lt_of_le (by decide) hq) (by rw [zm_262]; exact (Nat.le_of_ble_eq_true rfl)) (ok_lm_orNone ⟨v35, e35, ?_⟩)
      have h := zS_some h
      exact E_ireturn (pc := 38) (zDk zD_263_ok 21 rfl) zt_263 h
    · have h := zS_t h (F_ne hz)
      refine E_bipush (pc := 18) (zDk zD_263_ok 10 rfl) (by decide +kernel) ?_
      have h := zS_some h
      exact E_ireturn (pc := 20) (zDk zD_263_ok 11 rfl) zt_263 h
def zD_264 : List (Nat × Instr × Nat) := [(0, .aload_n (0), 1), (1, .iload_n (1), 1), (2, .i2l, 1), (3, .invokevirtual (261), 3), (6, .ifCond .ne (6), 3), (9, .bipush (-2), 2), (11, .ireturn, 1), (12, .aload_n (0), 1), (13, .invokevirtual (254), 3), (16, .aload_n (0), 1), (17, .invokevirtual (345), 3), (20, .iconst (0), 1), (21, .istore_n (2), 1), (22, .iconst (0), 1), (23, .istore_n (3), 1), (24, .iload_n (3), 1), (25, .aload_n (0), 1), (26, .getfield (9), 3), (29, .iconst (0), 1), (30, .iaload, 1), (31, .if_icmp .ge (31), 3), (34, .iload_n (2), 1), (35, .aload_n (0), 1), (36, .iload_n (1), 1), (37, .iload_n (3), 1), (38, .invokevirtual (342), 3), (41, .ldc_w (341), 3), (44, .if_icmp .ge (9), 3), (47, .iconst (1), 1), (48, .iload_n (3), 1), (49, .ishl, 1), (50, .goto (4), 3), (53, .iconst (0), 1), (54, .ior, 1), (55, .istore_n (2), 1), (56, .iinc (3) (1), 3), (59, .goto (-35), 3), (62, .iload_n (2), 1), (63, .ireturn, 1)]
set_option maxRecDepth 100000 in
theorem zD_264_ok : zDo 264 zD_264 = true := by decide +kernel
theorem zc_264 : zcls 264 = 8 := by decide +kernel
theorem zm_264 : zml 264 = 4 := by decide +kernel
theorem zt_264 : zrt 264 = (some (.int)) := by decide +kernel
theorem zk_264 : zkd 264 = 1 ∧ znp 264 + 1 = 2 := by decide +kernel
theorem zr_264 (as : List zV) : zrk 264 as = 3 := by unfold zrk; rw [if_neg (by decide)]; decide +kernel
def lm_reach_c24 (x1 : Int) : Nat → Int → Int → (Nat → Nat → Int) → Option (Int × (Nat → Nat → Int))
  | 0, _, _, _ => none
  | n + 1, y2, y3, M =>
    ((rdI 107 (0 : Int) M).bind (fun v30 =>
    (if y3 < v30 then
    ((lm_wayOf x1 y3 M).bind (fun v38 =>
    (if v38 < (1000000000 : Int) then
    ((lm_reach_c24 x1 n) (zor y2 (zshl (1 : Int) y3)) (w32 (y3 + 1)) M)
    else
    ((lm_reach_c24 x1 n) (zor y2 (0 : Int)) (w32 (y3 + 1)) M))))
    else
    (some (y2, M)))))
set_option maxRecDepth 100000 in
theorem ok_lm_reach_c24 {sc : zSc} {q : Nat} {P : Option zV → (Nat → Nat → Int) → Prop} (hq : 3 ≤ q) (x1 : Int) : ∀ (n : Nat) (y2 : Int) (y3 : Int) (M : Nat → Nat → Int), zS (lm_reach_c24 x1 n y2 y3 M) (fun r => P (some (.inl r.1)) r.2) → zWp sc q 264 24 [some (.inr (.inr 106)), some (.inl x1), some (.inl y2), some (.inl y3)] [] M P := by
  intro n
  induction n with
  | zero => intro y2 y3 M h; exact (zS_none h).elim
  | succ n ih =>
    intro y2 y3 M h
    rw [lm_reach_c24] at h
    refine E_iload_n (pc := 24) (zDk zD_264_ok 15 rfl) rfl ?_
    refine E_aload_n (pc := 25) (zDk zD_264_ok 16 rfl) rfl ?_
    refine E_getR (pc := 26) (ci := 8) (f := 1) (r := 107) (zDk zD_264_ok 17 rfl) zc_264 (by decide +kernel) (by decide) zis_8_106 (by decide +kernel) (by decide) ?_
    refine E_iconst (pc := 29) (zDk zD_264_ok 18 rfl) (by decide +kernel) ?_
    obtain ⟨v30, e30, h⟩ := zS_bind h
    refine E_iaload (pc := 30) (zDk zD_264_ok 19 rfl) e30 ?_
    refine E_icmp (pc := 31) (t := 62) (zDk zD_264_ok 20 rfl) rfl (fun hz => ?_) (fun hz => ?_)
    · have h := zS_f h (Int.not_lt.mpr (T_ge hz))
      refine E_iload_n (pc := 62) (zDk zD_264_ok 37 rfl) rfl ?_
      have h := zS_some h
      exact E_ireturn (pc := 63) (zDk zD_264_ok 38 rfl) zt_264 h
    · have h := zS_t h (F_ge hz)
      refine E_iload_n (pc := 34) (zDk zD_264_ok 21 rfl) rfl ?_
      refine E_aload_n (pc := 35) (zDk zD_264_ok 22 rfl) rfl ?_
      refine E_iload_n (pc := 36) (zDk zD_264_ok 23 rfl) rfl ?_
      refine E_iload_n (pc := 37) (zDk zD_264_ok 24 rfl) rfl ?_
      obtain ⟨v38, e38, h⟩ := zS_bind h
      refine E_virI (pc := 38) (c := 260) (r := 106) (as := [.inl x1, .inl y3]) (rest := [.inl y2]) (zDk zD_264_ok 25 rfl) zc_264 (by decide +kernel) zk_260 ⟨(Nat.le_of_ble_eq_true rfl), rfl, rfl⟩ (Nat.le_of_ble_eq_true rfl) (zr_260 _) (Nat.lt_of_lt_of_le (by decide) hq) (by rw [zm_260]; exact (Nat.le_of_ble_eq_true rfl)) ⟨zc_260, by decide⟩ zis_8_106 (ok_lm_wayOf ⟨v38, e38, ?_⟩)
      refine E_ldc_w (pc := 41) (v := .inl (1000000000 : Int)) (zDk zD_264_ok 26 rfl) zc_264 (by decide +kernel) ?_
      refine E_icmp (pc := 44) (t := 53) (zDk zD_264_ok 27 rfl) rfl (fun hz => ?_) (fun hz => ?_)
      · have h := zS_f h (Int.not_lt.mpr (T_ge hz))
        refine E_iconst (pc := 53) (zDk zD_264_ok 32 rfl) (by decide +kernel) ?_
        refine E_ior (pc := 54) (zDk zD_264_ok 33 rfl) ?_
        refine W_istore_n (pc := 55) (L' := [some (.inr (.inr 106)), some (.inl x1), some (.inl (zor y2 (0 : Int))), some (.inl y3)]) (zDk zD_264_ok 34 rfl) zm_264 (by decide) rfl ?_
        refine W_iinc (pc := 56) (L' := [some (.inr (.inr 106)), some (.inl x1), some (.inl (zor y2 (0 : Int))), some (.inl (w32 (y3 + 1)))]) (zDk zD_264_ok 35 rfl) rfl zm_264 (by decide) rfl ?_
        refine E_goto (pc := 59) (t := 24) (zDk zD_264_ok 36 rfl) rfl ?_
        exact (ih) (zor y2 (0 : Int)) (w32 (y3 + 1)) M h
      · have h := zS_t h (F_ge hz)
        refine E_iconst (pc := 47) (zDk zD_264_ok 28 rfl) (by decide +kernel) ?_
        refine E_iload_n (pc := 48) (zDk zD_264_ok 29 rfl) rfl ?_
        refine E_ishl (pc := 49) (zDk zD_264_ok 30 rfl) ?_
        refine E_goto (pc := 50) (t := 54) (zDk zD_264_ok 31 rfl) rfl ?_
        refine E_ior (pc := 54) (zDk zD_264_ok 33 rfl) ?_
        refine W_istore_n (pc := 55) (L' := [some (.inr (.inr 106)), some (.inl x1), some (.inl (zor y2 (zshl (1 : Int) y3))), some (.inl y3)]) (zDk zD_264_ok 34 rfl) zm_264 (by decide) rfl ?_
        refine W_iinc (pc := 56) (L' := [some (.inr (.inr 106)), some (.inl x1), some (.inl (zor y2 (zshl (1 : Int) y3))), some (.inl (w32 (y3 + 1)))]) (zDk zD_264_ok 35 rfl) rfl zm_264 (by decide) rfl ?_
        refine E_goto (pc := 59) (t := 24) (zDk zD_264_ok 36 rfl) rfl ?_
        exact (ih) (zor y2 (zshl (1 : Int) y3)) (w32 (y3 + 1)) M h
def lm_reach (x1 : Int) (M : Nat → Nat → Int) : Option (Int × (Nat → Nat → Int)) :=
    ((lm_isCorner x1 M).bind (fun v3 =>
    (if v3 = 0 then
    (some ((-2 : Int), M))
    else
    ((lm_asItIs M).bind (fun M13 =>
    ((lm_layWays M13).bind (fun M17 =>
    (lm_reach_c24 x1 zN (0 : Int) (0 : Int) M17))))))))
set_option maxRecDepth 100000 in
theorem ok_lm_reach {sc : zSc} {x1 : Int} {M : Nat → Nat → Int} {P : Int → (Nat → Nat → Int) → Prop} (h : zS (lm_reach x1 M) (fun r => P r.1 r.2)) : zCi sc 264 [.inr (.inr 106), .inl x1] M P := by
  have ea : zarg (zml 264) [.inr (.inr 106), .inl x1] = [some (.inr (.inr 106)), some (.inl x1), none, none] := by rw [zm_264]; rfl
  unfold zCi zCw
  rw [ea, zr_264]
  have hq : 3 ≤ 3 := Nat.le_refl _
  unfold lm_reach at h
  have h := zS_mono h (fun x hx => (⟨x.1, rfl, hx⟩ : ∃ y, (some (.inl x.1) : Option zV) = some (.inl y) ∧ P y x.2))
  skip
  refine E_aload_n (pc := 0) (zDk zD_264_ok 0 rfl) rfl ?_
  refine E_iload_n (pc := 1) (zDk zD_264_ok 1 rfl) rfl ?_
  refine E_i2l (pc := 2) (zDk zD_264_ok 2 rfl) ?_
  obtain ⟨v3, e3, h⟩ := zS_bind h
  refine E_virI (pc := 3) (c := 185) (r := 106) (as := [.inr (.inl x1)]) (rest := []) (zDk zD_264_ok 3 rfl) zc_264 (by decide +kernel) zk_185 ⟨(Nat.le_of_ble_eq_true rfl), rfl, rfl⟩ (Nat.le_of_ble_eq_true rfl) (zr_185 _) (Nat.lt_of_lt_of_le (by decide) hq) (by rw [zm_185]; exact (Nat.le_of_ble_eq_true rfl)) ⟨zc_185, by decide⟩ zis_8_106 (ok_lm_isCorner ⟨v3, e3, ?_⟩)
  refine E_if (pc := 6) (t := 12) (zDk zD_264_ok 4 rfl) rfl (fun hz => ?_) (fun hz => ?_)
  · have h := zS_f h (T_ne hz)
    refine E_aload_n (pc := 12) (zDk zD_264_ok 7 rfl) rfl ?_
    obtain ⟨M13, e13, h⟩ := zS_bind h
    refine E_virV (pc := 13) (c := 214) (r := 106) (as := []) (rest := []) (zDk zD_264_ok 8 rfl) zc_264 (by decide +kernel) zk_214 ⟨(Nat.le_of_ble_eq_true rfl), rfl, rfl⟩ (Nat.le_of_ble_eq_true rfl) (zr_214 _) (Nat.lt_of_lt_of_le (by decide) hq) (by rw [zm_214]; exact (Nat.le_of_ble_eq_true rfl)) ⟨zc_214, by decide⟩ zis_8_106 (ok_lm_asItIs ⟨M13, e13, ?_⟩)
    refine E_aload_n (pc := 16) (zDk zD_264_ok 9 rfl) rfl ?_
    obtain ⟨M17, e17, h⟩ := zS_bind h
    refine E_virV (pc := 17) (c := 261) (r := 106) (as := []) (rest := []) (zDk zD_264_ok 10 rfl) zc_264 (by decide +kernel) zk_261 ⟨(Nat.le_of_ble_eq_true rfl), rfl, rfl⟩ (Nat.le_of_ble_eq_true rfl) (zr_261 _) (Nat.lt_of_lt_of_le (by decide) hq) (by rw [zm_261]; exact (Nat.le_of_ble_eq_true rfl)) ⟨zc_261, by decide⟩ zis_8_106 (ok_lm_layWays ⟨M17, e17, ?_⟩)
    refine E_iconst (pc := 20) (zDk zD_264_ok 11 rfl) (by decide +kernel) ?_
    refine W_istore_n (pc := 21) (L' := [some (.inr (.inr 106)), some (.inl x1), some (.inl (0 : Int)), none]) (zDk zD_264_ok 12 rfl) zm_264 (by decide) rfl ?_
    refine E_iconst (pc := 22) (zDk zD_264_ok 13 rfl) (by decide +kernel) ?_
    refine W_istore_n (pc := 23) (L' := [some (.inr (.inr 106)), some (.inl x1), some (.inl (0 : Int)), some (.inl (0 : Int))]) (zDk zD_264_ok 14 rfl) zm_264 (by decide) rfl ?_
    exact ok_lm_reach_c24 hq x1 zN (0 : Int) (0 : Int) M17 h
  · have h := zS_t h (F_ne hz)
    refine E_bipush (pc := 9) (zDk zD_264_ok 5 rfl) (by decide +kernel) ?_
    have h := zS_some h
    exact E_ireturn (pc := 11) (zDk zD_264_ok 6 rfl) zt_264 h
def zD_267 : List (Nat × Instr × Nat) := [(0, .aload_n (0), 1), (1, .invokevirtual (254), 3), (4, .aload_n (0), 1), (5, .invokevirtual (345), 3), (8, .aload_n (0), 1), (9, .iload_n (1), 1), (10, .invokevirtual (354), 3), (13, .istore_n (2), 1), (14, .iload_n (2), 1), (15, .iconst (-1), 1), (16, .if_icmp .ne (7), 3), (19, .iconst (-1), 1), (20, .goto (9), 3), (23, .aload_n (0), 1), (24, .iload_n (1), 1), (25, .iload_n (2), 1), (26, .invokevirtual (351), 3), (29, .ireturn, 1)]
set_option maxRecDepth 100000 in
theorem zD_267_ok : zDo 267 zD_267 = true := by decide +kernel
theorem zc_267 : zcls 267 = 8 := by decide +kernel
theorem zm_267 : zml 267 = 3 := by decide +kernel
theorem zt_267 : zrt 267 = (some (.int)) := by decide +kernel
theorem zk_267 : zkd 267 = 1 ∧ znp 267 + 1 = 2 := by decide +kernel
theorem zr_267 (as : List zV) : zrk 267 as = 3 := by unfold zrk; rw [if_neg (by decide)]; decide +kernel
def lm_soonOf (x1 : Int) (M : Nat → Nat → Int) : Option (Int × (Nat → Nat → Int)) :=
    ((lm_asItIs M).bind (fun M1 =>
    ((lm_layWays M1).bind (fun M5 =>
    ((lm_hallOf x1 M5).bind (fun v10 =>
    (if v10 = (-1 : Int) then
    (some ((-1 : Int), M5))
    else
    ((lm_farthest x1 v10 M5).bind (fun v26 =>
    (some (v26, M5)))))))))))
set_option maxRecDepth 100000 in
theorem ok_lm_soonOf {sc : zSc} {x1 : Int} {M : Nat → Nat → Int} {P : Int → (Nat → Nat → Int) → Prop} (h : zS (lm_soonOf x1 M) (fun r => P r.1 r.2)) : zCi sc 267 [.inr (.inr 106), .inl x1] M P := by
  have ea : zarg (zml 267) [.inr (.inr 106), .inl x1] = [some (.inr (.inr 106)), some (.inl x1), none] := by rw [zm_267]; rfl
  unfold zCi zCw
  rw [ea, zr_267]
  have hq : 3 ≤ 3 := Nat.le_refl _
  unfold lm_soonOf at h
  have h := zS_mono h (fun x hx => (⟨x.1, rfl, hx⟩ : ∃ y, (some (.inl x.1) : Option zV) = some (.inl y) ∧ P y x.2))
  skip
  refine E_aload_n (pc := 0) (zDk zD_267_ok 0 rfl) rfl ?_
  obtain ⟨M1, e1, h⟩ := zS_bind h
  refine E_virV (pc := 1) (c := 214) (r := 106) (as := []) (rest := []) (zDk zD_267_ok 1 rfl) zc_267 (by decide +kernel) zk_214 ⟨(Nat.le_of_ble_eq_true rfl), rfl, rfl⟩ (Nat.le_of_ble_eq_true rfl) (zr_214 _) (Nat.lt_of_lt_of_le (by decide) hq) (by rw [zm_214]; exact (Nat.le_of_ble_eq_true rfl)) ⟨zc_214, by decide⟩ zis_8_106 (ok_lm_asItIs ⟨M1, e1, ?_⟩)
  refine E_aload_n (pc := 4) (zDk zD_267_ok 2 rfl) rfl ?_
  obtain ⟨M5, e5, h⟩ := zS_bind h
  refine E_virV (pc := 5) (c := 261) (r := 106) (as := []) (rest := []) (zDk zD_267_ok 3 rfl) zc_267 (by decide +kernel) zk_261 ⟨(Nat.le_of_ble_eq_true rfl), rfl, rfl⟩ (Nat.le_of_ble_eq_true rfl) (zr_261 _) (Nat.lt_of_lt_of_le (by decide) hq) (by rw [zm_261]; exact (Nat.le_of_ble_eq_true rfl)) ⟨zc_261, by decide⟩ zis_8_106 (ok_lm_layWays ⟨M5, e5, ?_⟩)
  refine E_aload_n (pc := 8) (zDk zD_267_ok 4 rfl) rfl ?_
  refine E_iload_n (pc := 9) (zDk zD_267_ok 5 rfl) rfl ?_
  obtain ⟨v10, e10, h⟩ := zS_bind h
  refine E_virI (pc := 10) (c := 265) (r := 106) (as := [.inl x1]) (rest := []) (zDk zD_267_ok 6 rfl) zc_267 (by decide +kernel) zk_265 ⟨(Nat.le_of_ble_eq_true rfl), rfl, rfl⟩ (Nat.le_of_ble_eq_true rfl) (zr_265 _) (Nat.lt_of_lt_of_le (by decide) hq) (by rw [zm_265]; exact (Nat.le_of_ble_eq_true rfl)) ⟨zc_265, by decide⟩ zis_8_106 (ok_lm_hallOf ⟨v10, e10, ?_⟩)
  refine W_istore_n (pc := 13) (L' := [some (.inr (.inr 106)), some (.inl x1), some (.inl v10)]) (zDk zD_267_ok 7 rfl) zm_267 (by decide) rfl ?_
  refine E_iload_n (pc := 14) (zDk zD_267_ok 8 rfl) rfl ?_
  refine E_iconst (pc := 15) (zDk zD_267_ok 9 rfl) (by decide +kernel) ?_
  refine E_icmp (pc := 16) (t := 23) (zDk zD_267_ok 10 rfl) rfl (fun hz => ?_) (fun hz => ?_)
  · have h := zS_f h (T_ne hz)
    refine E_aload_n (pc := 23) (zDk zD_267_ok 13 rfl) rfl ?_
    refine E_iload_n (pc := 24) (zDk zD_267_ok 14 rfl) rfl ?_
    refine E_iload_n (pc := 25) (zDk zD_267_ok 15 rfl) rfl ?_
    obtain ⟨v26, e26, h⟩ := zS_bind h
    refine E_virI (pc := 26) (c := 266) (r := 106) (as := [.inl x1, .inl v10]) (rest := []) (zDk zD_267_ok 16 rfl) zc_267 (by decide +kernel) zk_266 ⟨(Nat.le_of_ble_eq_true rfl), rfl, rfl⟩ (Nat.le_of_ble_eq_true rfl) (zr_266 _) (Nat.lt_of_lt_of_le (by decide) hq) (by rw [zm_266]; exact (Nat.le_of_ble_eq_true rfl)) ⟨zc_266, by decide⟩ zis_8_106 (ok_lm_farthest ⟨v26, e26, ?_⟩)
    have h := zS_some h
    exact E_ireturn (pc := 29) (zDk zD_267_ok 17 rfl) zt_267 h
  · have h := zS_t h (F_ne hz)
    refine E_iconst (pc := 19) (zDk zD_267_ok 11 rfl) (by decide +kernel) ?_
    refine E_goto (pc := 20) (t := 29) (zDk zD_267_ok 12 rfl) rfl ?_
    have h := zS_some h
    exact E_ireturn (pc := 29) (zDk zD_267_ok 17 rfl) zt_267 h
def zD_271 : List (Nat × Instr × Nat) := [(0, .aload_n (0), 1), (1, .invokevirtual (254), 3), (4, .aload_n (0), 1), (5, .getfield (239), 3), (8, .istore_n (3), 1), (9, .iconst (-1), 1), (10, .istore (4), 2), (12, .iconst (0), 1), (13, .istore (5), 2), (15, .iload (5), 2), (17, .iconst (1), 1), (18, .aload_n (0), 1), (19, .getfield (9), 3), (22, .iconst (4), 1), (23, .iaload, 1), (24, .ishl, 1), (25, .if_icmp .ge (76), 3), (28, .iload (5), 2), (30, .iload_n (3), 1), (31, .iand, 1), (32, .ifCond .ne (63), 3), (35, .iload (4), 2), (37, .iconst (-1), 1), (38, .if_icmp .eq (19), 3), (41, .iload (5), 2), (43, .invokestatic (332), 3), (46, .iload (4), 2), (48, .invokestatic (332), 3), (51, .if_icmp .lt (6), 3), (54, .goto (41), 3), (57, .aload_n (0), 1), (58, .iload_n (3), 1), (59, .iload (5), 2), (61, .ior, 1), (62, .putfield (239), 3), (65, .aload_n (0), 1), (66, .invokevirtual (345), 3), (69, .aload_n (0), 1), (70, .aload_n (0), 1), (71, .iload_n (1), 1), (72, .iconst (0), 1), (73, .invokevirtual (251), 3), (76, .aload_n (0), 1), (77, .iload_n (2), 1), (78, .iconst (0), 1), (79, .invokevirtual (251), 3), (82, .invokevirtual (342), 3), (85, .ldc_w (341), 3), (88, .if_icmp .lt (7), 3), (91, .iload (5), 2), (93, .istore (4), 2), (95, .iinc (5) (1), 3), (98, .goto (-83), 3), (101, .iload (4), 2), (103, .ireturn, 1)]
set_option maxRecDepth 100000 in
theorem zD_271_ok : zDo 271 zD_271 = true := by decide +kernel
theorem zc_271 : zcls 271 = 8 := by decide +kernel
theorem zm_271 : zml 271 = 6 := by decide +kernel
theorem zt_271 : zrt 271 = (some (.int)) := by decide +kernel
theorem zk_271 : zkd 271 = 1 ∧ znp 271 + 1 = 3 := by decide +kernel
theorem zr_271 (as : List zV) : zrk 271 as = 3 := by unfold zrk; rw [if_neg (by decide)]; decide +kernel
def lm_cutOf_c57 (x1 : Int) (x2 : Int) (h15 : Int → Int → Int → (Nat → Nat → Int) → Option (Int × (Nat → Nat → Int))) (y3 : Int) (y4 : Int) (y5 : Int) (M : Nat → Nat → Int) : Option (Int × (Nat → Nat → Int)) :=
    ((some (zup M 106 15 (zor y3 y5))).bind (fun M62 =>
    ((lm_layWays M62).bind (fun M66 =>
    ((lm_of x1 (0 : Int) M66).bind (fun v73 =>
    ((lm_of x2 (0 : Int) M66).bind (fun v79 =>
    ((lm_wayOf v73 v79 M66).bind (fun v82 =>
    (if v82 < (1000000000 : Int) then
    (h15 y3 y4 (w32 (y5 + 1)) M66)
    else
    (h15 y3 y5 (w32 (y5 + 1)) M66))))))))))))
set_option maxRecDepth 100000 in
theorem ok_lm_cutOf_c57 {sc : zSc} {q : Nat} {P : Option zV → (Nat → Nat → Int) → Prop} (hq : 3 ≤ q) (x1 : Int) (x2 : Int) (h15 : Int → Int → Int → (Nat → Nat → Int) → Option (Int × (Nat → Nat → Int))) (H15 : ∀ (y3 : Int) (y4 : Int) (y5 : Int) (M : Nat → Nat → Int), zS (h15 y3 y4 y5 M) (fun r => P (some (.inl r.1)) r.2) → zWp sc q 271 15 [some (.inr (.inr 106)), some (.inl x1), some (.inl x2), some (.inl y3), some (.inl y4), some (.inl y5)] [] M P) : ∀ (y3 : Int) (y4 : Int) (y5 : Int) (M : Nat → Nat → Int), zS (lm_cutOf_c57 x1 x2 h15 y3 y4 y5 M) (fun r => P (some (.inl r.1)) r.2) → zWp sc q 271 57 [some (.inr (.inr 106)), some (.inl x1), some (.inl x2), some (.inl y3), some (.inl y4), some (.inl y5)] [] M P := by
  intro y3 y4 y5 M h
  unfold lm_cutOf_c57 at h
  refine E_aload_n (pc := 57) (zDk zD_271_ok 30 rfl) rfl ?_
  refine E_iload_n (pc := 58) (zDk zD_271_ok 31 rfl) rfl ?_
  refine E_iload (pc := 59) (zDk zD_271_ok 32 rfl) rfl ?_
  refine E_ior (pc := 61) (zDk zD_271_ok 33 rfl) ?_
  obtain ⟨M62, e62, h⟩ := zS_bind h
  refine W_putI (pc := 62) (ci := 8) (f := 15) (zDk zD_271_ok 34 rfl) zc_271 (by decide +kernel) (by decide) zis_8_106 (Option.some.inj e62) ?_
  refine E_aload_n (pc := 65) (zDk zD_271_ok 35 rfl) rfl ?_
  obtain ⟨M66, e66, h⟩ := zS_bind h
  refine E_virV (pc := 66) (c := 261) (r := 106) (as := []) (rest := []) (zDk zD_271_ok 36 rfl) zc_271 (by decide +kernel) zk_261 ⟨(Nat.le_of_ble_eq_true rfl), rfl, rfl⟩ (Nat.le_of_ble_eq_true rfl) (zr_261 _) (Nat.lt_of_lt_of_le (by decide) hq) (by rw [zm_261]; exact (Nat.le_of_ble_eq_true rfl)) ⟨zc_261, by decide⟩ zis_8_106 (ok_lm_layWays ⟨M66, e66, ?_⟩)
  refine E_aload_n (pc := 69) (zDk zD_271_ok 37 rfl) rfl ?_
  refine E_aload_n (pc := 70) (zDk zD_271_ok 38 rfl) rfl ?_
  refine E_iload_n (pc := 71) (zDk zD_271_ok 39 rfl) rfl ?_
  refine E_iconst (pc := 72) (zDk zD_271_ok 40 rfl) (by decide +kernel) ?_
  obtain ⟨v73, e73, h⟩ := zS_bind h
  refine E_virI (pc := 73) (c := 190) (r := 106) (as := [.inl x1, .inl (0 : Int)]) (rest := [.inr (.inr 106)]) (zDk zD_271_ok 41 rfl) zc_271 (by decide +kernel) zk_190 ⟨(Nat.le_of_ble_eq_true rfl), rfl, rfl⟩ (Nat.le_of_ble_eq_true rfl) (zr_190 _) (Nat.lt_of_lt_of_le (by decide) hq) (by rw [zm_190]; exact (Nat.le_of_ble_eq_true rfl)) ⟨zc_190, by decide⟩ zis_8_106 (ok_lm_of ⟨v73, e73, ?_⟩)
  refine E_aload_n (pc := 76) (zDk zD_271_ok 42 rfl) rfl ?_
  refine E_iload_n (pc := 77) (zDk zD_271_ok 43 rfl) rfl ?_
  refine E_iconst (pc := 78) (zDk zD_271_ok 44 rfl) (by decide +kernel) ?_
  obtain ⟨v79, e79, h⟩ := zS_bind h
  refine E_virI (pc := 79) (c := 190) (r := 106) (as := [.inl x2, .inl (0 : Int)]) (rest := [.inl v73, .inr (.inr 106)]) (zDk zD_271_ok 45 rfl) zc_271 (by decide +kernel) zk_190 ⟨(Nat.le_of_ble_eq_true rfl), rfl, rfl⟩ (Nat.le_of_ble_eq_true rfl) (zr_190 _) (Nat.lt_of_lt_of_le (by decide) hq) (by rw [zm_190]; exact (Nat.le_of_ble_eq_true rfl)) ⟨zc_190, by decide⟩ zis_8_106 (ok_lm_of ⟨v79, e79, ?_⟩)
  obtain ⟨v82, e82, h⟩ := zS_bind h
  refine E_virI (pc := 82) (c := 260) (r := 106) (as := [.inl v73, .inl v79]) (rest := []) (zDk zD_271_ok 46 rfl) zc_271 (by decide +kernel) zk_260 ⟨(Nat.le_of_ble_eq_true rfl), rfl, rfl⟩ (Nat.le_of_ble_eq_true rfl) (zr_260 _) (Nat.lt_of_lt_of_le (by decide) hq) (by rw [zm_260]; exact (Nat.le_of_ble_eq_true rfl)) ⟨zc_260, by decide⟩ zis_8_106 (ok_lm_wayOf ⟨v82, e82, ?_⟩)
  refine E_ldc_w (pc := 85) (v := .inl (1000000000 : Int)) (zDk zD_271_ok 47 rfl) zc_271 (by decide +kernel) ?_
  refine E_icmp (pc := 88) (t := 95) (zDk zD_271_ok 48 rfl) rfl (fun hz => ?_) (fun hz => ?_)
  · have h := zS_t h (T_lt hz)
    refine W_iinc (pc := 95) (L' := [some (.inr (.inr 106)), some (.inl x1), some (.inl x2), some (.inl y3), some (.inl y4), some (.inl (w32 (y5 + 1)))]) (zDk zD_271_ok 51 rfl) rfl zm_271 (by decide) rfl ?_
    refine E_goto (pc := 98) (t := 15) (zDk zD_271_ok 52 rfl) rfl ?_
    exact H15 y3 y4 (w32 (y5 + 1)) M66 h
  · have h := zS_f h (Int.not_lt.mpr (F_lt hz))
    refine E_iload (pc := 91) (zDk zD_271_ok 49 rfl) rfl ?_
    refine W_istore (pc := 93) (L' := [some (.inr (.inr 106)), some (.inl x1), some (.inl x2), some (.inl y3), some (.inl y5), some (.inl y5)]) (zDk zD_271_ok 50 rfl) zm_271 (by decide) rfl ?_
    refine W_iinc (pc := 95) (L' := [some (.inr (.inr 106)), some (.inl x1), some (.inl x2), some (.inl y3), some (.inl y5), some (.inl (w32 (y5 + 1)))]) (zDk zD_271_ok 51 rfl) rfl zm_271 (by decide) rfl ?_
    refine E_goto (pc := 98) (t := 15) (zDk zD_271_ok 52 rfl) rfl ?_
    exact H15 y3 y5 (w32 (y5 + 1)) M66 h
def lm_cutOf_c15 (x1 : Int) (x2 : Int) : Nat → Int → Int → Int → (Nat → Nat → Int) → Option (Int × (Nat → Nat → Int))
  | 0, _, _, _, _ => none
  | n + 1, y3, y4, y5, M =>
    ((rdI 107 (4 : Int) M).bind (fun v23 =>
    (if y5 < (zshl (1 : Int) v23) then
    (if (zand y5 y3) = 0 then
    (if y4 = (-1 : Int) then
    (lm_cutOf_c57 x1 x2 (lm_cutOf_c15 x1 x2 n) y3 y4 y5 M)
    else
    ((lm_bits y5 M).bind (fun v43 =>
    ((lm_bits y4 M).bind (fun v48 =>
    (if v43 < v48 then
    (lm_cutOf_c57 x1 x2 (lm_cutOf_c15 x1 x2 n) y3 y4 y5 M)
    else
    ((lm_cutOf_c15 x1 x2 n) y3 y4 (w32 (y5 + 1)) M)))))))
    else
    ((lm_cutOf_c15 x1 x2 n) y3 y4 (w32 (y5 + 1)) M))
    else
    (some (y4, M)))))
set_option maxRecDepth 100000 in
theorem ok_lm_cutOf_c15 {sc : zSc} {q : Nat} {P : Option zV → (Nat → Nat → Int) → Prop} (hq : 3 ≤ q) (x1 : Int) (x2 : Int) : ∀ (n : Nat) (y3 : Int) (y4 : Int) (y5 : Int) (M : Nat → Nat → Int), zS (lm_cutOf_c15 x1 x2 n y3 y4 y5 M) (fun r => P (some (.inl r.1)) r.2) → zWp sc q 271 15 [some (.inr (.inr 106)), some (.inl x1), some (.inl x2), some (.inl y3), some (.inl y4), some (.inl y5)] [] M P := by
  intro n
  induction n with
  | zero => intro y3 y4 y5 M h; exact (zS_none h).elim
  | succ n ih =>
    intro y3 y4 y5 M h
    rw [lm_cutOf_c15] at h
    refine E_iload (pc := 15) (zDk zD_271_ok 9 rfl) rfl ?_
    refine E_iconst (pc := 17) (zDk zD_271_ok 10 rfl) (by decide +kernel) ?_
    refine E_aload_n (pc := 18) (zDk zD_271_ok 11 rfl) rfl ?_
    refine E_getR (pc := 19) (ci := 8) (f := 1) (r := 107) (zDk zD_271_ok 12 rfl) zc_271 (by decide +kernel) (by decide) zis_8_106 (by decide +kernel) (by decide) ?_
    refine E_iconst (pc := 22) (zDk zD_271_ok 13 rfl) (by decide +kernel) ?_
    obtain ⟨v23, e23, h⟩ := zS_bind h
    refine E_iaload (pc := 23) (zDk zD_271_ok 14 rfl) e23 ?_
    refine E_ishl (pc := 24) (zDk zD_271_ok 15 rfl) ?_
    refine E_icmp (pc := 25) (t := 101) (zDk zD_271_ok 16 rfl) rfl (fun hz => ?_) (fun hz => ?_)
    · have h := zS_f h (Int.not_lt.mpr (T_ge hz))
      refine E_iload (pc := 101) (zDk zD_271_ok 53 rfl) rfl ?_
      have h := zS_some h
      exact E_ireturn (pc := 103) (zDk zD_271_ok 54 rfl) zt_271 h
    · have h := zS_t h (F_ge hz)
      refine E_iload (pc := 28) (zDk zD_271_ok 17 rfl) rfl ?_
      refine E_iload_n (pc := 30) (zDk zD_271_ok 18 rfl) rfl ?_
      refine E_iand (pc := 31) (zDk zD_271_ok 19 rfl) ?_
      refine E_if (pc := 32) (t := 95) (zDk zD_271_ok 20 rfl) rfl (fun hz => ?_) (fun hz => ?_)
      · have h := zS_f h (T_ne hz)
        refine W_iinc (pc := 95) (L' := [some (.inr (.inr 106)), some (.inl x1), some (.inl x2), some (.inl y3), some (.inl y4), some (.inl (w32 (y5 + 1)))]) (zDk zD_271_ok 51 rfl) rfl zm_271 (by decide) rfl ?_
        refine E_goto (pc := 98) (t := 15) (zDk zD_271_ok 52 rfl) rfl ?_
        exact (ih) y3 y4 (w32 (y5 + 1)) M h
      · have h := zS_t h (F_ne hz)
        refine E_iload (pc := 35) (zDk zD_271_ok 21 rfl) rfl ?_
        refine E_iconst (pc := 37) (zDk zD_271_ok 22 rfl) (by decide +kernel) ?_
        refine E_icmp (pc := 38) (t := 57) (zDk zD_271_ok 23 rfl) rfl (fun hz => ?_) (fun hz => ?_)
        · have h := zS_t h (T_eq hz)
          exact ok_lm_cutOf_c57 hq x1 x2 (lm_cutOf_c15 x1 x2 n) (ih) y3 y4 y5 M h
        · have h := zS_f h (F_eq hz)
          refine E_iload (pc := 41) (zDk zD_271_ok 24 rfl) rfl ?_
          obtain ⟨v43, e43, h⟩ := zS_bind h
          refine E_staI (pc := 43) (c := 177) (as := [.inl y5]) (rest := []) (zDk zD_271_ok 25 rfl) zc_271 (by decide +kernel) (by decide +kernel) zk_177 ⟨(Nat.le_of_ble_eq_true rfl), rfl, rfl⟩ (Nat.le_of_ble_eq_true rfl) (zr_177 _) (Nat.lt_of_lt_of_le (by decide) hq) (by rw [zm_177]; exact (Nat.le_of_ble_eq_true rfl)) (ok_lm_bits ⟨v43, e43, ?_⟩)
          refine E_iload (pc := 46) (zDk zD_271_ok 26 rfl) rfl ?_
          obtain ⟨v48, e48, h⟩ := zS_bind h
          refine E_staI (pc := 48) (c := 177) (as := [.inl y4]) (rest := [.inl v43]) (zDk zD_271_ok 27 rfl) zc_271 (by decide +kernel) (by decide +kernel) zk_177 ⟨(Nat.le_of_ble_eq_true rfl), rfl, rfl⟩ (Nat.le_of_ble_eq_true rfl) (zr_177 _) (Nat.lt_of_lt_of_le (by decide) hq) (by rw [zm_177]; exact (Nat.le_of_ble_eq_true rfl)) (ok_lm_bits ⟨v48, e48, ?_⟩)
          refine E_icmp (pc := 51) (t := 57) (zDk zD_271_ok 28 rfl) rfl (fun hz => ?_) (fun hz => ?_)
          · have h := zS_t h (T_lt hz)
            exact ok_lm_cutOf_c57 hq x1 x2 (lm_cutOf_c15 x1 x2 n) (ih) y3 y4 y5 M h
          · have h := zS_f h (Int.not_lt.mpr (F_lt hz))
            refine E_goto (pc := 54) (t := 95) (zDk zD_271_ok 29 rfl) rfl ?_
            refine W_iinc (pc := 95) (L' := [some (.inr (.inr 106)), some (.inl x1), some (.inl x2), some (.inl y3), some (.inl y4), some (.inl (w32 (y5 + 1)))]) (zDk zD_271_ok 51 rfl) rfl zm_271 (by decide) rfl ?_
            refine E_goto (pc := 98) (t := 15) (zDk zD_271_ok 52 rfl) rfl ?_
            exact (ih) y3 y4 (w32 (y5 + 1)) M h
def lm_cutOf (x1 : Int) (x2 : Int) (M : Nat → Nat → Int) : Option (Int × (Nat → Nat → Int)) :=
    ((lm_asItIs M).bind (fun M1 =>
    (lm_cutOf_c15 x1 x2 zN (M1 106 15) (-1 : Int) (0 : Int) M1)))
set_option maxRecDepth 100000 in
theorem ok_lm_cutOf {sc : zSc} {x1 : Int} {x2 : Int} {M : Nat → Nat → Int} {P : Int → (Nat → Nat → Int) → Prop} (h : zS (lm_cutOf x1 x2 M) (fun r => P r.1 r.2)) : zCi sc 271 [.inr (.inr 106), .inl x1, .inl x2] M P := by
  have ea : zarg (zml 271) [.inr (.inr 106), .inl x1, .inl x2] = [some (.inr (.inr 106)), some (.inl x1), some (.inl x2), none, none, none] := by rw [zm_271]; rfl
  unfold zCi zCw
  rw [ea, zr_271]
  have hq : 3 ≤ 3 := Nat.le_refl _
  unfold lm_cutOf at h
  have h := zS_mono h (fun x hx => (⟨x.1, rfl, hx⟩ : ∃ y, (some (.inl x.1) : Option zV) = some (.inl y) ∧ P y x.2))
  skip
  refine E_aload_n (pc := 0) (zDk zD_271_ok 0 rfl) rfl ?_
  obtain ⟨M1, e1, h⟩ := zS_bind h
  refine E_virV (pc := 1) (c := 214) (r := 106) (as := []) (rest := []) (zDk zD_271_ok 1 rfl) zc_271 (by decide +kernel) zk_214 ⟨(Nat.le_of_ble_eq_true rfl), rfl, rfl⟩ (Nat.le_of_ble_eq_true rfl) (zr_214 _) (Nat.lt_of_lt_of_le (by decide) hq) (by rw [zm_214]; exact (Nat.le_of_ble_eq_true rfl)) ⟨zc_214, by decide⟩ zis_8_106 (ok_lm_asItIs ⟨M1, e1, ?_⟩)
  refine E_aload_n (pc := 4) (zDk zD_271_ok 2 rfl) rfl ?_
  refine E_getI (pc := 5) (ci := 8) (f := 15) (zDk zD_271_ok 3 rfl) zc_271 (by decide +kernel) (by decide) zis_8_106 ?_
  refine W_istore_n (pc := 8) (L' := [some (.inr (.inr 106)), some (.inl x1), some (.inl x2), some (.inl (M1 106 15)), none, none]) (zDk zD_271_ok 4 rfl) zm_271 (by decide) rfl ?_
  refine E_iconst (pc := 9) (zDk zD_271_ok 5 rfl) (by decide +kernel) ?_
  refine W_istore (pc := 10) (L' := [some (.inr (.inr 106)), some (.inl x1), some (.inl x2), some (.inl (M1 106 15)), some (.inl (-1 : Int)), none]) (zDk zD_271_ok 6 rfl) zm_271 (by decide) rfl ?_
  refine E_iconst (pc := 12) (zDk zD_271_ok 7 rfl) (by decide +kernel) ?_
  refine W_istore (pc := 13) (L' := [some (.inr (.inr 106)), some (.inl x1), some (.inl x2), some (.inl (M1 106 15)), some (.inl (-1 : Int)), some (.inl (0 : Int))]) (zDk zD_271_ok 8 rfl) zm_271 (by decide) rfl ?_
  exact ok_lm_cutOf_c15 hq x1 x2 zN (M1 106 15) (-1 : Int) (0 : Int) M1 h
def zD_290 : List (Nat × Instr × Nat) := [(0, .aload_n (0), 1), (1, .iload_n (1), 1), (2, .invokevirtual (395), 3), (5, .istore_n (2), 1), (6, .iload_n (2), 1), (7, .ifCond .ge (5), 3), (10, .iload_n (2), 1), (11, .ireturn, 1), (12, .iload_n (2), 1), (13, .invokestatic (332), 3), (16, .istore_n (3), 1), (17, .iconst (-1), 1), (18, .istore (4), 2), (20, .iconst (2), 1), (21, .istore (5), 2), (23, .iload (5), 2), (25, .bipush (9), 2), (27, .if_icmp .gt (109), 3), (30, .iconst (0), 1), (31, .istore (6), 2), (33, .iconst (0), 1), (34, .istore (7), 2), (36, .iload (7), 2), (38, .iload (5), 2), (40, .if_icmp .ge (74), 3), (43, .iconst (0), 1), (44, .istore (8), 2), (46, .iconst (0), 1), (47, .istore (9), 2), (49, .iload (9), 2), (51, .aload_n (0), 1), (52, .invokevirtual (279), 3), (55, .if_icmp .ge (44), 3), (58, .iload (8), 2), (60, .iload_n (2), 1), (61, .iload (9), 2), (63, .invokestatic (202), 3), (66, .iconst (1), 1), (67, .if_icmp .ne (22), 3), (70, .aload_n (0), 1), (71, .iload (9), 2), (73, .iconst (2), 1), (74, .invokevirtual (251), 3), (77, .iload (5), 2), (79, .irem, 1), (80, .iload (7), 2), (82, .if_icmp .ne (7), 3), (85, .iconst (1), 1), (86, .goto (4), 3), (89, .iconst (0), 1), (90, .iadd, 1), (91, .istore (8), 2), (93, .iinc (9) (1), 3), (96, .goto (-47), 3), (99, .iload (6), 2), (101, .iload (8), 2), (103, .invokestatic (338), 3), (106, .istore (6), 2), (108, .iinc (7) (1), 3), (111, .goto (-75), 3), (114, .iload (6), 2), (116, .iload_n (3), 1), (117, .if_icmp .lt (6), 3), (120, .goto (10), 3), (123, .iload (6), 2), (125, .istore_n (3), 1), (126, .iload (5), 2), (128, .istore (4), 2), (130, .iinc (5) (1), 3), (133, .goto (-110), 3), (136, .iload (4), 2), (138, .ireturn, 1)]
set_option maxRecDepth 100000 in
theorem zD_290_ok : zDo 290 zD_290 = true := by decide +kernel
theorem zc_290 : zcls 290 = 8 := by decide +kernel
theorem zm_290 : zml 290 = 10 := by decide +kernel
theorem zt_290 : zrt 290 = (some (.int)) := by decide +kernel
theorem zk_290 : zkd 290 = 1 ∧ znp 290 + 1 = 2 := by decide +kernel
theorem zr_290 (as : List zV) : zrk 290 as = 3 := by unfold zrk; rw [if_neg (by decide)]; decide +kernel
def lm_next_c49 (x1 : Int) (M : Nat → Nat → Int) (h23 : Int → Int → Int → Int → Option Int) (h36 : Int → Int → Int → Int → Int → Int → Option Int) : Nat → Int → Int → Int → Int → Int → Int → Int → Int → Option Int
  | 0, _, _, _, _, _, _, _, _ => none
  | n + 1, y2, y3, y4, y5, y6, y7, y8, y9 =>
    ((lm_names M).bind (fun v52 =>
    (if y9 < v52 then
    ((lm_bit y2 y9 M).bind (fun v63 =>
    (if v63 = (1 : Int) then
    ((lm_of y9 (2 : Int) M).bind (fun v74 =>
    (if y5 = 0 then none else (if (zrem v74 y5) = y7 then
    ((lm_next_c49 x1 M h23 h36 n) y2 y3 y4 y5 y6 y7 (w32 (y8 + (1 : Int))) (w32 (y9 + 1)))
    else
    ((lm_next_c49 x1 M h23 h36 n) y2 y3 y4 y5 y6 y7 (w32 (y8 + (0 : Int))) (w32 (y9 + 1)))))))
    else
    ((lm_next_c49 x1 M h23 h36 n) y2 y3 y4 y5 y6 y7 (w32 (y8 + (0 : Int))) (w32 (y9 + 1))))))
    else
    (h36 y2 y3 y4 y5 (zmax y6 y8) (w32 (y7 + 1))))))
set_option maxRecDepth 100000 in
theorem ok_lm_next_c49 {sc : zSc} {q : Nat} {P : Option zV → (Nat → Nat → Int) → Prop} (hq : 3 ≤ q) (x1 : Int) (M : Nat → Nat → Int) (h23 : Int → Int → Int → Int → Option Int) (H23 : ∀ (y2 : Int) (y3 : Int) (y4 : Int) (y5 : Int) (d6 d7 d8 d9 : Option zV), zS (h23 y2 y3 y4 y5) (fun x => P (some (.inl x)) M) → zWp sc q 290 23 [some (.inr (.inr 106)), some (.inl x1), some (.inl y2), some (.inl y3), some (.inl y4), some (.inl y5), d6, d7, d8, d9] [] M P) (h36 : Int → Int → Int → Int → Int → Int → Option Int) (H36 : ∀ (y2 : Int) (y3 : Int) (y4 : Int) (y5 : Int) (y6 : Int) (y7 : Int) (d8 d9 : Option zV), zS (h36 y2 y3 y4 y5 y6 y7) (fun x => P (some (.inl x)) M) → zWp sc q 290 36 [some (.inr (.inr 106)), some (.inl x1), some (.inl y2), some (.inl y3), some (.inl y4), some (.inl y5), some (.inl y6), some (.inl y7), d8, d9] [] M P) : ∀ (n : Nat) (y2 : Int) (y3 : Int) (y4 : Int) (y5 : Int) (y6 : Int) (y7 : Int) (y8 : Int) (y9 : Int), zS (lm_next_c49 x1 M h23 h36 n y2 y3 y4 y5 y6 y7 y8 y9) (fun x => P (some (.inl x)) M) → zWp sc q 290 49 [some (.inr (.inr 106)), some (.inl x1), some (.inl y2), some (.inl y3), some (.inl y4), some (.inl y5), some (.inl y6), some (.inl y7), some (.inl y8), some (.inl y9)] [] M P := by
  intro n
  induction n with
  | zero => intro y2 y3 y4 y5 y6 y7 y8 y9 h; exact (zS_none h).elim
  | succ n ih =>
    intro y2 y3 y4 y5 y6 y7 y8 y9 h
    rw [lm_next_c49] at h
    refine E_iload (pc := 49) (zDk zD_290_ok 29 rfl) rfl ?_
    refine E_aload_n (pc := 51) (zDk zD_290_ok 30 rfl) rfl ?_
    obtain ⟨v52, e52, h⟩ := zS_bind h
    refine E_virI (pc := 52) (c := 189) (r := 106) (as := []) (rest := [.inl y9]) (zDk zD_290_ok 31 rfl) zc_290 (by decide +kernel) zk_189 ⟨(Nat.le_of_ble_eq_true rfl), rfl, rfl⟩ (Nat.le_of_ble_eq_true rfl) (zr_189 _) (Nat.lt_of_lt_of_le (by decide) hq) (by rw [zm_189]; exact (Nat.le_of_ble_eq_true rfl)) ⟨zc_189, by decide⟩ zis_8_106 (ok_lm_names ⟨v52, e52, ?_⟩)
    refine E_icmp (pc := 55) (t := 99) (zDk zD_290_ok 32 rfl) rfl (fun hz => ?_) (fun hz => ?_)
    · have h := zS_f h (Int.not_lt.mpr (T_ge hz))
      refine E_iload (pc := 99) (zDk zD_290_ok 54 rfl) rfl ?_
      refine E_iload (pc := 101) (zDk zD_290_ok 55 rfl) rfl ?_
      refine W_max (pc := 103) (zDk zD_290_ok 56 rfl) zc_290 (by decide +kernel) (Nat.le_of_ble_eq_true rfl) (Nat.lt_of_lt_of_le (by decide) hq) ?_
      refine W_istore (pc := 106) (L' := [some (.inr (.inr 106)), some (.inl x1), some (.inl y2), some (.inl y3), some (.inl y4), some (.inl y5), some (.inl (zmax y6 y8)), some (.inl y7), some (.inl y8), some (.inl y9)]) (zDk zD_290_ok 57 rfl) zm_290 (by decide) rfl ?_
      refine W_iinc (pc := 108) (L' := [some (.inr (.inr 106)), some (.inl x1), some (.inl y2), some (.inl y3), some (.inl y4), some (.inl y5), some (.inl (zmax y6 y8)), some (.inl (w32 (y7 + 1))), some (.inl y8), some (.inl y9)]) (zDk zD_290_ok 58 rfl) rfl zm_290 (by decide) rfl ?_
      refine E_goto (pc := 111) (t := 36) (zDk zD_290_ok 59 rfl) rfl ?_
      exact H36 y2 y3 y4 y5 (zmax y6 y8) (w32 (y7 + 1)) (some (.inl y8)) (some (.inl y9)) h
    · have h := zS_t h (F_ge hz)
      refine E_iload (pc := 58) (zDk zD_290_ok 33 rfl) rfl ?_
      refine E_iload_n (pc := 60) (zDk zD_290_ok 34 rfl) rfl ?_
      refine E_iload (pc := 61) (zDk zD_290_ok 35 rfl) rfl ?_
      obtain ⟨v63, e63, h⟩ := zS_bind h
      refine E_staI (pc := 63) (c := 178) (as := [.inl y2, .inl y9]) (rest := [.inl y8]) (zDk zD_290_ok 36 rfl) zc_290 (by decide +kernel) (by decide +kernel) zk_178 ⟨(Nat.le_of_ble_eq_true rfl), rfl, rfl⟩ (Nat.le_of_ble_eq_true rfl) (zr_178 _) (Nat.lt_of_lt_of_le (by decide) hq) (by rw [zm_178]; exact (Nat.le_of_ble_eq_true rfl)) (ok_lm_bit ⟨v63, e63, ?_⟩)
      refine E_iconst (pc := 66) (zDk zD_290_ok 37 rfl) (by decide +kernel) ?_
      refine E_icmp (pc := 67) (t := 89) (zDk zD_290_ok 38 rfl) rfl (fun hz => ?_) (fun hz => ?_)
      · have h := zS_f h (T_ne hz)
        refine E_iconst (pc := 89) (zDk zD_290_ok 49 rfl) (by decide +kernel) ?_
        refine W_iadd (pc := 90) (zDk zD_290_ok 50 rfl) ?_
        refine W_istore (pc := 91) (L' := [some (.inr (.inr 106)), some (.inl x1), some (.inl y2), some (.inl y3), some (.inl y4), some (.inl y5), some (.inl y6), some (.inl y7), some (.inl (w32 (y8 + (0 : Int)))), some (.inl y9)]) (zDk zD_290_ok 51 rfl) zm_290 (by decide) rfl ?_
        refine W_iinc (pc := 93) (L' := [some (.inr (.inr 106)), some (.inl x1), some (.inl y2), some (.inl y3), some (.inl y4), some (.inl y5), some (.inl y6), some (.inl y7), some (.inl (w32 (y8 + (0 : Int)))), some (.inl (w32 (y9 + 1)))]) (zDk zD_290_ok 52 rfl) rfl zm_290 (by decide) rfl ?_
        refine E_goto (pc := 96) (t := 49) (zDk zD_290_ok 53 rfl) rfl ?_
        exact (ih) y2 y3 y4 y5 y6 y7 (w32 (y8 + (0 : Int))) (w32 (y9 + 1)) h
      · have h := zS_t h (F_ne hz)
        refine E_aload_n (pc := 70) (zDk zD_290_ok 39 rfl) rfl ?_
        refine E_iload (pc := 71) (zDk zD_290_ok 40 rfl) rfl ?_
        refine E_iconst (pc := 73) (zDk zD_290_ok 41 rfl) (by decide +kernel) ?_
        obtain ⟨v74, e74, h⟩ := zS_bind h
        refine E_virI (pc := 74) (c := 190) (r := 106) (as := [.inl y9, .inl (2 : Int)]) (rest := [.inl y8]) (zDk zD_290_ok 42 rfl) zc_290 (by decide +kernel) zk_190 ⟨(Nat.le_of_ble_eq_true rfl), rfl, rfl⟩ (Nat.le_of_ble_eq_true rfl) (zr_190 _) (Nat.lt_of_lt_of_le (by decide) hq) (by rw [zm_190]; exact (Nat.le_of_ble_eq_true rfl)) ⟨zc_190, by decide⟩ zis_8_106 (ok_lm_of ⟨v74, e74, ?_⟩)
        refine E_iload (pc := 77) (zDk zD_290_ok 43 rfl) rfl ?_
        have hn79 : ¬ (y5 = 0) := fun e => by rw [if_pos e] at h; exact zS_none h
        have h := zS_f h hn79
        refine E_irem (pc := 79) (zDk zD_290_ok 44 rfl) hn79 ?_
        refine E_iload (pc := 80) (zDk zD_290_ok 45 rfl) rfl ?_
        refine E_icmp (pc := 82) (t := 89) (zDk zD_290_ok 46 rfl) rfl (fun hz => ?_) (fun hz => ?_)
        · have h := zS_f h (T_ne hz)
          refine E_iconst (pc := 89) (zDk zD_290_ok 49 rfl) (by decide +kernel) ?_
          refine W_iadd (pc := 90) (zDk zD_290_ok 50 rfl) ?_
          refine W_istore (pc := 91) (L' := [some (.inr (.inr 106)), some (.inl x1), some (.inl y2), some (.inl y3), some (.inl y4), some (.inl y5), some (.inl y6), some (.inl y7), some (.inl (w32 (y8 + (0 : Int)))), some (.inl y9)]) (zDk zD_290_ok 51 rfl) zm_290 (by decide) rfl ?_
          refine W_iinc (pc := 93) (L' := [some (.inr (.inr 106)), some (.inl x1), some (.inl y2), some (.inl y3), some (.inl y4), some (.inl y5), some (.inl y6), some (.inl y7), some (.inl (w32 (y8 + (0 : Int)))), some (.inl (w32 (y9 + 1)))]) (zDk zD_290_ok 52 rfl) rfl zm_290 (by decide) rfl ?_
          refine E_goto (pc := 96) (t := 49) (zDk zD_290_ok 53 rfl) rfl ?_
          exact (ih) y2 y3 y4 y5 y6 y7 (w32 (y8 + (0 : Int))) (w32 (y9 + 1)) h
        · have h := zS_t h (F_ne hz)
          refine E_iconst (pc := 85) (zDk zD_290_ok 47 rfl) (by decide +kernel) ?_
          refine E_goto (pc := 86) (t := 90) (zDk zD_290_ok 48 rfl) rfl ?_
          refine W_iadd (pc := 90) (zDk zD_290_ok 50 rfl) ?_
          refine W_istore (pc := 91) (L' := [some (.inr (.inr 106)), some (.inl x1), some (.inl y2), some (.inl y3), some (.inl y4), some (.inl y5), some (.inl y6), some (.inl y7), some (.inl (w32 (y8 + (1 : Int)))), some (.inl y9)]) (zDk zD_290_ok 51 rfl) zm_290 (by decide) rfl ?_
          refine W_iinc (pc := 93) (L' := [some (.inr (.inr 106)), some (.inl x1), some (.inl y2), some (.inl y3), some (.inl y4), some (.inl y5), some (.inl y6), some (.inl y7), some (.inl (w32 (y8 + (1 : Int)))), some (.inl (w32 (y9 + 1)))]) (zDk zD_290_ok 52 rfl) rfl zm_290 (by decide) rfl ?_
          refine E_goto (pc := 96) (t := 49) (zDk zD_290_ok 53 rfl) rfl ?_
          exact (ih) y2 y3 y4 y5 y6 y7 (w32 (y8 + (1 : Int))) (w32 (y9 + 1)) h
def lm_next_c36 (x1 : Int) (M : Nat → Nat → Int) (h23 : Int → Int → Int → Int → Option Int) : Nat → Int → Int → Int → Int → Int → Int → Option Int
  | 0, _, _, _, _, _, _ => none
  | n + 1, y2, y3, y4, y5, y6, y7 =>
    (if y7 < y5 then
    (lm_next_c49 x1 M h23 (lm_next_c36 x1 M h23 n) zN y2 y3 y4 y5 y6 y7 (0 : Int) (0 : Int))
    else
    (if y6 < y3 then
    (h23 y2 y6 y5 (w32 (y5 + 1)))
    else
    (h23 y2 y3 y4 (w32 (y5 + 1)))))
set_option maxRecDepth 100000 in
theorem ok_lm_next_c36 {sc : zSc} {q : Nat} {P : Option zV → (Nat → Nat → Int) → Prop} (hq : 3 ≤ q) (x1 : Int) (M : Nat → Nat → Int) (h23 : Int → Int → Int → Int → Option Int) (H23 : ∀ (y2 : Int) (y3 : Int) (y4 : Int) (y5 : Int) (d6 d7 d8 d9 : Option zV), zS (h23 y2 y3 y4 y5) (fun x => P (some (.inl x)) M) → zWp sc q 290 23 [some (.inr (.inr 106)), some (.inl x1), some (.inl y2), some (.inl y3), some (.inl y4), some (.inl y5), d6, d7, d8, d9] [] M P) : ∀ (n : Nat) (y2 : Int) (y3 : Int) (y4 : Int) (y5 : Int) (y6 : Int) (y7 : Int) (d8 d9 : Option zV), zS (lm_next_c36 x1 M h23 n y2 y3 y4 y5 y6 y7) (fun x => P (some (.inl x)) M) → zWp sc q 290 36 [some (.inr (.inr 106)), some (.inl x1), some (.inl y2), some (.inl y3), some (.inl y4), some (.inl y5), some (.inl y6), some (.inl y7), d8, d9] [] M P := by
  intro n
  induction n with
  | zero => intro y2 y3 y4 y5 y6 y7 d8 d9 h; exact (zS_none h).elim
  | succ n ih =>
    intro y2 y3 y4 y5 y6 y7 d8 d9 h
    rw [lm_next_c36] at h
    refine E_iload (pc := 36) (zDk zD_290_ok 22 rfl) rfl ?_
    refine E_iload (pc := 38) (zDk zD_290_ok 23 rfl) rfl ?_
    refine E_icmp (pc := 40) (t := 114) (zDk zD_290_ok 24 rfl) rfl (fun hz => ?_) (fun hz => ?_)
    · have h := zS_f h (Int.not_lt.mpr (T_ge hz))
      refine E_iload (pc := 114) (zDk zD_290_ok 60 rfl) rfl ?_
      refine E_iload_n (pc := 116) (zDk zD_290_ok 61 rfl) rfl ?_
      refine E_icmp (pc := 117) (t := 123) (zDk zD_290_ok 62 rfl) rfl (fun hz => ?_) (fun hz => ?_)
      · have h := zS_t h (T_lt hz)
        refine E_iload (pc := 123) (zDk zD_290_ok 64 rfl) rfl ?_
        refine W_istore_n (pc := 125) (L' := [some (.inr (.inr 106)), some (.inl x1), some (.inl y2), some (.inl y6), some (.inl y4), some (.inl y5), some (.inl y6), some (.inl y7), d8, d9]) (zDk zD_290_ok 65 rfl) zm_290 (by decide) rfl ?_
        refine E_iload (pc := 126) (zDk zD_290_ok 66 rfl) rfl ?_
        refine W_istore (pc := 128) (L' := [some (.inr (.inr 106)), some (.inl x1), some (.inl y2), some (.inl y6), some (.inl y5), some (.inl y5), some (.inl y6), some (.inl y7), d8, d9]) (zDk zD_290_ok 67 rfl) zm_290 (by decide) rfl ?_
        refine W_iinc (pc := 130) (L' := [some (.inr (.inr 106)), some (.inl x1), some (.inl y2), some (.inl y6), some (.inl y5), some (.inl (w32 (y5 + 1))), some (.inl y6), some (.inl y7), d8, d9]) (zDk zD_290_ok 68 rfl) rfl zm_290 (by decide) rfl ?_
        refine E_goto (pc := 133) (t := 23) (zDk zD_290_ok 69 rfl) rfl ?_
        exact H23 y2 y6 y5 (w32 (y5 + 1)) (some (.inl y6)) (some (.inl y7)) d8 d9 h
      · have h := zS_f h (Int.not_lt.mpr (F_lt hz))
        refine E_goto (pc := 120) (t := 130) (zDk zD_290_ok 63 rfl) rfl ?_
        refine W_iinc (pc := 130) (L' := [some (.inr (.inr 106)), some (.inl x1), some (.inl y2), some (.inl y3), some (.inl y4), some (.inl (w32 (y5 + 1))), some (.inl y6), some (.inl y7), d8, d9]) (zDk zD_290_ok 68 rfl) rfl zm_290 (by decide) rfl ?_
        refine E_goto (pc := 133) (t := 23) (zDk zD_290_ok 69 rfl) rfl ?_
        exact H23 y2 y3 y4 (w32 (y5 + 1)) (some (.inl y6)) (some (.inl y7)) d8 d9 h
    · have h := zS_t h (F_ge hz)
      refine E_iconst (pc := 43) (zDk zD_290_ok 25 rfl) (by decide +kernel) ?_
      refine W_istore (pc := 44) (L' := [some (.inr (.inr 106)), some (.inl x1), some (.inl y2), some (.inl y3), some (.inl y4), some (.inl y5), some (.inl y6), some (.inl y7), some (.inl (0 : Int)), d9]) (zDk zD_290_ok 26 rfl) zm_290 (by decide) rfl ?_
      refine E_iconst (pc := 46) (zDk zD_290_ok 27 rfl) (by decide +kernel) ?_
      refine W_istore (pc := 47) (L' := [some (.inr (.inr 106)), some (.inl x1), some (.inl y2), some (.inl y3), some (.inl y4), some (.inl y5), some (.inl y6), some (.inl y7), some (.inl (0 : Int)), some (.inl (0 : Int))]) (zDk zD_290_ok 28 rfl) zm_290 (by decide) rfl ?_
      exact ok_lm_next_c49 hq x1 M h23 H23 (lm_next_c36 x1 M h23 n) (ih) zN y2 y3 y4 y5 y6 y7 (0 : Int) (0 : Int) h
def lm_next_c23 (x1 : Int) (M : Nat → Nat → Int) : Nat → Int → Int → Int → Int → Option Int
  | 0, _, _, _, _ => none
  | n + 1, y2, y3, y4, y5 =>
    (if (9 : Int) < y5 then
    (some y4)
    else
    (lm_next_c36 x1 M (lm_next_c23 x1 M n) zN y2 y3 y4 y5 (0 : Int) (0 : Int)))
set_option maxRecDepth 100000 in
theorem ok_lm_next_c23 {sc : zSc} {q : Nat} {P : Option zV → (Nat → Nat → Int) → Prop} (hq : 3 ≤ q) (x1 : Int) (M : Nat → Nat → Int) : ∀ (n : Nat) (y2 : Int) (y3 : Int) (y4 : Int) (y5 : Int) (d6 d7 d8 d9 : Option zV), zS (lm_next_c23 x1 M n y2 y3 y4 y5) (fun x => P (some (.inl x)) M) → zWp sc q 290 23 [some (.inr (.inr 106)), some (.inl x1), some (.inl y2), some (.inl y3), some (.inl y4), some (.inl y5), d6, d7, d8, d9] [] M P := by
  intro n
  induction n with
  | zero => intro y2 y3 y4 y5 d6 d7 d8 d9 h; exact (zS_none h).elim
  | succ n ih =>
    intro y2 y3 y4 y5 d6 d7 d8 d9 h
    rw [lm_next_c23] at h
    refine E_iload (pc := 23) (zDk zD_290_ok 15 rfl) rfl ?_
    refine E_bipush (pc := 25) (zDk zD_290_ok 16 rfl) (by decide +kernel) ?_
    refine E_icmp (pc := 27) (t := 136) (zDk zD_290_ok 17 rfl) rfl (fun hz => ?_) (fun hz => ?_)
    · have h := zS_t h (T_gt hz)
      refine E_iload (pc := 136) (zDk zD_290_ok 70 rfl) rfl ?_
      have h := zS_some h
      exact E_ireturn (pc := 138) (zDk zD_290_ok 71 rfl) zt_290 h
    · have h := zS_f h (Int.not_lt.mpr (F_gt hz))
      refine E_iconst (pc := 30) (zDk zD_290_ok 18 rfl) (by decide +kernel) ?_
      refine W_istore (pc := 31) (L' := [some (.inr (.inr 106)), some (.inl x1), some (.inl y2), some (.inl y3), some (.inl y4), some (.inl y5), some (.inl (0 : Int)), d7, d8, d9]) (zDk zD_290_ok 19 rfl) zm_290 (by decide) rfl ?_
      refine E_iconst (pc := 33) (zDk zD_290_ok 20 rfl) (by decide +kernel) ?_
      refine W_istore (pc := 34) (L' := [some (.inr (.inr 106)), some (.inl x1), some (.inl y2), some (.inl y3), some (.inl y4), some (.inl y5), some (.inl (0 : Int)), some (.inl (0 : Int)), d8, d9]) (zDk zD_290_ok 21 rfl) zm_290 (by decide) rfl ?_
      exact ok_lm_next_c36 hq x1 M (lm_next_c23 x1 M n) (ih) zN y2 y3 y4 y5 (0 : Int) (0 : Int) d8 d9 h
def lm_next (x1 : Int) (M : Nat → Nat → Int) : Option Int :=
    ((lm_sniffs x1 M).bind (fun v2 =>
    (if v2 < 0 then
    (some v2)
    else
    ((lm_bits v2 M).bind (fun v13 =>
    (lm_next_c23 x1 M zN v2 v13 (-1 : Int) (2 : Int)))))))
set_option maxRecDepth 100000 in
theorem ok_lm_next {sc : zSc} {x1 : Int} {M : Nat → Nat → Int} {P : Int → (Nat → Nat → Int) → Prop} (h : zS (lm_next x1 M) (fun x => P x M)) : zCi sc 290 [.inr (.inr 106), .inl x1] M P := by
  have ea : zarg (zml 290) [.inr (.inr 106), .inl x1] = [some (.inr (.inr 106)), some (.inl x1), none, none, none, none, none, none, none, none] := by rw [zm_290]; rfl
  unfold zCi zCw
  rw [ea, zr_290]
  have hq : 3 ≤ 3 := Nat.le_refl _
  unfold lm_next at h
  have h := zS_mono h (fun x hx => (⟨x, rfl, hx⟩ : ∃ y, (some (.inl x) : Option zV) = some (.inl y) ∧ P y M))
  skip
  refine E_aload_n (pc := 0) (zDk zD_290_ok 0 rfl) rfl ?_
  refine E_iload_n (pc := 1) (zDk zD_290_ok 1 rfl) rfl ?_
  obtain ⟨v2, e2, h⟩ := zS_bind h
  refine E_virI (pc := 2) (c := 289) (r := 106) (as := [.inl x1]) (rest := []) (zDk zD_290_ok 2 rfl) zc_290 (by decide +kernel) zk_289 ⟨(Nat.le_of_ble_eq_true rfl), rfl, rfl⟩ (Nat.le_of_ble_eq_true rfl) (zr_289 _) (Nat.lt_of_lt_of_le (by decide) hq) (by rw [zm_289]; exact (Nat.le_of_ble_eq_true rfl)) ⟨zc_289, by decide⟩ zis_8_106 (ok_lm_sniffs ⟨v2, e2, ?_⟩)
  refine W_istore_n (pc := 5) (L' := [some (.inr (.inr 106)), some (.inl x1), some (.inl v2), none, none, none, none, none, none, none]) (zDk zD_290_ok 3 rfl) zm_290 (by decide) rfl ?_
  refine E_iload_n (pc := 6) (zDk zD_290_ok 4 rfl) rfl ?_
  refine E_if (pc := 7) (t := 12) (zDk zD_290_ok 5 rfl) rfl (fun hz => ?_) (fun hz => ?_)
  · have h := zS_f h (Int.not_lt.mpr (T_ge hz))
    refine E_iload_n (pc := 12) (zDk zD_290_ok 8 rfl) rfl ?_
    obtain ⟨v13, e13, h⟩ := zS_bind h
    refine E_staI (pc := 13) (c := 177) (as := [.inl v2]) (rest := []) (zDk zD_290_ok 9 rfl) zc_290 (by decide +kernel) (by decide +kernel) zk_177 ⟨(Nat.le_of_ble_eq_true rfl), rfl, rfl⟩ (Nat.le_of_ble_eq_true rfl) (zr_177 _) (Nat.lt_of_lt_of_le (by decide) hq) (by rw [zm_177]; exact (Nat.le_of_ble_eq_true rfl)) (ok_lm_bits ⟨v13, e13, ?_⟩)
    refine W_istore_n (pc := 16) (L' := [some (.inr (.inr 106)), some (.inl x1), some (.inl v2), some (.inl v13), none, none, none, none, none, none]) (zDk zD_290_ok 10 rfl) zm_290 (by decide) rfl ?_
    refine E_iconst (pc := 17) (zDk zD_290_ok 11 rfl) (by decide +kernel) ?_
    refine W_istore (pc := 18) (L' := [some (.inr (.inr 106)), some (.inl x1), some (.inl v2), some (.inl v13), some (.inl (-1 : Int)), none, none, none, none, none]) (zDk zD_290_ok 12 rfl) zm_290 (by decide) rfl ?_
    refine E_iconst (pc := 20) (zDk zD_290_ok 13 rfl) (by decide +kernel) ?_
    refine W_istore (pc := 21) (L' := [some (.inr (.inr 106)), some (.inl x1), some (.inl v2), some (.inl v13), some (.inl (-1 : Int)), some (.inl (2 : Int)), none, none, none, none]) (zDk zD_290_ok 14 rfl) zm_290 (by decide) rfl ?_
    exact ok_lm_next_c23 hq x1 M zN v2 v13 (-1 : Int) (2 : Int) none none none none h
  · have h := zS_t h (F_ge hz)
    refine E_iload_n (pc := 10) (zDk zD_290_ok 6 rfl) rfl ?_
    have h := zS_some h
    exact E_ireturn (pc := 11) (zDk zD_290_ok 7 rfl) zt_290 h
def zD_297 : List (Nat × Instr × Nat) := [(0, .aload_n (0), 1), (1, .iload_n (1), 1), (2, .invokevirtual (265), 3), (5, .ifCond .eq (13), 3), (8, .iload_n (2), 1), (9, .i2l, 1), (10, .lconst (0), 1), (11, .lconst (1), 1), (12, .invokestatic (91), 3), (15, .ifCond .ne (6), 3), (18, .bipush (-2), 2), (20, .ireturn, 1), (21, .aload_n (0), 1), (22, .invokevirtual (279), 3), (25, .istore_n (3), 1), (26, .iconst (0), 1), (27, .istore (4), 2), (29, .iconst (0), 1), (30, .istore (5), 2), (32, .iload (5), 2), (34, .iconst (1), 1), (35, .iload_n (3), 1), (36, .ishl, 1), (37, .if_icmp .ge (62), 3), (40, .iload (5), 2), (42, .iload_n (1), 1), (43, .invokestatic (202), 3), (46, .ifCond .ne (47), 3), (49, .iload (4), 2), (51, .iload (5), 2), (53, .invokestatic (332), 3), (56, .invokestatic (412), 3), (59, .iload_n (3), 1), (60, .iconst (1), 1), (61, .isub, 1), (62, .iload (5), 2), (64, .invokestatic (332), 3), (67, .isub, 1), (68, .invokestatic (412), 3), (71, .imul, 1), (72, .aload_n (0), 1), (73, .iload (5), 2), (75, .iconst (1), 1), (76, .iload_n (1), 1), (77, .ishl, 1), (78, .ior, 1), (79, .invokevirtual (401), 3), (82, .aload_n (0), 1), (83, .iload (5), 2), (85, .invokevirtual (401), 3), (88, .isub, 1), (89, .imul, 1), (90, .iadd, 1), (91, .istore (4), 2), (93, .iinc (5) (1), 3), (96, .goto (-64), 3), (99, .iload (4), 2), (101, .i2l, 1), (102, .iload_n (3), 1), (103, .invokestatic (412), 3), (106, .i2l, 1), (107, .iload_n (2), 1), (108, .invokestatic (415), 3), (111, .l2i, 1), (112, .ireturn, 1)]
set_option maxRecDepth 100000 in
theorem zD_297_ok : zDo 297 zD_297 = true := by decide +kernel
theorem zc_297 : zcls 297 = 8 := by decide +kernel
theorem zm_297 : zml 297 = 6 := by decide +kernel
theorem zt_297 : zrt 297 = (some (.int)) := by decide +kernel
theorem zk_297 : zkd 297 = 1 ∧ znp 297 + 1 = 3 := by decide +kernel
theorem zr_297 (as : List zV) : zrk 297 as = 3 := by unfold zrk; rw [if_neg (by decide)]; decide +kernel
def lm_share_c32 (x1 : Int) (x2 : Int) (M : Nat → Nat → Int) : Nat → Int → Int → Int → Option Int
  | 0, _, _, _ => none
  | n + 1, y3, y4, y5 =>
    (if y5 < (zshl (1 : Int) y3) then
    ((lm_bit y5 x1 M).bind (fun v43 =>
    (if v43 = 0 then
    ((lm_bits y5 M).bind (fun v53 =>
    ((lm_factorial v53 M).bind (fun v56 =>
    ((lm_bits y5 M).bind (fun v64 =>
    ((lm_factorial (w32 ((w32 (y3 - (1 : Int))) - v64)) M).bind (fun v68 =>
    ((lm_worthOf (zor y5 (zshl (1 : Int) x1)) M).bind (fun v79 =>
    ((lm_worthOf y5 M).bind (fun v85 =>
    ((lm_share_c32 x1 x2 M n) y3 (w32 (y4 + (w32 ((w32 (v56 * v68)) * (w32 (v79 - v85)))))) (w32 (y5 + 1)))))))))))))))
    else
    ((lm_share_c32 x1 x2 M n) y3 y4 (w32 (y5 + 1))))))
    else
    ((lm_factorial y3 M).bind (fun v103 =>
    ((lm_part y4 v103 x2 M).bind (fun v108 =>
    (some (w32 v108)))))))
set_option maxRecDepth 100000 in
theorem ok_lm_share_c32 {sc : zSc} {q : Nat} {P : Option zV → (Nat → Nat → Int) → Prop} (hq : 3 ≤ q) (x1 : Int) (x2 : Int) (M : Nat → Nat → Int) : ∀ (n : Nat) (y3 : Int) (y4 : Int) (y5 : Int), zS (lm_share_c32 x1 x2 M n y3 y4 y5) (fun x => P (some (.inl x)) M) → zWp sc q 297 32 [some (.inr (.inr 106)), some (.inl x1), some (.inl x2), some (.inl y3), some (.inl y4), some (.inl y5)] [] M P := by
  intro n
  induction n with
  | zero => intro y3 y4 y5 h; exact (zS_none h).elim
  | succ n ih =>
    intro y3 y4 y5 h
    rw [lm_share_c32] at h
    refine E_iload (pc := 32) (zDk zD_297_ok 19 rfl) rfl ?_
    refine E_iconst (pc := 34) (zDk zD_297_ok 20 rfl) (by decide +kernel) ?_
    refine E_iload_n (pc := 35) (zDk zD_297_ok 21 rfl) rfl ?_
    refine E_ishl (pc := 36) (zDk zD_297_ok 22 rfl) ?_
    refine E_icmp (pc := 37) (t := 99) (zDk zD_297_ok 23 rfl) rfl (fun hz => ?_) (fun hz => ?_)
    · have h := zS_f h (Int.not_lt.mpr (T_ge hz))
      refine E_iload (pc := 99) (zDk zD_297_ok 56 rfl) rfl ?_
      refine E_i2l (pc := 101) (zDk zD_297_ok 57 rfl) ?_
      refine E_iload_n (pc := 102) (zDk zD_297_ok 58 rfl) rfl ?_
      obtain ⟨v103, e103, h⟩ := zS_bind h
      refine E_staI (pc := 103) (c := 294) (as := [.inl y3]) (rest := [.inr (.inl y4)]) (zDk zD_297_ok 59 rfl) zc_297 (by decide +kernel) (by decide +kernel) zk_294 ⟨(Nat.le_of_ble_eq_true rfl), rfl, rfl⟩ (Nat.le_of_ble_eq_true rfl) (zr_294 _) (Nat.lt_of_lt_of_le (by decide) hq) (by rw [zm_294]; exact (Nat.le_of_ble_eq_true rfl)) (ok_lm_factorial ⟨v103, e103, ?_⟩)
      refine E_i2l (pc := 106) (zDk zD_297_ok 60 rfl) ?_
      refine E_iload_n (pc := 107) (zDk zD_297_ok 61 rfl) rfl ?_
      obtain ⟨v108, e108, h⟩ := zS_bind h
      refine E_staL (pc := 108) (c := 296) (as := [.inr (.inl y4), .inr (.inl v103), .inl x2]) (rest := []) (zDk zD_297_ok 62 rfl) zc_297 (by decide +kernel) (by decide +kernel) zk_296 ⟨(Nat.le_of_ble_eq_true rfl), rfl, rfl⟩ (Nat.le_of_ble_eq_true rfl) (zr_296 _) (Nat.lt_of_lt_of_le (by decide) hq) (by rw [zm_296]; exact (Nat.le_of_ble_eq_true rfl)) (ok_lm_part ⟨v108, e108, ?_⟩)
      refine E_l2i (pc := 111) (zDk zD_297_ok 63 rfl) ?_
      have h := zS_some h
      exact E_ireturn (pc := 112) (zDk zD_297_ok 64 rfl) zt_297 h
    · have h := zS_t h (F_ge hz)
      refine E_iload (pc := 40) (zDk zD_297_ok 24 rfl) rfl ?_
      refine E_iload_n (pc := 42) (zDk zD_297_ok 25 rfl) rfl ?_
      obtain ⟨v43, e43, h⟩ := zS_bind h
      refine E_staI (pc := 43) (c := 178) (as := [.inl y5, .inl x1]) (rest := []) (zDk zD_297_ok 26 rfl) zc_297 (by decide +kernel) (by decide +kernel) zk_178 ⟨(Nat.le_of_ble_eq_true rfl), rfl, rfl⟩ (Nat.le_of_ble_eq_true rfl) (zr_178 _) (Nat.lt_of_lt_of_le (by decide) hq) (by rw [zm_178]; exact (Nat.le_of_ble_eq_true rfl)) (ok_lm_bit ⟨v43, e43, ?_⟩)
      refine E_if (pc := 46) (t := 93) (zDk zD_297_ok 27 rfl) rfl (fun hz => ?_) (fun hz => ?_)
      · have h := zS_f h (T_ne hz)
        refine W_iinc (pc := 93) (L' := [some (.inr (.inr 106)), some (.inl x1), some (.inl x2), some (.inl y3), some (.inl y4), some (.inl (w32 (y5 + 1)))]) (zDk zD_297_ok 54 rfl) rfl zm_297 (by decide) rfl ?_
        refine E_goto (pc := 96) (t := 32) (zDk zD_297_ok 55 rfl) rfl ?_
        exact (ih) y3 y4 (w32 (y5 + 1)) h
      · have h := zS_t h (F_ne hz)
        refine E_iload (pc := 49) (zDk zD_297_ok 28 rfl) rfl ?_
        refine E_iload (pc := 51) (zDk zD_297_ok 29 rfl) rfl ?_
        obtain ⟨v53, e53, h⟩ := zS_bind h
        refine E_staI (pc := 53) (c := 177) (as := [.inl y5]) (rest := [.inl y4]) (zDk zD_297_ok 30 rfl) zc_297 (by decide +kernel) (by decide +kernel) zk_177 ⟨(Nat.le_of_ble_eq_true rfl), rfl, rfl⟩ (Nat.le_of_ble_eq_true rfl) (zr_177 _) (Nat.lt_of_lt_of_le (by decide) hq) (by rw [zm_177]; exact (Nat.le_of_ble_eq_true rfl)) (ok_lm_bits ⟨v53, e53, ?_⟩)
        obtain ⟨v56, e56, h⟩ := zS_bind h
        refine E_staI (pc := 56) (c := 294) (as := [.inl v53]) (rest := [.inl y4]) (zDk zD_297_ok 31 rfl) zc_297 (by decide +kernel) (by decide +kernel) zk_294 ⟨(Nat.le_of_ble_eq_true rfl), rfl, rfl⟩ (Nat.le_of_ble_eq_true rfl) (zr_294 _) (Nat.lt_of_lt_of_le (by decide) hq) (by rw [zm_294]; exact (Nat.le_of_ble_eq_true rfl)) (ok_lm_factorial ⟨v56, e56, ?_⟩)
        refine E_iload_n (pc := 59) (zDk zD_297_ok 32 rfl) rfl ?_
        refine E_iconst (pc := 60) (zDk zD_297_ok 33 rfl) (by decide +kernel) ?_
        refine W_isub (pc := 61) (zDk zD_297_ok 34 rfl) ?_
        refine E_iload (pc := 62) (zDk zD_297_ok 35 rfl) rfl ?_
        obtain ⟨v64, e64, h⟩ := zS_bind h
        refine E_staI (pc := 64) (c := 177) (as := [.inl y5]) (rest := [.inl (w32 (y3 - (1 : Int))), .inl v56, .inl y4]) (zDk zD_297_ok 36 rfl) zc_297 (by decide +kernel) (by decide +kernel) zk_177 ⟨(Nat.le_of_ble_eq_true rfl), rfl, rfl⟩ (Nat.le_of_ble_eq_true rfl) (zr_177 _) (Nat.lt_of_lt_of_le (by decide) hq) (by rw [zm_177]; exact (Nat.le_of_ble_eq_true rfl)) (ok_lm_bits ⟨v64, e64, ?_⟩)
        refine W_isub (pc := 67) (zDk zD_297_ok 37 rfl) ?_
        obtain ⟨v68, e68, h⟩ := zS_bind h
        refine E_staI (pc := 68) (c := 294) (as := [.inl (w32 ((w32 (y3 - (1 : Int))) - v64))]) (rest := [.inl v56, .inl y4]) (zDk zD_297_ok 38 rfl) zc_297 (by decide +kernel) (by decide +kernel) zk_294 ⟨(Nat.le_of_ble_eq_true rfl), rfl, rfl⟩ (Nat.le_of_ble_eq_true rfl) (zr_294 _) (Nat.lt_of_lt_of_le (by decide) hq) (by rw [zm_294]; exact (Nat.le_of_ble_eq_true rfl)) (ok_lm_factorial ⟨v68, e68, ?_⟩)
        refine W_imul (pc := 71) (zDk zD_297_ok 39 rfl) ?_
        refine E_aload_n (pc := 72) (zDk zD_297_ok 40 rfl) rfl ?_
        refine E_iload (pc := 73) (zDk zD_297_ok 41 rfl) rfl ?_
        refine E_iconst (pc := 75) (zDk zD_297_ok 42 rfl) (by decide +kernel) ?_
        refine E_iload_n (pc := 76) (zDk zD_297_ok 43 rfl) rfl ?_
        refine E_ishl (pc := 77) (zDk zD_297_ok 44 rfl) ?_
        refine E_ior (pc := 78) (zDk zD_297_ok 45 rfl) ?_
        obtain ⟨v79, e79, h⟩ := zS_bind h
        refine E_virI (pc := 79) (c := 292) (r := 106) (as := [.inl (zor y5 (zshl (1 : Int) x1))]) (rest := [.inl (w32 (v56 * v68)), .inl y4]) (zDk zD_297_ok 46 rfl) zc_297 (by decide +kernel) zk_292 ⟨(Nat.le_of_ble_eq_true rfl), rfl, rfl⟩ (Nat.le_of_ble_eq_true rfl) (zr_292 _) (Nat.lt_of_lt_of_le (by decide) hq) (by rw [zm_292]; exact (Nat.le_of_ble_eq_true rfl)) ⟨zc_292, by decide⟩ zis_8_106 (ok_lm_worthOf ⟨v79, e79, ?_⟩)
        refine E_aload_n (pc := 82) (zDk zD_297_ok 47 rfl) rfl ?_
        refine E_iload (pc := 83) (zDk zD_297_ok 48 rfl) rfl ?_
        obtain ⟨v85, e85, h⟩ := zS_bind h
        refine E_virI (pc := 85) (c := 292) (r := 106) (as := [.inl y5]) (rest := [.inl v79, .inl (w32 (v56 * v68)), .inl y4]) (zDk zD_297_ok 49 rfl) zc_297 (by decide +kernel) zk_292 ⟨(Nat.le_of_ble_eq_true rfl), rfl, rfl⟩ (Nat.le_of_ble_eq_true rfl) (zr_292 _) (Nat.lt_of_lt_of_le (by decide) hq) (by rw [zm_292]; exact (Nat.le_of_ble_eq_true rfl)) ⟨zc_292, by decide⟩ zis_8_106 (ok_lm_worthOf ⟨v85, e85, ?_⟩)
        refine W_isub (pc := 88) (zDk zD_297_ok 50 rfl) ?_
        refine W_imul (pc := 89) (zDk zD_297_ok 51 rfl) ?_
        refine W_iadd (pc := 90) (zDk zD_297_ok 52 rfl) ?_
        refine W_istore (pc := 91) (L' := [some (.inr (.inr 106)), some (.inl x1), some (.inl x2), some (.inl y3), some (.inl (w32 (y4 + (w32 ((w32 (v56 * v68)) * (w32 (v79 - v85))))))), some (.inl y5)]) (zDk zD_297_ok 53 rfl) zm_297 (by decide) rfl ?_
        refine W_iinc (pc := 93) (L' := [some (.inr (.inr 106)), some (.inl x1), some (.inl x2), some (.inl y3), some (.inl (w32 (y4 + (w32 ((w32 (v56 * v68)) * (w32 (v79 - v85))))))), some (.inl (w32 (y5 + 1)))]) (zDk zD_297_ok 54 rfl) rfl zm_297 (by decide) rfl ?_
        refine E_goto (pc := 96) (t := 32) (zDk zD_297_ok 55 rfl) rfl ?_
        exact (ih) y3 (w32 (y4 + (w32 ((w32 (v56 * v68)) * (w32 (v79 - v85)))))) (w32 (y5 + 1)) h
def lm_share (x1 : Int) (x2 : Int) (M : Nat → Nat → Int) : Option Int :=
    ((lm_isName x1 M).bind (fun v2 =>
    (if v2 = 0 then
    (some (-2 : Int))
    else
    ((lm_in x2 (0 : Int) (1 : Int) M).bind (fun v12 =>
    (if v12 = 0 then
    (some (-2 : Int))
    else
    ((lm_names M).bind (fun v22 =>
    (lm_share_c32 x1 x2 M zN v22 (0 : Int) (0 : Int))))))))))
set_option maxRecDepth 100000 in
theorem ok_lm_share {sc : zSc} {x1 : Int} {x2 : Int} {M : Nat → Nat → Int} {P : Int → (Nat → Nat → Int) → Prop} (h : zS (lm_share x1 x2 M) (fun x => P x M)) : zCi sc 297 [.inr (.inr 106), .inl x1, .inl x2] M P := by
  have ea : zarg (zml 297) [.inr (.inr 106), .inl x1, .inl x2] = [some (.inr (.inr 106)), some (.inl x1), some (.inl x2), none, none, none] := by rw [zm_297]; rfl
  unfold zCi zCw
  rw [ea, zr_297]
  have hq : 3 ≤ 3 := Nat.le_refl _
  unfold lm_share at h
  have h := zS_mono h (fun x hx => (⟨x, rfl, hx⟩ : ∃ y, (some (.inl x) : Option zV) = some (.inl y) ∧ P y M))
  skip
  refine E_aload_n (pc := 0) (zDk zD_297_ok 0 rfl) rfl ?_
  refine E_iload_n (pc := 1) (zDk zD_297_ok 1 rfl) rfl ?_
  obtain ⟨v2, e2, h⟩ := zS_bind h
  refine E_virI (pc := 2) (c := 186) (r := 106) (as := [.inl x1]) (rest := []) (zDk zD_297_ok 2 rfl) zc_297 (by decide +kernel) zk_186 ⟨(Nat.le_of_ble_eq_true rfl), rfl, rfl⟩ (Nat.le_of_ble_eq_true rfl) (zr_186 _) (Nat.lt_of_lt_of_le (by decide) hq) (by rw [zm_186]; exact (Nat.le_of_ble_eq_true rfl)) ⟨zc_186, by decide⟩ zis_8_106 (ok_lm_isName ⟨v2, e2, ?_⟩)
  refine E_if (pc := 5) (t := 18) (zDk zD_297_ok 3 rfl) rfl (fun hz => ?_) (fun hz => ?_)
  · have h := zS_t h (T_eq hz)
    refine E_bipush (pc := 18) (zDk zD_297_ok 10 rfl) (by decide +kernel) ?_
    have h := zS_some h
    exact E_ireturn (pc := 20) (zDk zD_297_ok 11 rfl) zt_297 h
  · have h := zS_f h (F_eq hz)
    refine E_iload_n (pc := 8) (zDk zD_297_ok 4 rfl) rfl ?_
    refine E_i2l (pc := 9) (zDk zD_297_ok 5 rfl) ?_
    refine E_lconst (pc := 10) (v := 0) (zDk zD_297_ok 6 rfl) (by decide +kernel) ?_
    refine E_lconst (pc := 11) (v := 1) (zDk zD_297_ok 7 rfl) (by decide +kernel) ?_
    obtain ⟨v12, e12, h⟩ := zS_bind h
    refine E_staI (pc := 12) (c := 176) (as := [.inr (.inl x2), .inr (.inl (0 : Int)), .inr (.inl (1 : Int))]) (rest := []) (zDk zD_297_ok 8 rfl) zc_297 (by decide +kernel) (by decide +kernel) zk_176 ⟨(Nat.le_of_ble_eq_true rfl), rfl, rfl⟩ (Nat.le_of_ble_eq_true rfl) (zr_176 _) (Nat.lt_of_lt_of_le (by decide) hq) (by rw [zm_176]; exact (Nat.le_of_ble_eq_true rfl)) (ok_lm_in ⟨v12, e12, ?_⟩)
    refine E_if (pc := 15) (t := 21) (zDk zD_297_ok 9 rfl) rfl (fun hz => ?_) (fun hz => ?_)
    · have h := zS_f h (T_ne hz)
      refine E_aload_n (pc := 21) (zDk zD_297_ok 12 rfl) rfl ?_
      obtain ⟨v22, e22, h⟩ := zS_bind h
      refine E_virI (pc := 22) (c := 189) (r := 106) (as := []) (rest := []) (zDk zD_297_ok 13 rfl) zc_297 (by decide +kernel) zk_189 ⟨(Nat.le_of_ble_eq_true rfl), rfl, rfl⟩ (Nat.le_of_ble_eq_true rfl) (zr_189 _) (Nat.lt_of_lt_of_le (by decide) hq) (by rw [zm_189]; exact (Nat.le_of_ble_eq_true rfl)) ⟨zc_189, by decide⟩ zis_8_106 (ok_lm_names ⟨v22, e22, ?_⟩)
      refine W_istore_n (pc := 25) (L' := [some (.inr (.inr 106)), some (.inl x1), some (.inl x2), some (.inl v22), none, none]) (zDk zD_297_ok 14 rfl) zm_297 (by decide) rfl ?_
      refine E_iconst (pc := 26) (zDk zD_297_ok 15 rfl) (by decide +kernel) ?_
      refine W_istore (pc := 27) (L' := [some (.inr (.inr 106)), some (.inl x1), some (.inl x2), some (.inl v22), some (.inl (0 : Int)), none]) (zDk zD_297_ok 16 rfl) zm_297 (by decide) rfl ?_
      refine E_iconst (pc := 29) (zDk zD_297_ok 17 rfl) (by decide +kernel) ?_
      refine W_istore (pc := 30) (L' := [some (.inr (.inr 106)), some (.inl x1), some (.inl x2), some (.inl v22), some (.inl (0 : Int)), some (.inl (0 : Int))]) (zDk zD_297_ok 18 rfl) zm_297 (by decide) rfl ?_
      exact ok_lm_share_c32 hq x1 x2 M zN v22 (0 : Int) (0 : Int) h
    · have h := zS_t h (F_ne hz)
      refine E_bipush (pc := 18) (zDk zD_297_ok 10 rfl) (by decide +kernel) ?_
      have h := zS_some h
      exact E_ireturn (pc := 20) (zDk zD_297_ok 11 rfl) zt_297 h
def zD_323 : List (Nat × Instr × Nat) := [(0, .aload_n (0), 1), (1, .invokevirtual (492), 3), (4, .ifCond .eq (12), 3), (7, .aload_n (0), 1), (8, .getfield (9), 3), (11, .iload_n (1), 1), (12, .invokestatic (495), 3), (15, .ireturn, 1), (16, .aload_n (0), 1), (17, .getfield (9), 3), (20, .iload_n (1), 1), (21, .invokestatic (498), 3), (24, .ireturn, 1)]
set_option maxRecDepth 100000 in
theorem zD_323_ok : zDo 323 zD_323 = true := by decide +kernel
theorem zc_323 : zcls 323 = 11 := by decide +kernel
theorem zm_323 : zml 323 = 2 := by decide +kernel
theorem zt_323 : zrt 323 = (some (.char)) := by decide +kernel
theorem zk_323 : zkd 323 = 1 ∧ znp 323 + 1 = 2 := by decide +kernel
theorem zr_323 (as : List zV) : zrk 323 as = 3 := by unfold zrk; rw [if_neg (by decide)]; decide +kernel
def lS_charAt (w0 : Nat) (x1 : Int) (M : Nat → Nat → Int) : Option Int :=
    (if 5003 ≤ w0 ∧ w0 < 5033 then
    ((lS_isLatin1 w0 M).bind (fun v1 =>
    (if v1 = 0 then
    none
    else
    ((lL_charAt (w0 + 37) x1 M).bind (fun v12 =>
    (if 0 ≤ v12 ∧ v12 < 65536 then some v12 else none))))))
    else none)
set_option maxRecDepth 100000 in
theorem ok_lS_charAt {sc : zSc} {w0 : Nat} {x1 : Int} {M : Nat → Nat → Int} {P : Int → (Nat → Nat → Int) → Prop} (h : zS (lS_charAt w0 x1 M) (fun x => P x M)) : zCi sc 323 [.inr (.inr w0), .inl x1] M P := by
  have ea : zarg (zml 323) [.inr (.inr w0), .inl x1] = [some (.inr (.inr w0)), some (.inl x1)] := by rw [zm_323]; rfl
  unfold zCi zCw
  rw [ea, zr_323]
  have hq : 3 ≤ 3 := Nat.le_refl _
  unfold lS_charAt at h
  have h := zS_mono h (fun x hx => (⟨x, rfl, hx⟩ : ∃ y, (some (.inl x) : Option zV) = some (.inl y) ∧ P y M))
  obtain ⟨hw0, h⟩ := zS_c h
  skip
  refine E_aload_n (pc := 0) (zDk zD_323_ok 0 rfl) rfl ?_
  obtain ⟨v1, e1, h⟩ := zS_bind h
  refine E_strI (pc := 1) (c := 325) (r := w0) (as := []) (rest := []) (zDk zD_323_ok 1 rfl) zc_323 (by decide +kernel) zk_325 ⟨(Nat.le_of_ble_eq_true rfl), rfl, rfl⟩ (Nat.le_of_ble_eq_true rfl) (zr_325 _) (Nat.lt_of_lt_of_le (by decide) hq) (by rw [zm_325]; exact (Nat.le_of_ble_eq_true rfl)) zc_325 hw0 (ok_lS_isLatin1 ⟨v1, e1, ?_⟩)
  refine E_if (pc := 4) (t := 16) (zDk zD_323_ok 2 rfl) rfl (fun hz => ?_) (fun hz => ?_)
  · have h := zS_t h (T_eq hz)
    refine E_aload_n (pc := 16) (zDk zD_323_ok 8 rfl) rfl ?_
    refine E_getS (pc := 17) (v := .inr (.inr (w0 + 37))) (zDk zD_323_ok 9 rfl) zc_323 (by decide +kernel) (w := 0) (by decide +kernel) rfl hw0 ?_
    refine E_iload_n (pc := 20) (zDk zD_323_ok 10 rfl) rfl ?_
    exact (zS_none h).elim
  · have h := zS_f h (F_eq hz)
    refine E_aload_n (pc := 7) (zDk zD_323_ok 3 rfl) rfl ?_
    refine E_getS (pc := 8) (v := .inr (.inr (w0 + 37))) (zDk zD_323_ok 4 rfl) zc_323 (by decide +kernel) (w := 0) (by decide +kernel) rfl hw0 ?_
    refine E_iload_n (pc := 11) (zDk zD_323_ok 5 rfl) rfl ?_
    obtain ⟨v12, e12, h⟩ := zS_bind h
    refine E_staI (pc := 12) (c := 327) (as := [.inr (.inr (w0 + 37)), .inl x1]) (rest := []) (zDk zD_323_ok 6 rfl) zc_323 (by decide +kernel) (by decide +kernel) zk_327 ⟨(Nat.le_of_ble_eq_true rfl), rfl, rfl⟩ (Nat.le_of_ble_eq_true rfl) (zr_327 _) (Nat.lt_of_lt_of_le (by decide) hq) (by rw [zm_327]; exact (Nat.le_of_ble_eq_true rfl)) (ok_lL_charAt ⟨v12, e12, ?_⟩)
    obtain ⟨hx, h⟩ := zS_c h
    have h := zS_some h
    exact E_ireturnC (pc := 15) (zDk zD_323_ok 7 rfl) zt_323 hx h
def zD_55 : List (Nat × Instr × Nat) := [(0, .aload_n (0), 1), (1, .getfield (27), 3), (4, .ifCond .ne (27), 3), (7, .aload_n (0), 1), (8, .getfield (36), 3), (11, .iconst (1), 1), (12, .if_icmp .ne (19), 3), (15, .aload_n (0), 1), (16, .getfield (30), 3), (19, .aload_n (0), 1), (20, .getfield (159), 3), (23, .isub, 1), (24, .aload_n (1), 1), (25, .invokevirtual (165), 3), (28, .if_icmp .eq (5), 3), (31, .iconst (0), 1), (32, .ireturn, 1), (33, .iconst (0), 1), (34, .istore_n (2), 1), (35, .iload_n (2), 1), (36, .aload_n (1), 1), (37, .invokevirtual (165), 3), (40, .if_icmp .ge (30), 3), (43, .aload_n (0), 1), (44, .getfield (11), 3), (47, .aload_n (0), 1), (48, .getfield (159), 3), (51, .iload_n (2), 1), (52, .iadd, 1), (53, .iaload, 1), (54, .aload_n (1), 1), (55, .iload_n (2), 1), (56, .invokevirtual (171), 3), (59, .if_icmp .eq (5), 3), (62, .iconst (0), 1), (63, .ireturn, 1), (64, .iinc (2) (1), 3), (67, .goto (-32), 3), (70, .iconst (1), 1), (71, .ireturn, 1)]
set_option maxRecDepth 100000 in
theorem zD_55_ok : zDo 55 zD_55 = true := by decide +kernel
theorem zc_55 : zcls 55 = 4 := by decide +kernel
theorem zm_55 : zml 55 = 3 := by decide +kernel
theorem zt_55 : zrt 55 = (some (.boolean)) := by decide +kernel
theorem zk_55 : zkd 55 = 1 ∧ znp 55 + 1 = 2 := by decide +kernel
theorem zr_55 (as : List zV) : zrk 55 as = 4 := by unfold zrk; rw [if_neg (by decide)]; decide +kernel
def lR_isWord_c35 (w1 : Nat) (M : Nat → Nat → Int) : Nat → Int → Option Int
  | 0, _ => none
  | n + 1, y2 =>
    ((lS_length w1 M).bind (fun v37 =>
    (if y2 < v37 then
    ((rdI 2 (w32 ((M 1 5) + y2)) M).bind (fun v53 =>
    ((lS_charAt w1 y2 M).bind (fun v56 =>
    (if v53 = v56 then
    ((lR_isWord_c35 w1 M n) (w32 (y2 + 1)))
    else
    (some (0 : Int)))))))
    else
    (some (1 : Int)))))
set_option maxRecDepth 100000 in
theorem ok_lR_isWord_c35 {sc : zSc} {q : Nat} {P : Option zV → (Nat → Nat → Int) → Prop} (hq : 4 ≤ q) (w1 : Nat) (hw1 : 5003 ≤ w1 ∧ w1 < 5033) (M : Nat → Nat → Int) : ∀ (n : Nat) (y2 : Int), zS (lR_isWord_c35 w1 M n y2) (fun x => P (some (.inl x)) M) → zWp sc q 55 35 [some (.inr (.inr 1)), some (.inr (.inr w1)), some (.inl y2)] [] M P := by
  intro n
  induction n with
  | zero => intro y2 h; exact (zS_none h).elim
  | succ n ih =>
    intro y2 h
    rw [lR_isWord_c35] at h
    refine E_iload_n (pc := 35) (zDk zD_55_ok 19 rfl) rfl ?_
    refine E_aload_n (pc := 36) (zDk zD_55_ok 20 rfl) rfl ?_
    obtain ⟨v37, e37, h⟩ := zS_bind h
    refine E_strI (pc := 37) (c := 322) (r := w1) (as := []) (rest := [.inl y2]) (zDk zD_55_ok 21 rfl) zc_55 (by decide +kernel) zk_322 ⟨(Nat.le_of_ble_eq_true rfl), rfl, rfl⟩ (Nat.le_of_ble_eq_true rfl) (zr_322 _) (Nat.lt_of_lt_of_le (by decide) hq) (by rw [zm_322]; exact (Nat.le_of_ble_eq_true rfl)) zc_322 hw1 (ok_lS_length ⟨v37, e37, ?_⟩)
    refine E_icmp (pc := 40) (t := 70) (zDk zD_55_ok 22 rfl) rfl (fun hz => ?_) (fun hz => ?_)
    · have h := zS_f h (Int.not_lt.mpr (T_ge hz))
      refine E_iconst (pc := 70) (zDk zD_55_ok 38 rfl) (by decide +kernel) ?_
      have h := zS_some h
      exact E_ireturnZ (pc := 71) (zDk zD_55_ok 39 rfl) zt_55 (by decide) h
    · have h := zS_t h (F_ge hz)
      refine E_aload_n (pc := 43) (zDk zD_55_ok 23 rfl) rfl ?_
      refine E_getR (pc := 44) (ci := 4) (f := 0) (r := 2) (zDk zD_55_ok 24 rfl) zc_55 (by decide +kernel) (by decide) zis_4_1 (by decide +kernel) (by decide) ?_
      refine E_aload_n (pc := 47) (zDk zD_55_ok 25 rfl) rfl ?_
      refine E_getI (pc := 48) (ci := 4) (f := 5) (zDk zD_55_ok 26 rfl) zc_55 (by decide +kernel) (by decide) zis_4_1 ?_
      refine E_iload_n (pc := 51) (zDk zD_55_ok 27 rfl) rfl ?_
      refine W_iadd (pc := 52) (zDk zD_55_ok 28 rfl) ?_
      obtain ⟨v53, e53, h⟩ := zS_bind h
      refine E_iaload (pc := 53) (zDk zD_55_ok 29 rfl) e53 ?_
      refine E_aload_n (pc := 54) (zDk zD_55_ok 30 rfl) rfl ?_
      refine E_iload_n (pc := 55) (zDk zD_55_ok 31 rfl) rfl ?_
      obtain ⟨v56, e56, h⟩ := zS_bind h
      refine E_strI (pc := 56) (c := 323) (r := w1) (as := [.inl y2]) (rest := [.inl v53]) (zDk zD_55_ok 32 rfl) zc_55 (by decide +kernel) zk_323 ⟨(Nat.le_of_ble_eq_true rfl), rfl, rfl⟩ (Nat.le_of_ble_eq_true rfl) (zr_323 _) (Nat.lt_of_lt_of_le (by decide) hq) (by rw [zm_323]; exact (Nat.le_of_ble_eq_true rfl)) zc_323 hw1 (ok_lS_charAt ⟨v56, e56, ?_⟩)
      refine E_icmp (pc := 59) (t := 64) (zDk zD_55_ok 33 rfl) rfl (fun hz => ?_) (fun hz => ?_)
      · have h := zS_t h (T_eq hz)
        refine W_iinc (pc := 64) (L' := [some (.inr (.inr 1)), some (.inr (.inr w1)), some (.inl (w32 (y2 + 1)))]) (zDk zD_55_ok 36 rfl) rfl zm_55 (by decide) rfl ?_
        refine E_goto (pc := 67) (t := 35) (zDk zD_55_ok 37 rfl) rfl ?_
        exact (ih) (w32 (y2 + 1)) h
      · have h := zS_f h (F_eq hz)
        refine E_iconst (pc := 62) (zDk zD_55_ok 34 rfl) (by decide +kernel) ?_
        have h := zS_some h
        exact E_ireturnZ (pc := 63) (zDk zD_55_ok 35 rfl) zt_55 (by decide) h
def lR_isWord (w1 : Nat) (M : Nat → Nat → Int) : Option Int :=
    (if 5003 ≤ w1 ∧ w1 < 5033 then
    (if (M 1 2) = 0 then
    (if (M 1 4) = (1 : Int) then
    ((lS_length w1 M).bind (fun v25 =>
    (if (w32 ((M 1 6) - (M 1 5))) = v25 then
    (lR_isWord_c35 w1 M zN (0 : Int))
    else
    (some (0 : Int)))))
    else
    (some (0 : Int)))
    else
    (some (0 : Int)))
    else none)
set_option maxRecDepth 100000 in
theorem ok_lR_isWord {sc : zSc} {w1 : Nat} {M : Nat → Nat → Int} {P : Int → (Nat → Nat → Int) → Prop} (h : zS (lR_isWord w1 M) (fun x => P x M)) : zCi sc 55 [.inr (.inr 1), .inr (.inr w1)] M P := by
  have ea : zarg (zml 55) [.inr (.inr 1), .inr (.inr w1)] = [some (.inr (.inr 1)), some (.inr (.inr w1)), none] := by rw [zm_55]; rfl
  unfold zCi zCw
  rw [ea, zr_55]
  have hq : 4 ≤ 4 := Nat.le_refl _
  unfold lR_isWord at h
  have h := zS_mono h (fun x hx => (⟨x, rfl, hx⟩ : ∃ y, (some (.inl x) : Option zV) = some (.inl y) ∧ P y M))
  obtain ⟨hw1, h⟩ := zS_c h
  skip
  refine E_aload_n (pc := 0) (zDk zD_55_ok 0 rfl) rfl ?_
  refine E_getI (pc := 1) (ci := 4) (f := 2) (zDk zD_55_ok 1 rfl) zc_55 (by decide +kernel) (by decide) zis_4_1 ?_
  refine E_if (pc := 4) (t := 31) (zDk zD_55_ok 2 rfl) rfl (fun hz => ?_) (fun hz => ?_)
  · have h := zS_f h (T_ne hz)
    refine E_iconst (pc := 31) (zDk zD_55_ok 15 rfl) (by decide +kernel) ?_
    have h := zS_some h
    exact E_ireturnZ (pc := 32) (zDk zD_55_ok 16 rfl) zt_55 (by decide) h
  · have h := zS_t h (F_ne hz)
    refine E_aload_n (pc := 7) (zDk zD_55_ok 3 rfl) rfl ?_
    refine E_getI (pc := 8) (ci := 4) (f := 4) (zDk zD_55_ok 4 rfl) zc_55 (by decide +kernel) (by decide) zis_4_1 ?_
    refine E_iconst (pc := 11) (zDk zD_55_ok 5 rfl) (by decide +kernel) ?_
    refine E_icmp (pc := 12) (t := 31) (zDk zD_55_ok 6 rfl) rfl (fun hz => ?_) (fun hz => ?_)
    · have h := zS_f h (T_ne hz)
      refine E_iconst (pc := 31) (zDk zD_55_ok 15 rfl) (by decide +kernel) ?_
      have h := zS_some h
      exact E_ireturnZ (pc := 32) (zDk zD_55_ok 16 rfl) zt_55 (by decide) h
    · have h := zS_t h (F_ne hz)
      refine E_aload_n (pc := 15) (zDk zD_55_ok 7 rfl) rfl ?_
      refine E_getI (pc := 16) (ci := 4) (f := 6) (zDk zD_55_ok 8 rfl) zc_55 (by decide +kernel) (by decide) zis_4_1 ?_
      refine E_aload_n (pc := 19) (zDk zD_55_ok 9 rfl) rfl ?_
      refine E_getI (pc := 20) (ci := 4) (f := 5) (zDk zD_55_ok 10 rfl) zc_55 (by decide +kernel) (by decide) zis_4_1 ?_
      refine W_isub (pc := 23) (zDk zD_55_ok 11 rfl) ?_
      refine E_aload_n (pc := 24) (zDk zD_55_ok 12 rfl) rfl ?_
      obtain ⟨v25, e25, h⟩ := zS_bind h
      refine E_strI (pc := 25) (c := 322) (r := w1) (as := []) (rest := [.inl (w32 ((M 1 6) - (M 1 5)))]) (zDk zD_55_ok 13 rfl) zc_55 (by decide +kernel) zk_322 ⟨(Nat.le_of_ble_eq_true rfl), rfl, rfl⟩ (Nat.le_of_ble_eq_true rfl) (zr_322 _) (Nat.lt_of_lt_of_le (by decide) hq) (by rw [zm_322]; exact (Nat.le_of_ble_eq_true rfl)) zc_322 hw1 (ok_lS_length ⟨v25, e25, ?_⟩)
      refine E_icmp (pc := 28) (t := 33) (zDk zD_55_ok 14 rfl) rfl (fun hz => ?_) (fun hz => ?_)
      · have h := zS_t h (T_eq hz)
        refine E_iconst (pc := 33) (zDk zD_55_ok 17 rfl) (by decide +kernel) ?_
        refine W_istore_n (pc := 34) (L' := [some (.inr (.inr 1)), some (.inr (.inr w1)), some (.inl (0 : Int))]) (zDk zD_55_ok 18 rfl) zm_55 (by decide) rfl ?_
        exact ok_lR_isWord_c35 hq w1 hw1 M zN (0 : Int) h
      · have h := zS_f h (F_eq hz)
        refine E_iconst (pc := 31) (zDk zD_55_ok 15 rfl) (by decide +kernel) ?_
        have h := zS_some h
        exact E_ireturnZ (pc := 32) (zDk zD_55_ok 16 rfl) zt_55 (by decide) h
def zD_110 : List (Nat × Instr × Nat) := [(0, .aload_n (0), 1), (1, .getfield (19), 3), (4, .iload_n (1), 1), (5, .invokevirtual (112), 3), (8, .ifCond .eq (14), 3), (11, .aload_n (0), 1), (12, .getfield (19), 3), (15, .iload_n (2), 1), (16, .invokevirtual (112), 3), (19, .ifCond .ne (6), 3), (22, .bipush (-2), 2), (24, .ireturn, 1), (25, .aload_n (0), 1), (26, .iconst (1), 1), (27, .iload_n (1), 1), (28, .ishl, 1), (29, .iconst (1), 1), (30, .iload_n (2), 1), (31, .ishl, 1), (32, .ior, 1), (33, .invokevirtual (226), 3), (36, .ireturn, 1)]
set_option maxRecDepth 100000 in
theorem zD_110_ok : zDo 110 zD_110 = true := by decide +kernel
theorem zc_110 : zcls 110 = 7 := by decide +kernel
theorem zm_110 : zml 110 = 3 := by decide +kernel
theorem zt_110 : zrt 110 = (some (.int)) := by decide +kernel
theorem zk_110 : zkd 110 = 1 ∧ znp 110 + 1 = 3 := by decide +kernel
theorem zr_110 (as : List zV) : zrk 110 as = 4 := by unfold zrk; rw [if_neg (by decide)]; decide +kernel
def lX_soon (x1 : Int) (x2 : Int) (M : Nat → Nat → Int) : Option Int :=
    ((lT_hasName 3 x1 M).bind (fun v5 =>
    (if v5 = 0 then
    (some (-2 : Int))
    else
    ((lT_hasName 3 x2 M).bind (fun v16 =>
    (if v16 = 0 then
    (some (-2 : Int))
    else
    ((lX_fewestToGather (zor (zshl (1 : Int) x1) (zshl (1 : Int) x2)) M).bind (fun v33 =>
    (some v33)))))))))
set_option maxRecDepth 100000 in
theorem ok_lX_soon {sc : zSc} {x1 : Int} {x2 : Int} {M : Nat → Nat → Int} {P : Int → (Nat → Nat → Int) → Prop} (h : zS (lX_soon x1 x2 M) (fun x => P x M)) : zCi sc 110 [.inr (.inr 0), .inl x1, .inl x2] M P := by
  have ea : zarg (zml 110) [.inr (.inr 0), .inl x1, .inl x2] = [some (.inr (.inr 0)), some (.inl x1), some (.inl x2)] := by rw [zm_110]; rfl
  unfold zCi zCw
  rw [ea, zr_110]
  have hq : 4 ≤ 4 := Nat.le_refl _
  unfold lX_soon at h
  have h := zS_mono h (fun x hx => (⟨x, rfl, hx⟩ : ∃ y, (some (.inl x) : Option zV) = some (.inl y) ∧ P y M))
  skip
  refine E_aload_n (pc := 0) (zDk zD_110_ok 0 rfl) rfl ?_
  refine E_getR (pc := 1) (ci := 7) (f := 1) (r := 3) (zDk zD_110_ok 1 rfl) zc_110 (by decide +kernel) (by decide) zis_7_0 (by decide +kernel) (by decide) ?_
  refine E_iload_n (pc := 4) (zDk zD_110_ok 2 rfl) rfl ?_
  obtain ⟨v5, e5, h⟩ := zS_bind h
  refine E_virI (pc := 5) (c := 73) (r := 3) (as := [.inl x1]) (rest := []) (zDk zD_110_ok 3 rfl) zc_110 (by decide +kernel) zk_73 ⟨(Nat.le_of_ble_eq_true rfl), rfl, rfl⟩ (Nat.le_of_ble_eq_true rfl) (zr_73 _) (Nat.lt_of_lt_of_le (by decide) hq) (by rw [zm_73]; exact (Nat.le_of_ble_eq_true rfl)) ⟨zc_73, by decide⟩ zis_6_3 (ok_lT_hasName ⟨v5, e5, ?_⟩)
  refine E_if (pc := 8) (t := 22) (zDk zD_110_ok 4 rfl) rfl (fun hz => ?_) (fun hz => ?_)
  · have h := zS_t h (T_eq hz)
    refine E_bipush (pc := 22) (zDk zD_110_ok 10 rfl) (by decide +kernel) ?_
    have h := zS_some h
    exact E_ireturn (pc := 24) (zDk zD_110_ok 11 rfl) zt_110 h
  · have h := zS_f h (F_eq hz)
    refine E_aload_n (pc := 11) (zDk zD_110_ok 5 rfl) rfl ?_
    refine E_getR (pc := 12) (ci := 7) (f := 1) (r := 3) (zDk zD_110_ok 6 rfl) zc_110 (by decide +kernel) (by decide) zis_7_0 (by decide +kernel) (by decide) ?_
    refine E_iload_n (pc := 15) (zDk zD_110_ok 7 rfl) rfl ?_
    obtain ⟨v16, e16, h⟩ := zS_bind h
    refine E_virI (pc := 16) (c := 73) (r := 3) (as := [.inl x2]) (rest := []) (zDk zD_110_ok 8 rfl) zc_110 (by decide +kernel) zk_73 ⟨(Nat.le_of_ble_eq_true rfl), rfl, rfl⟩ (Nat.le_of_ble_eq_true rfl) (zr_73 _) (Nat.lt_of_lt_of_le (by decide) hq) (by rw [zm_73]; exact (Nat.le_of_ble_eq_true rfl)) ⟨zc_73, by decide⟩ zis_6_3 (ok_lT_hasName ⟨v16, e16, ?_⟩)
    refine E_if (pc := 19) (t := 25) (zDk zD_110_ok 9 rfl) rfl (fun hz => ?_) (fun hz => ?_)
    · have h := zS_f h (T_ne hz)
      refine E_aload_n (pc := 25) (zDk zD_110_ok 12 rfl) rfl ?_
      refine E_iconst (pc := 26) (zDk zD_110_ok 13 rfl) (by decide +kernel) ?_
      refine E_iload_n (pc := 27) (zDk zD_110_ok 14 rfl) rfl ?_
      refine E_ishl (pc := 28) (zDk zD_110_ok 15 rfl) ?_
      refine E_iconst (pc := 29) (zDk zD_110_ok 16 rfl) (by decide +kernel) ?_
      refine E_iload_n (pc := 30) (zDk zD_110_ok 17 rfl) rfl ?_
      refine E_ishl (pc := 31) (zDk zD_110_ok 18 rfl) ?_
      refine E_ior (pc := 32) (zDk zD_110_ok 19 rfl) ?_
      obtain ⟨v33, e33, h⟩ := zS_bind h
      refine E_virI (pc := 33) (c := 148) (r := 0) (as := [.inl (zor (zshl (1 : Int) x1) (zshl (1 : Int) x2))]) (rest := []) (zDk zD_110_ok 20 rfl) zc_110 (by decide +kernel) zk_148 ⟨(Nat.le_of_ble_eq_true rfl), rfl, rfl⟩ (Nat.le_of_ble_eq_true rfl) (zr_148 _) (Nat.lt_of_lt_of_le (by decide) hq) (by rw [zm_148]; exact (Nat.le_of_ble_eq_true rfl)) ⟨zc_148, by decide⟩ zis_7_0 (ok_lX_fewestToGather ⟨v33, e33, ?_⟩)
      have h := zS_some h
      exact E_ireturn (pc := 36) (zDk zD_110_ok 21 rfl) zt_110 h
    · have h := zS_t h (F_ne hz)
      refine E_bipush (pc := 22) (zDk zD_110_ok 10 rfl) (by decide +kernel) ?_
      have h := zS_some h
      exact E_ireturn (pc := 24) (zDk zD_110_ok 11 rfl) zt_110 h
def zD_111 : List (Nat × Instr × Nat) := [(0, .aload_n (0), 1), (1, .getfield (19), 3), (4, .iload_n (1), 1), (5, .invokevirtual (130), 3), (8, .ifCond .eq (19), 3), (11, .aload_n (0), 1), (12, .aload_n (0), 1), (13, .getfield (19), 3), (16, .getfield (133), 3), (19, .iload_n (1), 1), (20, .iaload, 1), (21, .invokevirtual (226), 3), (24, .goto (5), 3), (27, .bipush (-2), 2), (29, .ireturn, 1)]
set_option maxRecDepth 100000 in
theorem zD_111_ok : zDo 111 zD_111 = true := by decide +kernel
theorem zc_111 : zcls 111 = 7 := by decide +kernel
theorem zm_111 : zml 111 = 2 := by decide +kernel
theorem zt_111 : zrt 111 = (some (.int)) := by decide +kernel
theorem zk_111 : zkd 111 = 1 ∧ znp 111 + 1 = 2 := by decide +kernel
theorem zr_111 (as : List zV) : zrk 111 as = 4 := by unfold zrk; rw [if_neg (by decide)]; decide +kernel
def lX_gather (x1 : Int) (M : Nat → Nat → Int) : Option Int :=
    ((lT_hasContract 3 x1 M).bind (fun v5 =>
    (if v5 = 0 then
    (some (-2 : Int))
    else
    ((rdI 12 x1 M).bind (fun v20 =>
    ((lX_fewestToGather v20 M).bind (fun v21 =>
    (some v21))))))))
set_option maxRecDepth 100000 in
theorem ok_lX_gather {sc : zSc} {x1 : Int} {M : Nat → Nat → Int} {P : Int → (Nat → Nat → Int) → Prop} (h : zS (lX_gather x1 M) (fun x => P x M)) : zCi sc 111 [.inr (.inr 0), .inl x1] M P := by
  have ea : zarg (zml 111) [.inr (.inr 0), .inl x1] = [some (.inr (.inr 0)), some (.inl x1)] := by rw [zm_111]; rfl
  unfold zCi zCw
  rw [ea, zr_111]
  have hq : 4 ≤ 4 := Nat.le_refl _
  unfold lX_gather at h
  have h := zS_mono h (fun x hx => (⟨x, rfl, hx⟩ : ∃ y, (some (.inl x) : Option zV) = some (.inl y) ∧ P y M))
  skip
  refine E_aload_n (pc := 0) (zDk zD_111_ok 0 rfl) rfl ?_
  refine E_getR (pc := 1) (ci := 7) (f := 1) (r := 3) (zDk zD_111_ok 1 rfl) zc_111 (by decide +kernel) (by decide) zis_7_0 (by decide +kernel) (by decide) ?_
  refine E_iload_n (pc := 4) (zDk zD_111_ok 2 rfl) rfl ?_
  obtain ⟨v5, e5, h⟩ := zS_bind h
  refine E_virI (pc := 5) (c := 74) (r := 3) (as := [.inl x1]) (rest := []) (zDk zD_111_ok 3 rfl) zc_111 (by decide +kernel) zk_74 ⟨(Nat.le_of_ble_eq_true rfl), rfl, rfl⟩ (Nat.le_of_ble_eq_true rfl) (zr_74 _) (Nat.lt_of_lt_of_le (by decide) hq) (by rw [zm_74]; exact (Nat.le_of_ble_eq_true rfl)) ⟨zc_74, by decide⟩ zis_6_3 (ok_lT_hasContract ⟨v5, e5, ?_⟩)
  refine E_if (pc := 8) (t := 27) (zDk zD_111_ok 4 rfl) rfl (fun hz => ?_) (fun hz => ?_)
  · have h := zS_t h (T_eq hz)
    refine E_bipush (pc := 27) (zDk zD_111_ok 13 rfl) (by decide +kernel) ?_
    have h := zS_some h
    exact E_ireturn (pc := 29) (zDk zD_111_ok 14 rfl) zt_111 h
  · have h := zS_f h (F_eq hz)
    refine E_aload_n (pc := 11) (zDk zD_111_ok 5 rfl) rfl ?_
    refine E_aload_n (pc := 12) (zDk zD_111_ok 6 rfl) rfl ?_
    refine E_getR (pc := 13) (ci := 7) (f := 1) (r := 3) (zDk zD_111_ok 7 rfl) zc_111 (by decide +kernel) (by decide) zis_7_0 (by decide +kernel) (by decide) ?_
    refine E_getR (pc := 16) (ci := 6) (f := 17) (r := 12) (zDk zD_111_ok 8 rfl) zc_111 (by decide +kernel) (by decide) zis_6_3 (by decide +kernel) (by decide) ?_
    refine E_iload_n (pc := 19) (zDk zD_111_ok 9 rfl) rfl ?_
    obtain ⟨v20, e20, h⟩ := zS_bind h
    refine E_iaload (pc := 20) (zDk zD_111_ok 10 rfl) e20 ?_
    obtain ⟨v21, e21, h⟩ := zS_bind h
    refine E_virI (pc := 21) (c := 148) (r := 0) (as := [.inl v20]) (rest := []) (zDk zD_111_ok 11 rfl) zc_111 (by decide +kernel) zk_148 ⟨(Nat.le_of_ble_eq_true rfl), rfl, rfl⟩ (Nat.le_of_ble_eq_true rfl) (zr_148 _) (Nat.lt_of_lt_of_le (by decide) hq) (by rw [zm_148]; exact (Nat.le_of_ble_eq_true rfl)) ⟨zc_148, by decide⟩ zis_7_0 (ok_lX_fewestToGather ⟨v21, e21, ?_⟩)
    refine E_goto (pc := 24) (t := 29) (zDk zD_111_ok 12 rfl) rfl ?_
    have h := zS_some h
    exact E_ireturn (pc := 29) (zDk zD_111_ok 14 rfl) zt_111 h
def zD_112 : List (Nat × Instr × Nat) := [(0, .aload_n (0), 1), (1, .getfield (19), 3), (4, .iload_n (1), 1), (5, .invokevirtual (130), 3), (8, .ifCond .ne (6), 3), (11, .bipush (-2), 2), (13, .ireturn, 1), (14, .aload_n (0), 1), (15, .getfield (19), 3), (18, .getfield (133), 3), (21, .iload_n (1), 1), (22, .iaload, 1), (23, .istore_n (2), 1), (24, .aload_n (0), 1), (25, .iload_n (2), 1), (26, .invokevirtual (226), 3), (29, .istore_n (3), 1), (30, .iload_n (3), 1), (31, .iconst (-1), 1), (32, .if_icmp .ne (7), 3), (35, .iconst (-1), 1), (36, .goto (12), 3), (39, .aload_n (0), 1), (40, .iload_n (2), 1), (41, .iload_n (3), 1), (42, .invokevirtual (229), 3), (45, .invokestatic (232), 3), (48, .ireturn, 1)]
set_option maxRecDepth 100000 in
theorem zD_112_ok : zDo 112 zD_112 = true := by decide +kernel
theorem zc_112 : zcls 112 = 7 := by decide +kernel
theorem zm_112 : zml 112 = 4 := by decide +kernel
theorem zt_112 : zrt 112 = (some (.int)) := by decide +kernel
theorem zk_112 : zkd 112 = 1 ∧ znp 112 + 1 = 2 := by decide +kernel
theorem zr_112 (as : List zV) : zrk 112 as = 4 := by unfold zrk; rw [if_neg (by decide)]; decide +kernel
def lX_hall (x1 : Int) (M : Nat → Nat → Int) : Option Int :=
    ((lT_hasContract 3 x1 M).bind (fun v5 =>
    (if v5 = 0 then
    (some (-2 : Int))
    else
    ((rdI 12 x1 M).bind (fun v22 =>
    ((lX_fewestToGather v22 M).bind (fun v26 =>
    (if v26 = (-1 : Int) then
    (some (-1 : Int))
    else
    ((lX_cornersForAll v22 v26 M).bind (fun v42 =>
    ((lX_leastOf v42 M).bind (fun v45 =>
    (some v45)))))))))))))
set_option maxRecDepth 100000 in
theorem ok_lX_hall {sc : zSc} {x1 : Int} {M : Nat → Nat → Int} {P : Int → (Nat → Nat → Int) → Prop} (h : zS (lX_hall x1 M) (fun x => P x M)) : zCi sc 112 [.inr (.inr 0), .inl x1] M P := by
  have ea : zarg (zml 112) [.inr (.inr 0), .inl x1] = [some (.inr (.inr 0)), some (.inl x1), none, none] := by rw [zm_112]; rfl
  unfold zCi zCw
  rw [ea, zr_112]
  have hq : 4 ≤ 4 := Nat.le_refl _
  unfold lX_hall at h
  have h := zS_mono h (fun x hx => (⟨x, rfl, hx⟩ : ∃ y, (some (.inl x) : Option zV) = some (.inl y) ∧ P y M))
  skip
  refine E_aload_n (pc := 0) (zDk zD_112_ok 0 rfl) rfl ?_
  refine E_getR (pc := 1) (ci := 7) (f := 1) (r := 3) (zDk zD_112_ok 1 rfl) zc_112 (by decide +kernel) (by decide) zis_7_0 (by decide +kernel) (by decide) ?_
  refine E_iload_n (pc := 4) (zDk zD_112_ok 2 rfl) rfl ?_
  obtain ⟨v5, e5, h⟩ := zS_bind h
  refine E_virI (pc := 5) (c := 74) (r := 3) (as := [.inl x1]) (rest := []) (zDk zD_112_ok 3 rfl) zc_112 (by decide +kernel) zk_74 ⟨(Nat.le_of_ble_eq_true rfl), rfl, rfl⟩ (Nat.le_of_ble_eq_true rfl) (zr_74 _) (Nat.lt_of_lt_of_le (by decide) hq) (by rw [zm_74]; exact (Nat.le_of_ble_eq_true rfl)) ⟨zc_74, by decide⟩ zis_6_3 (ok_lT_hasContract ⟨v5, e5, ?_⟩)
  refine E_if (pc := 8) (t := 14) (zDk zD_112_ok 4 rfl) rfl (fun hz => ?_) (fun hz => ?_)
  · have h := zS_f h (T_ne hz)
    refine E_aload_n (pc := 14) (zDk zD_112_ok 7 rfl) rfl ?_
    refine E_getR (pc := 15) (ci := 7) (f := 1) (r := 3) (zDk zD_112_ok 8 rfl) zc_112 (by decide +kernel) (by decide) zis_7_0 (by decide +kernel) (by decide) ?_
    refine E_getR (pc := 18) (ci := 6) (f := 17) (r := 12) (zDk zD_112_ok 9 rfl) zc_112 (by decide +kernel) (by decide) zis_6_3 (by decide +kernel) (by decide) ?_
    refine E_iload_n (pc := 21) (zDk zD_112_ok 10 rfl) rfl ?_
    obtain ⟨v22, e22, h⟩ := zS_bind h
    refine E_iaload (pc := 22) (zDk zD_112_ok 11 rfl) e22 ?_
    refine W_istore_n (pc := 23) (L' := [some (.inr (.inr 0)), some (.inl x1), some (.inl v22), none]) (zDk zD_112_ok 12 rfl) zm_112 (by decide) rfl ?_
    refine E_aload_n (pc := 24) (zDk zD_112_ok 13 rfl) rfl ?_
    refine E_iload_n (pc := 25) (zDk zD_112_ok 14 rfl) rfl ?_
    obtain ⟨v26, e26, h⟩ := zS_bind h
    refine E_virI (pc := 26) (c := 148) (r := 0) (as := [.inl v22]) (rest := []) (zDk zD_112_ok 15 rfl) zc_112 (by decide +kernel) zk_148 ⟨(Nat.le_of_ble_eq_true rfl), rfl, rfl⟩ (Nat.le_of_ble_eq_true rfl) (zr_148 _) (Nat.lt_of_lt_of_le (by decide) hq) (by rw [zm_148]; exact (Nat.le_of_ble_eq_true rfl)) ⟨zc_148, by decide⟩ zis_7_0 (ok_lX_fewestToGather ⟨v26, e26, ?_⟩)
    refine W_istore_n (pc := 29) (L' := [some (.inr (.inr 0)), some (.inl x1), some (.inl v22), some (.inl v26)]) (zDk zD_112_ok 16 rfl) zm_112 (by decide) rfl ?_
    refine E_iload_n (pc := 30) (zDk zD_112_ok 17 rfl) rfl ?_
    refine E_iconst (pc := 31) (zDk zD_112_ok 18 rfl) (by decide +kernel) ?_
    refine E_icmp (pc := 32) (t := 39) (zDk zD_112_ok 19 rfl) rfl (fun hz => ?_) (fun hz => ?_)
    · have h := zS_f h (T_ne hz)
      refine E_aload_n (pc := 39) (zDk zD_112_ok 22 rfl) rfl ?_
      refine E_iload_n (pc := 40) (zDk zD_112_ok 23 rfl) rfl ?_
      refine E_iload_n (pc := 41) (zDk zD_112_ok 24 rfl) rfl ?_
      obtain ⟨v42, e42, h⟩ := zS_bind h
      refine E_virI (pc := 42) (c := 147) (r := 0) (as := [.inl v22, .inl v26]) (rest := []) (zDk zD_112_ok 25 rfl) zc_112 (by decide +kernel) zk_147 ⟨(Nat.le_of_ble_eq_true rfl), rfl, rfl⟩ (Nat.le_of_ble_eq_true rfl) (zr_147 _) (Nat.lt_of_lt_of_le (by decide) hq) (by rw [zm_147]; exact (Nat.le_of_ble_eq_true rfl)) ⟨zc_147, by decide⟩ zis_7_0 (ok_lX_cornersForAll ⟨v42, e42, ?_⟩)
      obtain ⟨v45, e45, h⟩ := zS_bind h
      refine E_staI (pc := 45) (c := 146) (as := [.inl v42]) (rest := []) (zDk zD_112_ok 26 rfl) zc_112 (by decide +kernel) (by decide +kernel) zk_146 ⟨(Nat.le_of_ble_eq_true rfl), rfl, rfl⟩ (Nat.le_of_ble_eq_true rfl) (zr_146 _) (Nat.lt_of_lt_of_le (by decide) hq) (by rw [zm_146]; exact (Nat.le_of_ble_eq_true rfl)) (ok_lX_leastOf ⟨v45, e45, ?_⟩)
      have h := zS_some h
      exact E_ireturn (pc := 48) (zDk zD_112_ok 27 rfl) zt_112 h
    · have h := zS_t h (F_ne hz)
      refine E_iconst (pc := 35) (zDk zD_112_ok 20 rfl) (by decide +kernel) ?_
      refine E_goto (pc := 36) (t := 48) (zDk zD_112_ok 21 rfl) rfl ?_
      have h := zS_some h
      exact E_ireturn (pc := 48) (zDk zD_112_ok 27 rfl) zt_112 h
  · have h := zS_t h (F_ne hz)
    refine E_bipush (pc := 11) (zDk zD_112_ok 5 rfl) (by decide +kernel) ?_
    have h := zS_some h
    exact E_ireturn (pc := 13) (zDk zD_112_ok 6 rfl) zt_112 h
def zD_113 : List (Nat × Instr × Nat) := [(0, .aload_n (0), 1), (1, .iload_n (1), 1), (2, .iload_n (2), 1), (3, .invokevirtual (235), 3), (6, .istore_n (3), 1), (7, .iload_n (3), 1), (8, .ifCond .ge (7), 3), (11, .iload_n (3), 1), (12, .goto (7), 3), (15, .iload_n (3), 1), (16, .invokestatic (183), 3), (19, .ireturn, 1)]
set_option maxRecDepth 100000 in
theorem zD_113_ok : zDo 113 zD_113 = true := by decide +kernel
theorem zc_113 : zcls 113 = 7 := by decide +kernel
theorem zm_113 : zml 113 = 4 := by decide +kernel
theorem zt_113 : zrt 113 = (some (.int)) := by decide +kernel
theorem zk_113 : zkd 113 = 1 ∧ znp 113 + 1 = 3 := by decide +kernel
theorem zr_113 (as : List zV) : zrk 113 as = 4 := by unfold zrk; rw [if_neg (by decide)]; decide +kernel
def lX_cut (x1 : Int) (x2 : Int) (M : Nat → Nat → Int) : Option (Int × (Nat → Nat → Int)) :=
    ((lX_streetsToCut x1 x2 M).bind (fun r3_ =>
    (if r3_.1 < 0 then
    (some (r3_.1, r3_.2))
    else
    ((lJ_bitCount r3_.1 r3_.2).bind (fun v16 =>
    (some (v16, r3_.2)))))))
set_option maxRecDepth 100000 in
theorem ok_lX_cut {sc : zSc} {x1 : Int} {x2 : Int} {M : Nat → Nat → Int} {P : Int → (Nat → Nat → Int) → Prop} (h : zS (lX_cut x1 x2 M) (fun r => P r.1 r.2)) : zCi sc 113 [.inr (.inr 0), .inl x1, .inl x2] M P := by
  have ea : zarg (zml 113) [.inr (.inr 0), .inl x1, .inl x2] = [some (.inr (.inr 0)), some (.inl x1), some (.inl x2), none] := by rw [zm_113]; rfl
  unfold zCi zCw
  rw [ea, zr_113]
  have hq : 4 ≤ 4 := Nat.le_refl _
  unfold lX_cut at h
  have h := zS_mono h (fun x hx => (⟨x.1, rfl, hx⟩ : ∃ y, (some (.inl x.1) : Option zV) = some (.inl y) ∧ P y x.2))
  skip
  refine E_aload_n (pc := 0) (zDk zD_113_ok 0 rfl) rfl ?_
  refine E_iload_n (pc := 1) (zDk zD_113_ok 1 rfl) rfl ?_
  refine E_iload_n (pc := 2) (zDk zD_113_ok 2 rfl) rfl ?_
  obtain ⟨r3_, e3, h⟩ := zS_bind h
  refine E_virI (pc := 3) (c := 150) (r := 0) (as := [.inl x1, .inl x2]) (rest := []) (zDk zD_113_ok 3 rfl) zc_113 (by decide +kernel) zk_150 ⟨(Nat.le_of_ble_eq_true rfl), rfl, rfl⟩ (Nat.le_of_ble_eq_true rfl) (zr_150 _) (Nat.lt_of_lt_of_le (by decide) hq) (by rw [zm_150]; exact (Nat.le_of_ble_eq_true rfl)) ⟨zc_150, by decide⟩ zis_7_0 (ok_lX_streetsToCut ⟨r3_, e3, ?_⟩)
  refine W_istore_n (pc := 6) (L' := [some (.inr (.inr 0)), some (.inl x1), some (.inl x2), some (.inl r3_.1)]) (zDk zD_113_ok 4 rfl) zm_113 (by decide) rfl ?_
  refine E_iload_n (pc := 7) (zDk zD_113_ok 5 rfl) rfl ?_
  refine E_if (pc := 8) (t := 15) (zDk zD_113_ok 6 rfl) rfl (fun hz => ?_) (fun hz => ?_)
  · have h := zS_f h (Int.not_lt.mpr (T_ge hz))
    refine E_iload_n (pc := 15) (zDk zD_113_ok 9 rfl) rfl ?_
    obtain ⟨v16, e16, h⟩ := zS_bind h
    refine E_staI (pc := 16) (c := 321) (as := [.inl r3_.1]) (rest := []) (zDk zD_113_ok 10 rfl) zc_113 (by decide +kernel) (by decide +kernel) zk_321 ⟨(Nat.le_of_ble_eq_true rfl), rfl, rfl⟩ (Nat.le_of_ble_eq_true rfl) (zr_321 _) (Nat.lt_of_lt_of_le (by decide) hq) (by rw [zm_321]; exact (Nat.le_of_ble_eq_true rfl)) (ok_lJ_bitCount ⟨v16, e16, ?_⟩)
    have h := zS_some h
    exact E_ireturn (pc := 19) (zDk zD_113_ok 11 rfl) zt_113 h
  · have h := zS_t h (F_ge hz)
    refine E_iload_n (pc := 11) (zDk zD_113_ok 7 rfl) rfl ?_
    refine E_goto (pc := 12) (t := 19) (zDk zD_113_ok 8 rfl) rfl ?_
    have h := zS_some h
    exact E_ireturn (pc := 19) (zDk zD_113_ok 11 rfl) zt_113 h
def zD_114 : List (Nat × Instr × Nat) := [(0, .aload_n (0), 1), (1, .iload_n (1), 1), (2, .iload_n (2), 1), (3, .invokevirtual (235), 3), (6, .ireturn, 1)]
set_option maxRecDepth 100000 in
theorem zD_114_ok : zDo 114 zD_114 = true := by decide +kernel
theorem zc_114 : zcls 114 = 7 := by decide +kernel
theorem zm_114 : zml 114 = 3 := by decide +kernel
theorem zt_114 : zrt 114 = (some (.int)) := by decide +kernel
theorem zk_114 : zkd 114 = 1 ∧ znp 114 + 1 = 3 := by decide +kernel
theorem zr_114 (as : List zV) : zrk 114 as = 4 := by unfold zrk; rw [if_neg (by decide)]; decide +kernel
def lX_cuts (x1 : Int) (x2 : Int) (M : Nat → Nat → Int) : Option (Int × (Nat → Nat → Int)) :=
    ((lX_streetsToCut x1 x2 M).bind (fun r3_ =>
    (some (r3_.1, r3_.2))))
set_option maxRecDepth 100000 in
theorem ok_lX_cuts {sc : zSc} {x1 : Int} {x2 : Int} {M : Nat → Nat → Int} {P : Int → (Nat → Nat → Int) → Prop} (h : zS (lX_cuts x1 x2 M) (fun r => P r.1 r.2)) : zCi sc 114 [.inr (.inr 0), .inl x1, .inl x2] M P := by
  have ea : zarg (zml 114) [.inr (.inr 0), .inl x1, .inl x2] = [some (.inr (.inr 0)), some (.inl x1), some (.inl x2)] := by rw [zm_114]; rfl
  unfold zCi zCw
  rw [ea, zr_114]
  have hq : 4 ≤ 4 := Nat.le_refl _
  unfold lX_cuts at h
  have h := zS_mono h (fun x hx => (⟨x.1, rfl, hx⟩ : ∃ y, (some (.inl x.1) : Option zV) = some (.inl y) ∧ P y x.2))
  skip
  refine E_aload_n (pc := 0) (zDk zD_114_ok 0 rfl) rfl ?_
  refine E_iload_n (pc := 1) (zDk zD_114_ok 1 rfl) rfl ?_
  refine E_iload_n (pc := 2) (zDk zD_114_ok 2 rfl) rfl ?_
  obtain ⟨r3_, e3, h⟩ := zS_bind h
  refine E_virI (pc := 3) (c := 150) (r := 0) (as := [.inl x1, .inl x2]) (rest := []) (zDk zD_114_ok 3 rfl) zc_114 (by decide +kernel) zk_150 ⟨(Nat.le_of_ble_eq_true rfl), rfl, rfl⟩ (Nat.le_of_ble_eq_true rfl) (zr_150 _) (Nat.lt_of_lt_of_le (by decide) hq) (by rw [zm_150]; exact (Nat.le_of_ble_eq_true rfl)) ⟨zc_150, by decide⟩ zis_7_0 (ok_lX_streetsToCut ⟨r3_, e3, ?_⟩)
  have h := zS_some h
  exact E_ireturn (pc := 6) (zDk zD_114_ok 4 rfl) zt_114 h
def zD_119 : List (Nat × Instr × Nat) := [(0, .aload_n (0), 1), (1, .getfield (19), 3), (4, .invokevirtual (194), 3), (7, .ifCond .ne (6), 3), (10, .bipush (-2), 2), (12, .ireturn, 1), (13, .iconst (-1), 1), (14, .istore_n (1), 1), (15, .aload_n (0), 1), (16, .invokevirtual (250), 3), (19, .istore_n (2), 1), (20, .iconst (0), 1), (21, .istore_n (3), 1), (22, .iload_n (3), 1), (23, .aload_n (0), 1), (24, .getfield (19), 3), (27, .getfield (244), 3), (30, .if_icmp .ge (45), 3), (33, .aload_n (0), 1), (34, .getfield (42), 3), (37, .invokevirtual (253), 3), (40, .aload_n (0), 1), (41, .getfield (42), 3), (44, .iload_n (3), 1), (45, .putfield (256), 3), (48, .aload_n (0), 1), (49, .getfield (42), 3), (52, .iconst (0), 1), (53, .invokevirtual (259), 3), (56, .istore (4), 2), (58, .iload (4), 2), (60, .iload_n (2), 1), (61, .if_icmp .le (8), 3), (64, .iload_n (3), 1), (65, .istore_n (1), 1), (66, .iload (4), 2), (68, .istore_n (2), 1), (69, .iinc (3) (1), 3), (72, .goto (-50), 3), (75, .iload_n (1), 1), (76, .ireturn, 1)]
set_option maxRecDepth 100000 in
theorem zD_119_ok : zDo 119 zD_119 = true := by decide +kernel
theorem zc_119 : zcls 119 = 7 := by decide +kernel
theorem zm_119 : zml 119 = 5 := by decide +kernel
theorem zt_119 : zrt 119 = (some (.int)) := by decide +kernel
theorem zk_119 : zkd 119 = 1 ∧ znp 119 + 1 = 1 := by decide +kernel
theorem zr_119 (as : List zV) : zrk 119 as = 4 := by unfold zrk; rw [if_neg (by decide)]; decide +kernel
def lX_dig_c22 : Nat → Int → Int → Int → (Nat → Nat → Int) → Option (Int × (Nat → Nat → Int))
  | 0, _, _, _, _ => none
  | n + 1, y1, y2, y3, M =>
    (if y3 < (M 3 0) then
    ((lD_asNow 37 M).bind (fun M37 =>
    ((some (zup M37 37 11 y3)).bind (fun M45 =>
    ((lD_runAll 37 (0 : Int) M45).bind (fun r53_ =>
    (if y2 < r53_.1 then
    ((lX_dig_c22 n) y3 r53_.1 (w32 (y3 + 1)) r53_.2)
    else
    ((lX_dig_c22 n) y1 y2 (w32 (y3 + 1)) r53_.2))))))))
    else
    (some (y1, M)))
set_option maxRecDepth 100000 in
theorem ok_lX_dig_c22 {sc : zSc} {q : Nat} {P : Option zV → (Nat → Nat → Int) → Prop} (hq : 4 ≤ q) : ∀ (n : Nat) (y1 : Int) (y2 : Int) (y3 : Int) (M : Nat → Nat → Int) (d4 : Option zV), zS (lX_dig_c22 n y1 y2 y3 M) (fun r => P (some (.inl r.1)) r.2) → zWp sc q 119 22 [some (.inr (.inr 0)), some (.inl y1), some (.inl y2), some (.inl y3), d4] [] M P := by
  intro n
  induction n with
  | zero => intro y1 y2 y3 M d4 h; exact (zS_none h).elim
  | succ n ih =>
    intro y1 y2 y3 M d4 h
    rw [lX_dig_c22] at h
    refine E_iload_n (pc := 22) (zDk zD_119_ok 13 rfl) rfl ?_
    refine E_aload_n (pc := 23) (zDk zD_119_ok 14 rfl) rfl ?_
    refine E_getR (pc := 24) (ci := 7) (f := 1) (r := 3) (zDk zD_119_ok 15 rfl) zc_119 (by decide +kernel) (by decide) zis_7_0 (by decide +kernel) (by decide) ?_
    refine E_getI (pc := 27) (ci := 6) (f := 0) (zDk zD_119_ok 16 rfl) zc_119 (by decide +kernel) (by decide) zis_6_3 ?_
    refine E_icmp (pc := 30) (t := 75) (zDk zD_119_ok 17 rfl) rfl (fun hz => ?_) (fun hz => ?_)
    · have h := zS_f h (Int.not_lt.mpr (T_ge hz))
      refine E_iload_n (pc := 75) (zDk zD_119_ok 39 rfl) rfl ?_
      have h := zS_some h
      exact E_ireturn (pc := 76) (zDk zD_119_ok 40 rfl) zt_119 h
    · have h := zS_t h (F_ge hz)
      refine E_aload_n (pc := 33) (zDk zD_119_ok 18 rfl) rfl ?_
      refine E_getR (pc := 34) (ci := 7) (f := 5) (r := 37) (zDk zD_119_ok 19 rfl) zc_119 (by decide +kernel) (by decide) zis_7_0 (by decide +kernel) (by decide) ?_
      obtain ⟨M37, e37, h⟩ := zS_bind h
      refine E_virV (pc := 37) (c := 8) (r := 37) (as := []) (rest := []) (zDk zD_119_ok 20 rfl) zc_119 (by decide +kernel) zk_8 ⟨(Nat.le_of_ble_eq_true rfl), rfl, rfl⟩ (Nat.le_of_ble_eq_true rfl) (zr_8 _) (Nat.lt_of_lt_of_le (by decide) hq) (by rw [zm_8]; exact (Nat.le_of_ble_eq_true rfl)) ⟨zc_8, by decide⟩ zis_1_37 (ok_lD_asNow ⟨M37, e37, ?_⟩)
      refine E_aload_n (pc := 40) (zDk zD_119_ok 21 rfl) rfl ?_
      refine E_getR (pc := 41) (ci := 7) (f := 5) (r := 37) (zDk zD_119_ok 22 rfl) zc_119 (by decide +kernel) (by decide) zis_7_0 (by decide +kernel) (by decide) ?_
      refine E_iload_n (pc := 44) (zDk zD_119_ok 23 rfl) rfl ?_
      obtain ⟨M45, e45, h⟩ := zS_bind h
      refine W_putI (pc := 45) (ci := 1) (f := 11) (zDk zD_119_ok 24 rfl) zc_119 (by decide +kernel) (by decide) zis_1_37 (Option.some.inj e45) ?_
      refine E_aload_n (pc := 48) (zDk zD_119_ok 25 rfl) rfl ?_
      refine E_getR (pc := 49) (ci := 7) (f := 5) (r := 37) (zDk zD_119_ok 26 rfl) zc_119 (by decide +kernel) (by decide) zis_7_0 (by decide +kernel) (by decide) ?_
      refine E_iconst (pc := 52) (zDk zD_119_ok 27 rfl) (by decide +kernel) ?_
      obtain ⟨r53_, e53, h⟩ := zS_bind h
      refine E_virI (pc := 53) (c := 9) (r := 37) (as := [.inl (0 : Int)]) (rest := []) (zDk zD_119_ok 28 rfl) zc_119 (by decide +kernel) zk_9 ⟨(Nat.le_of_ble_eq_true rfl), rfl, rfl⟩ (Nat.le_of_ble_eq_true rfl) (zr_9 _) (Nat.lt_of_lt_of_le (by decide) hq) (by rw [zm_9]; exact (Nat.le_of_ble_eq_true rfl)) ⟨zc_9, by decide⟩ zis_1_37 (ok_lD_runAll ⟨r53_, e53, ?_⟩)
      refine W_istore (pc := 56) (L' := [some (.inr (.inr 0)), some (.inl y1), some (.inl y2), some (.inl y3), some (.inl r53_.1)]) (zDk zD_119_ok 29 rfl) zm_119 (by decide) rfl ?_
      refine E_iload (pc := 58) (zDk zD_119_ok 30 rfl) rfl ?_
      refine E_iload_n (pc := 60) (zDk zD_119_ok 31 rfl) rfl ?_
      refine E_icmp (pc := 61) (t := 69) (zDk zD_119_ok 32 rfl) rfl (fun hz => ?_) (fun hz => ?_)
      · have h := zS_f h (Int.not_lt.mpr (T_le hz))
        refine W_iinc (pc := 69) (L' := [some (.inr (.inr 0)), some (.inl y1), some (.inl y2), some (.inl (w32 (y3 + 1))), some (.inl r53_.1)]) (zDk zD_119_ok 37 rfl) rfl zm_119 (by decide) rfl ?_
        refine E_goto (pc := 72) (t := 22) (zDk zD_119_ok 38 rfl) rfl ?_
        exact (ih) y1 y2 (w32 (y3 + 1)) r53_.2 (some (.inl r53_.1)) h
      · have h := zS_t h (F_le hz)
        refine E_iload_n (pc := 64) (zDk zD_119_ok 33 rfl) rfl ?_
        refine W_istore_n (pc := 65) (L' := [some (.inr (.inr 0)), some (.inl y3), some (.inl y2), some (.inl y3), some (.inl r53_.1)]) (zDk zD_119_ok 34 rfl) zm_119 (by decide) rfl ?_
        refine E_iload (pc := 66) (zDk zD_119_ok 35 rfl) rfl ?_
        refine W_istore_n (pc := 68) (L' := [some (.inr (.inr 0)), some (.inl y3), some (.inl r53_.1), some (.inl y3), some (.inl r53_.1)]) (zDk zD_119_ok 36 rfl) zm_119 (by decide) rfl ?_
        refine W_iinc (pc := 69) (L' := [some (.inr (.inr 0)), some (.inl y3), some (.inl r53_.1), some (.inl (w32 (y3 + 1))), some (.inl r53_.1)]) (zDk zD_119_ok 37 rfl) rfl zm_119 (by decide) rfl ?_
        refine E_goto (pc := 72) (t := 22) (zDk zD_119_ok 38 rfl) rfl ?_
        exact (ih) y3 r53_.1 (w32 (y3 + 1)) r53_.2 (some (.inl r53_.1)) h
def lX_dig (M : Nat → Nat → Int) : Option (Int × (Nat → Nat → Int)) :=
    ((lT_isThere 3 M).bind (fun v4 =>
    (if v4 = 0 then
    (some ((-2 : Int), M))
    else
    ((lX_signedNow M).bind (fun v16 =>
    (lX_dig_c22 zN (-1 : Int) v16 (0 : Int) M))))))
set_option maxRecDepth 100000 in
theorem ok_lX_dig {sc : zSc} {M : Nat → Nat → Int} {P : Int → (Nat → Nat → Int) → Prop} (h : zS (lX_dig M) (fun r => P r.1 r.2)) : zCi sc 119 [.inr (.inr 0)] M P := by
  have ea : zarg (zml 119) [.inr (.inr 0)] = [some (.inr (.inr 0)), none, none, none, none] := by rw [zm_119]; rfl
  unfold zCi zCw
  rw [ea, zr_119]
  have hq : 4 ≤ 4 := Nat.le_refl _
  unfold lX_dig at h
  have h := zS_mono h (fun x hx => (⟨x.1, rfl, hx⟩ : ∃ y, (some (.inl x.1) : Option zV) = some (.inl y) ∧ P y x.2))
  skip
  refine E_aload_n (pc := 0) (zDk zD_119_ok 0 rfl) rfl ?_
  refine E_getR (pc := 1) (ci := 7) (f := 1) (r := 3) (zDk zD_119_ok 1 rfl) zc_119 (by decide +kernel) (by decide) zis_7_0 (by decide +kernel) (by decide) ?_
  obtain ⟨v4, e4, h⟩ := zS_bind h
  refine E_virI (pc := 4) (c := 69) (r := 3) (as := []) (rest := []) (zDk zD_119_ok 2 rfl) zc_119 (by decide +kernel) zk_69 ⟨(Nat.le_of_ble_eq_true rfl), rfl, rfl⟩ (Nat.le_of_ble_eq_true rfl) (zr_69 _) (Nat.lt_of_lt_of_le (by decide) hq) (by rw [zm_69]; exact (Nat.le_of_ble_eq_true rfl)) ⟨zc_69, by decide⟩ zis_6_3 (ok_lT_isThere ⟨v4, e4, ?_⟩)
  refine E_if (pc := 7) (t := 13) (zDk zD_119_ok 3 rfl) rfl (fun hz => ?_) (fun hz => ?_)
  · have h := zS_f h (T_ne hz)
    refine E_iconst (pc := 13) (zDk zD_119_ok 6 rfl) (by decide +kernel) ?_
    refine W_istore_n (pc := 14) (L' := [some (.inr (.inr 0)), some (.inl (-1 : Int)), none, none, none]) (zDk zD_119_ok 7 rfl) zm_119 (by decide) rfl ?_
    refine E_aload_n (pc := 15) (zDk zD_119_ok 8 rfl) rfl ?_
    obtain ⟨v16, e16, h⟩ := zS_bind h
    refine E_virI (pc := 16) (c := 152) (r := 0) (as := []) (rest := []) (zDk zD_119_ok 9 rfl) zc_119 (by decide +kernel) zk_152 ⟨(Nat.le_of_ble_eq_true rfl), rfl, rfl⟩ (Nat.le_of_ble_eq_true rfl) (zr_152 _) (Nat.lt_of_lt_of_le (by decide) hq) (by rw [zm_152]; exact (Nat.le_of_ble_eq_true rfl)) ⟨zc_152, by decide⟩ zis_7_0 (ok_lX_signedNow ⟨v16, e16, ?_⟩)
    refine W_istore_n (pc := 19) (L' := [some (.inr (.inr 0)), some (.inl (-1 : Int)), some (.inl v16), none, none]) (zDk zD_119_ok 10 rfl) zm_119 (by decide) rfl ?_
    refine E_iconst (pc := 20) (zDk zD_119_ok 11 rfl) (by decide +kernel) ?_
    refine W_istore_n (pc := 21) (L' := [some (.inr (.inr 0)), some (.inl (-1 : Int)), some (.inl v16), some (.inl (0 : Int)), none]) (zDk zD_119_ok 12 rfl) zm_119 (by decide) rfl ?_
    exact ok_lX_dig_c22 hq zN (-1 : Int) v16 (0 : Int) M none h
  · have h := zS_t h (F_ne hz)
    refine E_bipush (pc := 10) (zDk zD_119_ok 4 rfl) (by decide +kernel) ?_
    have h := zS_some h
    exact E_ireturn (pc := 12) (zDk zD_119_ok 5 rfl) zt_119 h
def zD_120 : List (Nat × Instr × Nat) := [(0, .aload_n (0), 1), (1, .getfield (19), 3), (4, .invokevirtual (194), 3), (7, .ifCond .ne (6), 3), (10, .bipush (-2), 2), (12, .ireturn, 1), (13, .iconst (-1), 1), (14, .istore_n (1), 1), (15, .aload_n (0), 1), (16, .invokevirtual (250), 3), (19, .istore_n (2), 1), (20, .iconst (0), 1), (21, .istore_n (3), 1), (22, .iload_n (3), 1), (23, .aload_n (0), 1), (24, .getfield (19), 3), (27, .getfield (262), 3), (30, .if_icmp .ge (52), 3), (33, .aload_n (0), 1), (34, .getfield (42), 3), (37, .invokevirtual (253), 3), (40, .aload_n (0), 1), (41, .getfield (42), 3), (44, .dup, 1), (45, .getfield (265), 3), (48, .iconst (1), 1), (49, .iload_n (3), 1), (50, .ishl, 1), (51, .ior, 1), (52, .putfield (265), 3), (55, .aload_n (0), 1), (56, .getfield (42), 3), (59, .iconst (0), 1), (60, .invokevirtual (259), 3), (63, .istore (4), 2), (65, .iload (4), 2), (67, .iload_n (2), 1), (68, .if_icmp .le (8), 3), (71, .iload_n (3), 1), (72, .istore_n (1), 1), (73, .iload (4), 2), (75, .istore_n (2), 1), (76, .iinc (3) (1), 3), (79, .goto (-57), 3), (82, .iload_n (1), 1), (83, .ireturn, 1)]
set_option maxRecDepth 100000 in
theorem zD_120_ok : zDo 120 zD_120 = true := by decide +kernel
theorem zc_120 : zcls 120 = 7 := by decide +kernel
theorem zm_120 : zml 120 = 5 := by decide +kernel
theorem zt_120 : zrt 120 = (some (.int)) := by decide +kernel
theorem zk_120 : zkd 120 = 1 ∧ znp 120 + 1 = 1 := by decide +kernel
theorem zr_120 (as : List zV) : zrk 120 as = 4 := by unfold zrk; rw [if_neg (by decide)]; decide +kernel
def lX_shut_c22 : Nat → Int → Int → Int → (Nat → Nat → Int) → Option (Int × (Nat → Nat → Int))
  | 0, _, _, _, _ => none
  | n + 1, y1, y2, y3, M =>
    (if y3 < (M 3 5) then
    ((lD_asNow 37 M).bind (fun M37 =>
    ((some (zup M37 37 9 (zor (M37 37 9) (zshl (1 : Int) y3)))).bind (fun M52 =>
    ((lD_runAll 37 (0 : Int) M52).bind (fun r60_ =>
    (if y2 < r60_.1 then
    ((lX_shut_c22 n) y3 r60_.1 (w32 (y3 + 1)) r60_.2)
    else
    ((lX_shut_c22 n) y1 y2 (w32 (y3 + 1)) r60_.2))))))))
    else
    (some (y1, M)))
set_option maxRecDepth 100000 in
theorem ok_lX_shut_c22 {sc : zSc} {q : Nat} {P : Option zV → (Nat → Nat → Int) → Prop} (hq : 4 ≤ q) : ∀ (n : Nat) (y1 : Int) (y2 : Int) (y3 : Int) (M : Nat → Nat → Int) (d4 : Option zV), zS (lX_shut_c22 n y1 y2 y3 M) (fun r => P (some (.inl r.1)) r.2) → zWp sc q 120 22 [some (.inr (.inr 0)), some (.inl y1), some (.inl y2), some (.inl y3), d4] [] M P := by
  intro n
  induction n with
  | zero => intro y1 y2 y3 M d4 h; exact (zS_none h).elim
  | succ n ih =>
    intro y1 y2 y3 M d4 h
    rw [lX_shut_c22] at h
    refine E_iload_n (pc := 22) (zDk zD_120_ok 13 rfl) rfl ?_
    refine E_aload_n (pc := 23) (zDk zD_120_ok 14 rfl) rfl ?_
    refine E_getR (pc := 24) (ci := 7) (f := 1) (r := 3) (zDk zD_120_ok 15 rfl) zc_120 (by decide +kernel) (by decide) zis_7_0 (by decide +kernel) (by decide) ?_
    refine E_getI (pc := 27) (ci := 6) (f := 5) (zDk zD_120_ok 16 rfl) zc_120 (by decide +kernel) (by decide) zis_6_3 ?_
    refine E_icmp (pc := 30) (t := 82) (zDk zD_120_ok 17 rfl) rfl (fun hz => ?_) (fun hz => ?_)
    · have h := zS_f h (Int.not_lt.mpr (T_ge hz))
      refine E_iload_n (pc := 82) (zDk zD_120_ok 44 rfl) rfl ?_
      have h := zS_some h
      exact E_ireturn (pc := 83) (zDk zD_120_ok 45 rfl) zt_120 h
    · have h := zS_t h (F_ge hz)
      refine E_aload_n (pc := 33) (zDk zD_120_ok 18 rfl) rfl ?_
      refine E_getR (pc := 34) (ci := 7) (f := 5) (r := 37) (zDk zD_120_ok 19 rfl) zc_120 (by decide +kernel) (by decide) zis_7_0 (by decide +kernel) (by decide) ?_
      obtain ⟨M37, e37, h⟩ := zS_bind h
      refine E_virV (pc := 37) (c := 8) (r := 37) (as := []) (rest := []) (zDk zD_120_ok 20 rfl) zc_120 (by decide +kernel) zk_8 ⟨(Nat.le_of_ble_eq_true rfl), rfl, rfl⟩ (Nat.le_of_ble_eq_true rfl) (zr_8 _) (Nat.lt_of_lt_of_le (by decide) hq) (by rw [zm_8]; exact (Nat.le_of_ble_eq_true rfl)) ⟨zc_8, by decide⟩ zis_1_37 (ok_lD_asNow ⟨M37, e37, ?_⟩)
      refine E_aload_n (pc := 40) (zDk zD_120_ok 21 rfl) rfl ?_
      refine E_getR (pc := 41) (ci := 7) (f := 5) (r := 37) (zDk zD_120_ok 22 rfl) zc_120 (by decide +kernel) (by decide) zis_7_0 (by decide +kernel) (by decide) ?_
      refine E_dup (pc := 44) (zDk zD_120_ok 23 rfl) rfl ?_
      refine E_getI (pc := 45) (ci := 1) (f := 9) (zDk zD_120_ok 24 rfl) zc_120 (by decide +kernel) (by decide) zis_1_37 ?_
      refine E_iconst (pc := 48) (zDk zD_120_ok 25 rfl) (by decide +kernel) ?_
      refine E_iload_n (pc := 49) (zDk zD_120_ok 26 rfl) rfl ?_
      refine E_ishl (pc := 50) (zDk zD_120_ok 27 rfl) ?_
      refine E_ior (pc := 51) (zDk zD_120_ok 28 rfl) ?_
      obtain ⟨M52, e52, h⟩ := zS_bind h
      refine W_putI (pc := 52) (ci := 1) (f := 9) (zDk zD_120_ok 29 rfl) zc_120 (by decide +kernel) (by decide) zis_1_37 (Option.some.inj e52) ?_
      refine E_aload_n (pc := 55) (zDk zD_120_ok 30 rfl) rfl ?_
      refine E_getR (pc := 56) (ci := 7) (f := 5) (r := 37) (zDk zD_120_ok 31 rfl) zc_120 (by decide +kernel) (by decide) zis_7_0 (by decide +kernel) (by decide) ?_
      refine E_iconst (pc := 59) (zDk zD_120_ok 32 rfl) (by decide +kernel) ?_
      obtain ⟨r60_, e60, h⟩ := zS_bind h
      refine E_virI (pc := 60) (c := 9) (r := 37) (as := [.inl (0 : Int)]) (rest := []) (zDk zD_120_ok 33 rfl) zc_120 (by decide +kernel) zk_9 ⟨(Nat.le_of_ble_eq_true rfl), rfl, rfl⟩ (Nat.le_of_ble_eq_true rfl) (zr_9 _) (Nat.lt_of_lt_of_le (by decide) hq) (by rw [zm_9]; exact (Nat.le_of_ble_eq_true rfl)) ⟨zc_9, by decide⟩ zis_1_37 (ok_lD_runAll ⟨r60_, e60, ?_⟩)
      refine W_istore (pc := 63) (L' := [some (.inr (.inr 0)), some (.inl y1), some (.inl y2), some (.inl y3), some (.inl r60_.1)]) (zDk zD_120_ok 34 rfl) zm_120 (by decide) rfl ?_
      refine E_iload (pc := 65) (zDk zD_120_ok 35 rfl) rfl ?_
      refine E_iload_n (pc := 67) (zDk zD_120_ok 36 rfl) rfl ?_
      refine E_icmp (pc := 68) (t := 76) (zDk zD_120_ok 37 rfl) rfl (fun hz => ?_) (fun hz => ?_)
      · have h := zS_f h (Int.not_lt.mpr (T_le hz))
        refine W_iinc (pc := 76) (L' := [some (.inr (.inr 0)), some (.inl y1), some (.inl y2), some (.inl (w32 (y3 + 1))), some (.inl r60_.1)]) (zDk zD_120_ok 42 rfl) rfl zm_120 (by decide) rfl ?_
        refine E_goto (pc := 79) (t := 22) (zDk zD_120_ok 43 rfl) rfl ?_
        exact (ih) y1 y2 (w32 (y3 + 1)) r60_.2 (some (.inl r60_.1)) h
      · have h := zS_t h (F_le hz)
        refine E_iload_n (pc := 71) (zDk zD_120_ok 38 rfl) rfl ?_
        refine W_istore_n (pc := 72) (L' := [some (.inr (.inr 0)), some (.inl y3), some (.inl y2), some (.inl y3), some (.inl r60_.1)]) (zDk zD_120_ok 39 rfl) zm_120 (by decide) rfl ?_
        refine E_iload (pc := 73) (zDk zD_120_ok 40 rfl) rfl ?_
        refine W_istore_n (pc := 75) (L' := [some (.inr (.inr 0)), some (.inl y3), some (.inl r60_.1), some (.inl y3), some (.inl r60_.1)]) (zDk zD_120_ok 41 rfl) zm_120 (by decide) rfl ?_
        refine W_iinc (pc := 76) (L' := [some (.inr (.inr 0)), some (.inl y3), some (.inl r60_.1), some (.inl (w32 (y3 + 1))), some (.inl r60_.1)]) (zDk zD_120_ok 42 rfl) rfl zm_120 (by decide) rfl ?_
        refine E_goto (pc := 79) (t := 22) (zDk zD_120_ok 43 rfl) rfl ?_
        exact (ih) y3 r60_.1 (w32 (y3 + 1)) r60_.2 (some (.inl r60_.1)) h
def lX_shut (M : Nat → Nat → Int) : Option (Int × (Nat → Nat → Int)) :=
    ((lT_isThere 3 M).bind (fun v4 =>
    (if v4 = 0 then
    (some ((-2 : Int), M))
    else
    ((lX_signedNow M).bind (fun v16 =>
    (lX_shut_c22 zN (-1 : Int) v16 (0 : Int) M))))))
set_option maxRecDepth 100000 in
theorem ok_lX_shut {sc : zSc} {M : Nat → Nat → Int} {P : Int → (Nat → Nat → Int) → Prop} (h : zS (lX_shut M) (fun r => P r.1 r.2)) : zCi sc 120 [.inr (.inr 0)] M P := by
  have ea : zarg (zml 120) [.inr (.inr 0)] = [some (.inr (.inr 0)), none, none, none, none] := by rw [zm_120]; rfl
  unfold zCi zCw
  rw [ea, zr_120]
  have hq : 4 ≤ 4 := Nat.le_refl _
  unfold lX_shut at h
  have h := zS_mono h (fun x hx => (⟨x.1, rfl, hx⟩ : ∃ y, (some (.inl x.1) : Option zV) = some (.inl y) ∧ P y x.2))
  skip
  refine E_aload_n (pc := 0) (zDk zD_120_ok 0 rfl) rfl ?_
  refine E_getR (pc := 1) (ci := 7) (f := 1) (r := 3) (zDk zD_120_ok 1 rfl) zc_120 (by decide +kernel) (by decide) zis_7_0 (by decide +kernel) (by decide) ?_
  obtain ⟨v4, e4, h⟩ := zS_bind h
  refine E_virI (pc := 4) (c := 69) (r := 3) (as := []) (rest := []) (zDk zD_120_ok 2 rfl) zc_120 (by decide +kernel) zk_69 ⟨(Nat.le_of_ble_eq_true rfl), rfl, rfl⟩ (Nat.le_of_ble_eq_true rfl) (zr_69 _) (Nat.lt_of_lt_of_le (by decide) hq) (by rw [zm_69]; exact (Nat.le_of_ble_eq_true rfl)) ⟨zc_69, by decide⟩ zis_6_3 (ok_lT_isThere ⟨v4, e4, ?_⟩)
  refine E_if (pc := 7) (t := 13) (zDk zD_120_ok 3 rfl) rfl (fun hz => ?_) (fun hz => ?_)
  · have h := zS_f h (T_ne hz)
    refine E_iconst (pc := 13) (zDk zD_120_ok 6 rfl) (by decide +kernel) ?_
    refine W_istore_n (pc := 14) (L' := [some (.inr (.inr 0)), some (.inl (-1 : Int)), none, none, none]) (zDk zD_120_ok 7 rfl) zm_120 (by decide) rfl ?_
    refine E_aload_n (pc := 15) (zDk zD_120_ok 8 rfl) rfl ?_
    obtain ⟨v16, e16, h⟩ := zS_bind h
    refine E_virI (pc := 16) (c := 152) (r := 0) (as := []) (rest := []) (zDk zD_120_ok 9 rfl) zc_120 (by decide +kernel) zk_152 ⟨(Nat.le_of_ble_eq_true rfl), rfl, rfl⟩ (Nat.le_of_ble_eq_true rfl) (zr_152 _) (Nat.lt_of_lt_of_le (by decide) hq) (by rw [zm_152]; exact (Nat.le_of_ble_eq_true rfl)) ⟨zc_152, by decide⟩ zis_7_0 (ok_lX_signedNow ⟨v16, e16, ?_⟩)
    refine W_istore_n (pc := 19) (L' := [some (.inr (.inr 0)), some (.inl (-1 : Int)), some (.inl v16), none, none]) (zDk zD_120_ok 10 rfl) zm_120 (by decide) rfl ?_
    refine E_iconst (pc := 20) (zDk zD_120_ok 11 rfl) (by decide +kernel) ?_
    refine W_istore_n (pc := 21) (L' := [some (.inr (.inr 0)), some (.inl (-1 : Int)), some (.inl v16), some (.inl (0 : Int)), none]) (zDk zD_120_ok 12 rfl) zm_120 (by decide) rfl ?_
    exact ok_lX_shut_c22 hq zN (-1 : Int) v16 (0 : Int) M none h
  · have h := zS_t h (F_ne hz)
    refine E_bipush (pc := 10) (zDk zD_120_ok 4 rfl) (by decide +kernel) ?_
    have h := zS_some h
    exact E_ireturn (pc := 12) (zDk zD_120_ok 5 rfl) zt_120 h
def zD_145 : List (Nat × Instr × Nat) := [(0, .aload_n (0), 1), (1, .getfield (38), 3), (4, .invokevirtual (253), 3), (7, .aload_n (0), 1), (8, .getfield (38), 3), (11, .iconst (0), 1), (12, .invokevirtual (259), 3), (15, .pop, 1), (16, .return_, 1)]
set_option maxRecDepth 100000 in
theorem zD_145_ok : zDo 145 zD_145 = true := by decide +kernel
theorem zc_145 : zcls 145 = 7 := by decide +kernel
theorem zm_145 : zml 145 = 1 := by decide +kernel
theorem zt_145 : zrt 145 = none := by decide +kernel
theorem zk_145 : zkd 145 = 1 ∧ znp 145 + 1 = 1 := by decide +kernel
theorem zr_145 (as : List zV) : zrk 145 as = 4 := by unfold zrk; rw [if_neg (by decide)]; decide +kernel
def lX_settle (M : Nat → Nat → Int) : Option (Nat → Nat → Int) :=
    ((lD_asNow 29 M).bind (fun M4 =>
    ((lD_runAll 29 (0 : Int) M4).bind (fun r12_ =>
    (some r12_.2)))))
set_option maxRecDepth 100000 in
theorem ok_lX_settle {sc : zSc} {M : Nat → Nat → Int} {P : (Nat → Nat → Int) → Prop} (h : zS (lX_settle M) P) : zCv sc 145 [.inr (.inr 0)] M P := by
  have ea : zarg (zml 145) [.inr (.inr 0)] = [some (.inr (.inr 0))] := by rw [zm_145]; rfl
  unfold zCv zCw
  rw [ea, zr_145]
  have hq : 4 ≤ 4 := Nat.le_refl _
  unfold lX_settle at h
  have h := zS_mono h (fun x hx => (⟨rfl, hx⟩ : (none : Option zV) = none ∧ P x))
  skip
  refine E_aload_n (pc := 0) (zDk zD_145_ok 0 rfl) rfl ?_
  refine E_getR (pc := 1) (ci := 7) (f := 4) (r := 29) (zDk zD_145_ok 1 rfl) zc_145 (by decide +kernel) (by decide) zis_7_0 (by decide +kernel) (by decide) ?_
  obtain ⟨M4, e4, h⟩ := zS_bind h
  refine E_virV (pc := 4) (c := 8) (r := 29) (as := []) (rest := []) (zDk zD_145_ok 2 rfl) zc_145 (by decide +kernel) zk_8 ⟨(Nat.le_of_ble_eq_true rfl), rfl, rfl⟩ (Nat.le_of_ble_eq_true rfl) (zr_8 _) (Nat.lt_of_lt_of_le (by decide) hq) (by rw [zm_8]; exact (Nat.le_of_ble_eq_true rfl)) ⟨zc_8, by decide⟩ zis_1_29 (ok_lD_asNow ⟨M4, e4, ?_⟩)
  refine E_aload_n (pc := 7) (zDk zD_145_ok 3 rfl) rfl ?_
  refine E_getR (pc := 8) (ci := 7) (f := 4) (r := 29) (zDk zD_145_ok 4 rfl) zc_145 (by decide +kernel) (by decide) zis_7_0 (by decide +kernel) (by decide) ?_
  refine E_iconst (pc := 11) (zDk zD_145_ok 5 rfl) (by decide +kernel) ?_
  obtain ⟨r12_, e12, h⟩ := zS_bind h
  refine E_virI (pc := 12) (c := 9) (r := 29) (as := [.inl (0 : Int)]) (rest := []) (zDk zD_145_ok 6 rfl) zc_145 (by decide +kernel) zk_9 ⟨(Nat.le_of_ble_eq_true rfl), rfl, rfl⟩ (Nat.le_of_ble_eq_true rfl) (zr_9 _) (Nat.lt_of_lt_of_le (by decide) hq) (by rw [zm_9]; exact (Nat.le_of_ble_eq_true rfl)) ⟨zc_9, by decide⟩ zis_1_29 (ok_lD_runAll ⟨r12_, e12, ?_⟩)
  refine E_pop (pc := 15) (zDk zD_145_ok 7 rfl) rfl ?_
  have h := zS_some h
  exact E_return (x := ()) (pc := 16) (zDk zD_145_ok 8 rfl) zt_145 h
def zD_153 : List (Nat × Instr × Nat) := [(0, .aload_n (0), 1), (1, .getfield (42), 3), (4, .invokevirtual (253), 3), (7, .aload_n (0), 1), (8, .getfield (42), 3), (11, .iload_n (1), 1), (12, .putfield (394), 3), (15, .aload_n (0), 1), (16, .getfield (42), 3), (19, .iconst (0), 1), (20, .invokevirtual (259), 3), (23, .ireturn, 1)]
set_option maxRecDepth 100000 in
theorem zD_153_ok : zDo 153 zD_153 = true := by decide +kernel
theorem zc_153 : zcls 153 = 7 := by decide +kernel
theorem zm_153 : zml 153 = 2 := by decide +kernel
theorem zt_153 : zrt 153 = (some (.int)) := by decide +kernel
theorem zk_153 : zkd 153 = 1 ∧ znp 153 + 1 = 2 := by decide +kernel
theorem zr_153 (as : List zV) : zrk 153 as = 4 := by unfold zrk; rw [if_neg (by decide)]; decide +kernel
def lX_signedByLaw (x1 : Int) (M : Nat → Nat → Int) : Option (Int × (Nat → Nat → Int)) :=
    ((lD_asNow 37 M).bind (fun M4 =>
    ((some (zup M4 37 8 x1)).bind (fun M12 =>
    ((lD_runAll 37 (0 : Int) M12).bind (fun r20_ =>
    (some (r20_.1, r20_.2))))))))
set_option maxRecDepth 100000 in
theorem ok_lX_signedByLaw {sc : zSc} {x1 : Int} {M : Nat → Nat → Int} {P : Int → (Nat → Nat → Int) → Prop} (h : zS (lX_signedByLaw x1 M) (fun r => P r.1 r.2)) : zCi sc 153 [.inr (.inr 0), .inl x1] M P := by
  have ea : zarg (zml 153) [.inr (.inr 0), .inl x1] = [some (.inr (.inr 0)), some (.inl x1)] := by rw [zm_153]; rfl
  unfold zCi zCw
  rw [ea, zr_153]
  have hq : 4 ≤ 4 := Nat.le_refl _
  unfold lX_signedByLaw at h
  have h := zS_mono h (fun x hx => (⟨x.1, rfl, hx⟩ : ∃ y, (some (.inl x.1) : Option zV) = some (.inl y) ∧ P y x.2))
  skip
  refine E_aload_n (pc := 0) (zDk zD_153_ok 0 rfl) rfl ?_
  refine E_getR (pc := 1) (ci := 7) (f := 5) (r := 37) (zDk zD_153_ok 1 rfl) zc_153 (by decide +kernel) (by decide) zis_7_0 (by decide +kernel) (by decide) ?_
  obtain ⟨M4, e4, h⟩ := zS_bind h
  refine E_virV (pc := 4) (c := 8) (r := 37) (as := []) (rest := []) (zDk zD_153_ok 2 rfl) zc_153 (by decide +kernel) zk_8 ⟨(Nat.le_of_ble_eq_true rfl), rfl, rfl⟩ (Nat.le_of_ble_eq_true rfl) (zr_8 _) (Nat.lt_of_lt_of_le (by decide) hq) (by rw [zm_8]; exact (Nat.le_of_ble_eq_true rfl)) ⟨zc_8, by decide⟩ zis_1_37 (ok_lD_asNow ⟨M4, e4, ?_⟩)
  refine E_aload_n (pc := 7) (zDk zD_153_ok 3 rfl) rfl ?_
  refine E_getR (pc := 8) (ci := 7) (f := 5) (r := 37) (zDk zD_153_ok 4 rfl) zc_153 (by decide +kernel) (by decide) zis_7_0 (by decide +kernel) (by decide) ?_
  refine E_iload_n (pc := 11) (zDk zD_153_ok 5 rfl) rfl ?_
  obtain ⟨M12, e12, h⟩ := zS_bind h
  refine W_putI (pc := 12) (ci := 1) (f := 8) (zDk zD_153_ok 6 rfl) zc_153 (by decide +kernel) (by decide) zis_1_37 (Option.some.inj e12) ?_
  refine E_aload_n (pc := 15) (zDk zD_153_ok 7 rfl) rfl ?_
  refine E_getR (pc := 16) (ci := 7) (f := 5) (r := 37) (zDk zD_153_ok 8 rfl) zc_153 (by decide +kernel) (by decide) zis_7_0 (by decide +kernel) (by decide) ?_
  refine E_iconst (pc := 19) (zDk zD_153_ok 9 rfl) (by decide +kernel) ?_
  obtain ⟨r20_, e20, h⟩ := zS_bind h
  refine E_virI (pc := 20) (c := 9) (r := 37) (as := [.inl (0 : Int)]) (rest := []) (zDk zD_153_ok 10 rfl) zc_153 (by decide +kernel) zk_9 ⟨(Nat.le_of_ble_eq_true rfl), rfl, rfl⟩ (Nat.le_of_ble_eq_true rfl) (zr_9 _) (Nat.lt_of_lt_of_le (by decide) hq) (by rw [zm_9]; exact (Nat.le_of_ble_eq_true rfl)) ⟨zc_9, by decide⟩ zis_1_37 (ok_lD_runAll ⟨r20_, e20, ?_⟩)
  have h := zS_some h
  exact E_ireturn (pc := 23) (zDk zD_153_ok 11 rfl) zt_153 h
def zD_154 : List (Nat × Instr × Nat) := [(0, .aload_n (0), 1), (1, .getfield (42), 3), (4, .invokevirtual (253), 3), (7, .aload_n (0), 1), (8, .getfield (42), 3), (11, .getfield (397), 3), (14, .iload_n (1), 1), (15, .iload_n (2), 1), (16, .iastore, 1), (17, .aload_n (0), 1), (18, .getfield (42), 3), (21, .iconst (0), 1), (22, .invokevirtual (259), 3), (25, .ireturn, 1)]
set_option maxRecDepth 100000 in
theorem zD_154_ok : zDo 154 zD_154 = true := by decide +kernel
theorem zc_154 : zcls 154 = 7 := by decide +kernel
theorem zm_154 : zml 154 = 3 := by decide +kernel
theorem zt_154 : zrt 154 = (some (.int)) := by decide +kernel
theorem zk_154 : zkd 154 = 1 ∧ znp 154 + 1 = 3 := by decide +kernel
theorem zr_154 (as : List zV) : zrk 154 as = 4 := by unfold zrk; rw [if_neg (by decide)]; decide +kernel
def lX_signedWithInk (x1 : Int) (x2 : Int) (M : Nat → Nat → Int) : Option (Int × (Nat → Nat → Int)) :=
    ((lD_asNow 37 M).bind (fun M4 =>
    ((wrI 41 x1 x2 M4).bind (fun M16 =>
    ((lD_runAll 37 (0 : Int) M16).bind (fun r22_ =>
    (some (r22_.1, r22_.2))))))))
set_option maxRecDepth 100000 in
theorem ok_lX_signedWithInk {sc : zSc} {x1 : Int} {x2 : Int} {M : Nat → Nat → Int} {P : Int → (Nat → Nat → Int) → Prop} (h : zS (lX_signedWithInk x1 x2 M) (fun r => P r.1 r.2)) : zCi sc 154 [.inr (.inr 0), .inl x1, .inl x2] M P := by
  have ea : zarg (zml 154) [.inr (.inr 0), .inl x1, .inl x2] = [some (.inr (.inr 0)), some (.inl x1), some (.inl x2)] := by rw [zm_154]; rfl
  unfold zCi zCw
  rw [ea, zr_154]
  have hq : 4 ≤ 4 := Nat.le_refl _
  unfold lX_signedWithInk at h
  have h := zS_mono h (fun x hx => (⟨x.1, rfl, hx⟩ : ∃ y, (some (.inl x.1) : Option zV) = some (.inl y) ∧ P y x.2))
  skip
  refine E_aload_n (pc := 0) (zDk zD_154_ok 0 rfl) rfl ?_
  refine E_getR (pc := 1) (ci := 7) (f := 5) (r := 37) (zDk zD_154_ok 1 rfl) zc_154 (by decide +kernel) (by decide) zis_7_0 (by decide +kernel) (by decide) ?_
  obtain ⟨M4, e4, h⟩ := zS_bind h
  refine E_virV (pc := 4) (c := 8) (r := 37) (as := []) (rest := []) (zDk zD_154_ok 2 rfl) zc_154 (by decide +kernel) zk_8 ⟨(Nat.le_of_ble_eq_true rfl), rfl, rfl⟩ (Nat.le_of_ble_eq_true rfl) (zr_8 _) (Nat.lt_of_lt_of_le (by decide) hq) (by rw [zm_8]; exact (Nat.le_of_ble_eq_true rfl)) ⟨zc_8, by decide⟩ zis_1_37 (ok_lD_asNow ⟨M4, e4, ?_⟩)
  refine E_aload_n (pc := 7) (zDk zD_154_ok 3 rfl) rfl ?_
  refine E_getR (pc := 8) (ci := 7) (f := 5) (r := 37) (zDk zD_154_ok 4 rfl) zc_154 (by decide +kernel) (by decide) zis_7_0 (by decide +kernel) (by decide) ?_
  refine E_getR (pc := 11) (ci := 1) (f := 4) (r := 41) (zDk zD_154_ok 5 rfl) zc_154 (by decide +kernel) (by decide) zis_1_37 (by decide +kernel) (by decide) ?_
  refine E_iload_n (pc := 14) (zDk zD_154_ok 6 rfl) rfl ?_
  refine E_iload_n (pc := 15) (zDk zD_154_ok 7 rfl) rfl ?_
  obtain ⟨M16, e16, h⟩ := zS_bind h
  refine E_iastore (pc := 16) (zDk zD_154_ok 8 rfl) e16 ?_
  refine E_aload_n (pc := 17) (zDk zD_154_ok 9 rfl) rfl ?_
  refine E_getR (pc := 18) (ci := 7) (f := 5) (r := 37) (zDk zD_154_ok 10 rfl) zc_154 (by decide +kernel) (by decide) zis_7_0 (by decide +kernel) (by decide) ?_
  refine E_iconst (pc := 21) (zDk zD_154_ok 11 rfl) (by decide +kernel) ?_
  obtain ⟨r22_, e22, h⟩ := zS_bind h
  refine E_virI (pc := 22) (c := 9) (r := 37) (as := [.inl (0 : Int)]) (rest := []) (zDk zD_154_ok 12 rfl) zc_154 (by decide +kernel) zk_9 ⟨(Nat.le_of_ble_eq_true rfl), rfl, rfl⟩ (Nat.le_of_ble_eq_true rfl) (zr_9 _) (Nat.lt_of_lt_of_le (by decide) hq) (by rw [zm_9]; exact (Nat.le_of_ble_eq_true rfl)) ⟨zc_9, by decide⟩ zis_1_37 (ok_lD_runAll ⟨r22_, e22, ?_⟩)
  have h := zS_some h
  exact E_ireturn (pc := 25) (zDk zD_154_ok 13 rfl) zt_154 h
def zD_155 : List (Nat × Instr × Nat) := [(0, .aload_n (0), 1), (1, .getfield (42), 3), (4, .invokevirtual (253), 3), (7, .aload_n (0), 1), (8, .getfield (42), 3), (11, .getfield (400), 3), (14, .iload_n (1), 1), (15, .iload_n (2), 1), (16, .iastore, 1), (17, .aload_n (0), 1), (18, .getfield (42), 3), (21, .iconst (0), 1), (22, .invokevirtual (259), 3), (25, .ireturn, 1)]
set_option maxRecDepth 100000 in
theorem zD_155_ok : zDo 155 zD_155 = true := by decide +kernel
theorem zc_155 : zcls 155 = 7 := by decide +kernel
theorem zm_155 : zml 155 = 3 := by decide +kernel
theorem zt_155 : zrt 155 = (some (.int)) := by decide +kernel
theorem zk_155 : zkd 155 = 1 ∧ znp 155 + 1 = 3 := by decide +kernel
theorem zr_155 (as : List zV) : zrk 155 as = 4 := by unfold zrk; rw [if_neg (by decide)]; decide +kernel
def lX_signedLivingAt (x1 : Int) (x2 : Int) (M : Nat → Nat → Int) : Option (Int × (Nat → Nat → Int)) :=
    ((lD_asNow 37 M).bind (fun M4 =>
    ((wrI 40 x1 x2 M4).bind (fun M16 =>
    ((lD_runAll 37 (0 : Int) M16).bind (fun r22_ =>
    (some (r22_.1, r22_.2))))))))
set_option maxRecDepth 100000 in
theorem ok_lX_signedLivingAt {sc : zSc} {x1 : Int} {x2 : Int} {M : Nat → Nat → Int} {P : Int → (Nat → Nat → Int) → Prop} (h : zS (lX_signedLivingAt x1 x2 M) (fun r => P r.1 r.2)) : zCi sc 155 [.inr (.inr 0), .inl x1, .inl x2] M P := by
  have ea : zarg (zml 155) [.inr (.inr 0), .inl x1, .inl x2] = [some (.inr (.inr 0)), some (.inl x1), some (.inl x2)] := by rw [zm_155]; rfl
  unfold zCi zCw
  rw [ea, zr_155]
  have hq : 4 ≤ 4 := Nat.le_refl _
  unfold lX_signedLivingAt at h
  have h := zS_mono h (fun x hx => (⟨x.1, rfl, hx⟩ : ∃ y, (some (.inl x.1) : Option zV) = some (.inl y) ∧ P y x.2))
  skip
  refine E_aload_n (pc := 0) (zDk zD_155_ok 0 rfl) rfl ?_
  refine E_getR (pc := 1) (ci := 7) (f := 5) (r := 37) (zDk zD_155_ok 1 rfl) zc_155 (by decide +kernel) (by decide) zis_7_0 (by decide +kernel) (by decide) ?_
  obtain ⟨M4, e4, h⟩ := zS_bind h
  refine E_virV (pc := 4) (c := 8) (r := 37) (as := []) (rest := []) (zDk zD_155_ok 2 rfl) zc_155 (by decide +kernel) zk_8 ⟨(Nat.le_of_ble_eq_true rfl), rfl, rfl⟩ (Nat.le_of_ble_eq_true rfl) (zr_8 _) (Nat.lt_of_lt_of_le (by decide) hq) (by rw [zm_8]; exact (Nat.le_of_ble_eq_true rfl)) ⟨zc_8, by decide⟩ zis_1_37 (ok_lD_asNow ⟨M4, e4, ?_⟩)
  refine E_aload_n (pc := 7) (zDk zD_155_ok 3 rfl) rfl ?_
  refine E_getR (pc := 8) (ci := 7) (f := 5) (r := 37) (zDk zD_155_ok 4 rfl) zc_155 (by decide +kernel) (by decide) zis_7_0 (by decide +kernel) (by decide) ?_
  refine E_getR (pc := 11) (ci := 1) (f := 3) (r := 40) (zDk zD_155_ok 5 rfl) zc_155 (by decide +kernel) (by decide) zis_1_37 (by decide +kernel) (by decide) ?_
  refine E_iload_n (pc := 14) (zDk zD_155_ok 6 rfl) rfl ?_
  refine E_iload_n (pc := 15) (zDk zD_155_ok 7 rfl) rfl ?_
  obtain ⟨M16, e16, h⟩ := zS_bind h
  refine E_iastore (pc := 16) (zDk zD_155_ok 8 rfl) e16 ?_
  refine E_aload_n (pc := 17) (zDk zD_155_ok 9 rfl) rfl ?_
  refine E_getR (pc := 18) (ci := 7) (f := 5) (r := 37) (zDk zD_155_ok 10 rfl) zc_155 (by decide +kernel) (by decide) zis_7_0 (by decide +kernel) (by decide) ?_
  refine E_iconst (pc := 21) (zDk zD_155_ok 11 rfl) (by decide +kernel) ?_
  obtain ⟨r22_, e22, h⟩ := zS_bind h
  refine E_virI (pc := 22) (c := 9) (r := 37) (as := [.inl (0 : Int)]) (rest := []) (zDk zD_155_ok 12 rfl) zc_155 (by decide +kernel) zk_9 ⟨(Nat.le_of_ble_eq_true rfl), rfl, rfl⟩ (Nat.le_of_ble_eq_true rfl) (zr_9 _) (Nat.lt_of_lt_of_le (by decide) hq) (by rw [zm_9]; exact (Nat.le_of_ble_eq_true rfl)) ⟨zc_9, by decide⟩ zis_1_37 (ok_lD_runAll ⟨r22_, e22, ?_⟩)
  have h := zS_some h
  exact E_ireturn (pc := 25) (zDk zD_155_ok 13 rfl) zt_155 h
def zD_166 : List (Nat × Instr × Nat) := [(0, .aload_n (0), 1), (1, .getfield (42), 3), (4, .invokevirtual (253), 3), (7, .aload_n (0), 1), (8, .getfield (42), 3), (11, .iload_n (3), 1), (12, .iload_n (1), 1), (13, .ishl, 1), (14, .iload (4), 2), (16, .iload_n (2), 1), (17, .ishl, 1), (18, .ior, 1), (19, .putfield (425), 3), (22, .aload_n (0), 1), (23, .getfield (42), 3), (26, .iconst (0), 1), (27, .invokevirtual (259), 3), (30, .pop, 1), (31, .aload_n (0), 1), (32, .getfield (42), 3), (35, .getfield (174), 3), (38, .aload_n (0), 1), (39, .getfield (19), 3), (42, .getfield (177), 3), (45, .iaload, 1), (46, .aload_n (0), 1), (47, .getfield (19), 3), (50, .iload_n (1), 1), (51, .invokevirtual (180), 3), (54, .iand, 1), (55, .istore (5), 2), (57, .iconst (5), 1), (58, .iload (5), 2), (60, .invokestatic (183), 3), (63, .imul, 1), (64, .aload_n (0), 1), (65, .getfield (42), 3), (68, .iload_n (1), 1), (69, .invokevirtual (156), 3), (72, .isub, 1), (73, .ireturn, 1)]
set_option maxRecDepth 100000 in
theorem zD_166_ok : zDo 166 zD_166 = true := by decide +kernel
theorem zc_166 : zcls 166 = 7 := by decide +kernel
theorem zm_166 : zml 166 = 6 := by decide +kernel
theorem zt_166 : zrt 166 = (some (.int)) := by decide +kernel
theorem zk_166 : zkd 166 = 1 ∧ znp 166 + 1 = 5 := by decide +kernel
theorem zr_166 (as : List zV) : zrk 166 as = 4 := by unfold zrk; rw [if_neg (by decide)]; decide +kernel
def lX_gains (x1 : Int) (x2 : Int) (x3 : Int) (x4 : Int) (M : Nat → Nat → Int) : Option (Int × (Nat → Nat → Int)) :=
    ((lD_asNow 37 M).bind (fun M4 =>
    ((some (zup M4 37 10 (zor (zshl x3 x1) (zshl x4 x2)))).bind (fun M19 =>
    ((lD_runAll 37 (0 : Int) M19).bind (fun r27_ =>
    ((rdI 44 (r27_.2 3 1) r27_.2).bind (fun v45 =>
    ((lT_contractsOf 3 x1 r27_.2).bind (fun v51 =>
    ((lJ_bitCount (zand v45 v51) r27_.2).bind (fun v60 =>
    ((lD_streetsGone 37 x1 r27_.2).bind (fun v69 =>
    (some ((w32 ((w32 ((5 : Int) * v60)) - v69)), r27_.2))))))))))))))))
set_option maxRecDepth 100000 in
theorem ok_lX_gains {sc : zSc} {x1 : Int} {x2 : Int} {x3 : Int} {x4 : Int} {M : Nat → Nat → Int} {P : Int → (Nat → Nat → Int) → Prop} (h : zS (lX_gains x1 x2 x3 x4 M) (fun r => P r.1 r.2)) : zCi sc 166 [.inr (.inr 0), .inl x1, .inl x2, .inl x3, .inl x4] M P := by
  have ea : zarg (zml 166) [.inr (.inr 0), .inl x1, .inl x2, .inl x3, .inl x4] = [some (.inr (.inr 0)), some (.inl x1), some (.inl x2), some (.inl x3), some (.inl x4), none] := by rw [zm_166]; rfl
  unfold zCi zCw
  rw [ea, zr_166]
  have hq : 4 ≤ 4 := Nat.le_refl _
  unfold lX_gains at h
  have h := zS_mono h (fun x hx => (⟨x.1, rfl, hx⟩ : ∃ y, (some (.inl x.1) : Option zV) = some (.inl y) ∧ P y x.2))
  skip
  refine E_aload_n (pc := 0) (zDk zD_166_ok 0 rfl) rfl ?_
  refine E_getR (pc := 1) (ci := 7) (f := 5) (r := 37) (zDk zD_166_ok 1 rfl) zc_166 (by decide +kernel) (by decide) zis_7_0 (by decide +kernel) (by decide) ?_
  obtain ⟨M4, e4, h⟩ := zS_bind h
  refine E_virV (pc := 4) (c := 8) (r := 37) (as := []) (rest := []) (zDk zD_166_ok 2 rfl) zc_166 (by decide +kernel) zk_8 ⟨(Nat.le_of_ble_eq_true rfl), rfl, rfl⟩ (Nat.le_of_ble_eq_true rfl) (zr_8 _) (Nat.lt_of_lt_of_le (by decide) hq) (by rw [zm_8]; exact (Nat.le_of_ble_eq_true rfl)) ⟨zc_8, by decide⟩ zis_1_37 (ok_lD_asNow ⟨M4, e4, ?_⟩)
  refine E_aload_n (pc := 7) (zDk zD_166_ok 3 rfl) rfl ?_
  refine E_getR (pc := 8) (ci := 7) (f := 5) (r := 37) (zDk zD_166_ok 4 rfl) zc_166 (by decide +kernel) (by decide) zis_7_0 (by decide +kernel) (by decide) ?_
  refine E_iload_n (pc := 11) (zDk zD_166_ok 5 rfl) rfl ?_
  refine E_iload_n (pc := 12) (zDk zD_166_ok 6 rfl) rfl ?_
  refine E_ishl (pc := 13) (zDk zD_166_ok 7 rfl) ?_
  refine E_iload (pc := 14) (zDk zD_166_ok 8 rfl) rfl ?_
  refine E_iload_n (pc := 16) (zDk zD_166_ok 9 rfl) rfl ?_
  refine E_ishl (pc := 17) (zDk zD_166_ok 10 rfl) ?_
  refine E_ior (pc := 18) (zDk zD_166_ok 11 rfl) ?_
  obtain ⟨M19, e19, h⟩ := zS_bind h
  refine W_putI (pc := 19) (ci := 1) (f := 10) (zDk zD_166_ok 12 rfl) zc_166 (by decide +kernel) (by decide) zis_1_37 (Option.some.inj e19) ?_
  refine E_aload_n (pc := 22) (zDk zD_166_ok 13 rfl) rfl ?_
  refine E_getR (pc := 23) (ci := 7) (f := 5) (r := 37) (zDk zD_166_ok 14 rfl) zc_166 (by decide +kernel) (by decide) zis_7_0 (by decide +kernel) (by decide) ?_
  refine E_iconst (pc := 26) (zDk zD_166_ok 15 rfl) (by decide +kernel) ?_
  obtain ⟨r27_, e27, h⟩ := zS_bind h
  refine E_virI (pc := 27) (c := 9) (r := 37) (as := [.inl (0 : Int)]) (rest := []) (zDk zD_166_ok 16 rfl) zc_166 (by decide +kernel) zk_9 ⟨(Nat.le_of_ble_eq_true rfl), rfl, rfl⟩ (Nat.le_of_ble_eq_true rfl) (zr_9 _) (Nat.lt_of_lt_of_le (by decide) hq) (by rw [zm_9]; exact (Nat.le_of_ble_eq_true rfl)) ⟨zc_9, by decide⟩ zis_1_37 (ok_lD_runAll ⟨r27_, e27, ?_⟩)
  refine E_pop (pc := 30) (zDk zD_166_ok 17 rfl) rfl ?_
  refine E_aload_n (pc := 31) (zDk zD_166_ok 18 rfl) rfl ?_
  refine E_getR (pc := 32) (ci := 7) (f := 5) (r := 37) (zDk zD_166_ok 19 rfl) zc_166 (by decide +kernel) (by decide) zis_7_0 (by decide +kernel) (by decide) ?_
  refine E_getR (pc := 35) (ci := 1) (f := 7) (r := 44) (zDk zD_166_ok 20 rfl) zc_166 (by decide +kernel) (by decide) zis_1_37 (by decide +kernel) (by decide) ?_
  refine E_aload_n (pc := 38) (zDk zD_166_ok 21 rfl) rfl ?_
  refine E_getR (pc := 39) (ci := 7) (f := 1) (r := 3) (zDk zD_166_ok 22 rfl) zc_166 (by decide +kernel) (by decide) zis_7_0 (by decide +kernel) (by decide) ?_
  refine E_getI (pc := 42) (ci := 6) (f := 1) (zDk zD_166_ok 23 rfl) zc_166 (by decide +kernel) (by decide) zis_6_3 ?_
  obtain ⟨v45, e45, h⟩ := zS_bind h
  refine E_iaload (pc := 45) (zDk zD_166_ok 24 rfl) e45 ?_
  refine E_aload_n (pc := 46) (zDk zD_166_ok 25 rfl) rfl ?_
  refine E_getR (pc := 47) (ci := 7) (f := 1) (r := 3) (zDk zD_166_ok 26 rfl) zc_166 (by decide +kernel) (by decide) zis_7_0 (by decide +kernel) (by decide) ?_
  refine E_iload_n (pc := 50) (zDk zD_166_ok 27 rfl) rfl ?_
  obtain ⟨v51, e51, h⟩ := zS_bind h
  refine E_virI (pc := 51) (c := 75) (r := 3) (as := [.inl x1]) (rest := [.inl v45]) (zDk zD_166_ok 28 rfl) zc_166 (by decide +kernel) zk_75 ⟨(Nat.le_of_ble_eq_true rfl), rfl, rfl⟩ (Nat.le_of_ble_eq_true rfl) (zr_75 _) (Nat.lt_of_lt_of_le (by decide) hq) (by rw [zm_75]; exact (Nat.le_of_ble_eq_true rfl)) ⟨zc_75, by decide⟩ zis_6_3 (ok_lT_contractsOf ⟨v51, e51, ?_⟩)
  refine E_iand (pc := 54) (zDk zD_166_ok 29 rfl) ?_
  refine W_istore (pc := 55) (L' := [some (.inr (.inr 0)), some (.inl x1), some (.inl x2), some (.inl x3), some (.inl x4), some (.inl (zand v45 v51))]) (zDk zD_166_ok 30 rfl) zm_166 (by decide) rfl ?_
  refine E_iconst (pc := 57) (zDk zD_166_ok 31 rfl) (by decide +kernel) ?_
  refine E_iload (pc := 58) (zDk zD_166_ok 32 rfl) rfl ?_
  obtain ⟨v60, e60, h⟩ := zS_bind h
  refine E_staI (pc := 60) (c := 321) (as := [.inl (zand v45 v51)]) (rest := [.inl (5 : Int)]) (zDk zD_166_ok 33 rfl) zc_166 (by decide +kernel) (by decide +kernel) zk_321 ⟨(Nat.le_of_ble_eq_true rfl), rfl, rfl⟩ (Nat.le_of_ble_eq_true rfl) (zr_321 _) (Nat.lt_of_lt_of_le (by decide) hq) (by rw [zm_321]; exact (Nat.le_of_ble_eq_true rfl)) (ok_lJ_bitCount ⟨v60, e60, ?_⟩)
  refine W_imul (pc := 63) (zDk zD_166_ok 34 rfl) ?_
  refine E_aload_n (pc := 64) (zDk zD_166_ok 35 rfl) rfl ?_
  refine E_getR (pc := 65) (ci := 7) (f := 5) (r := 37) (zDk zD_166_ok 36 rfl) zc_166 (by decide +kernel) (by decide) zis_7_0 (by decide +kernel) (by decide) ?_
  refine E_iload_n (pc := 68) (zDk zD_166_ok 37 rfl) rfl ?_
  obtain ⟨v69, e69, h⟩ := zS_bind h
  refine E_virI (pc := 69) (c := 23) (r := 37) (as := [.inl x1]) (rest := [.inl (w32 ((5 : Int) * v60))]) (zDk zD_166_ok 38 rfl) zc_166 (by decide +kernel) zk_23 ⟨(Nat.le_of_ble_eq_true rfl), rfl, rfl⟩ (Nat.le_of_ble_eq_true rfl) (zr_23 _) (Nat.lt_of_lt_of_le (by decide) hq) (by rw [zm_23]; exact (Nat.le_of_ble_eq_true rfl)) ⟨zc_23, by decide⟩ zis_1_37 (ok_lD_streetsGone ⟨v69, e69, ?_⟩)
  refine W_isub (pc := 72) (zDk zD_166_ok 39 rfl) ?_
  have h := zS_some h
  exact E_ireturn (pc := 73) (zDk zD_166_ok 40 rfl) zt_166 h
