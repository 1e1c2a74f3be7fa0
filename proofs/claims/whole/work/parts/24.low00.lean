/-! Lifted methods 0 (written by wip/whole/lift.py): decode rows, functions, proofs. -/
def zD_5 : List (Nat × Instr × Nat) := [(0, .aload_n (0), 1), (1, .getfield (9), 3), (4, .iload_n (1), 1), (5, .iaload, 1), (6, .ifCond .ne (32), 3), (9, .aload_n (0), 1), (10, .getfield (24), 3), (13, .aload_n (0), 1), (14, .getfield (21), 3), (17, .iload_n (1), 1), (18, .iaload, 1), (19, .iconst (5), 1), (20, .imul, 1), (21, .aload_n (0), 1), (22, .getfield (15), 3), (25, .iload_n (1), 1), (26, .iaload, 1), (27, .iadd, 1), (28, .aload_n (0), 1), (29, .getfield (18), 3), (32, .iload_n (1), 1), (33, .iaload, 1), (34, .iastore, 1), (35, .goto (36), 3), (38, .aload_n (0), 1), (39, .aload_n (0), 1), (40, .getfield (44), 3), (43, .iconst (1), 1), (44, .aload_n (0), 1), (45, .getfield (15), 3), (48, .iload_n (1), 1), (49, .iaload, 1), (50, .ishl, 1), (51, .iconst (-1), 1), (52, .ixor, 1), (53, .iand, 1), (54, .aload_n (0), 1), (55, .getfield (18), 3), (58, .iload_n (1), 1), (59, .iaload, 1), (60, .aload_n (0), 1), (61, .getfield (15), 3), (64, .iload_n (1), 1), (65, .iaload, 1), (66, .ishl, 1), (67, .ior, 1), (68, .putfield (44), 3), (71, .return_, 1)]
set_option maxRecDepth 100000 in
theorem zD_5_ok : zDo 5 zD_5 = true := by decide +kernel
theorem zc_5 : zcls 5 = 0 := by decide +kernel
theorem zm_5 : zml 5 = 2 := by decide +kernel
theorem zt_5 : zrt 5 = none := by decide +kernel
theorem zk_5 : zkd 5 = 1 ∧ znp 5 + 1 = 2 := by decide +kernel
theorem zr_5 (as : List zV) : zrk 5 as = 0 := by unfold zrk; rw [if_neg (by decide)]; decide +kernel
def lA_takeEffect (r0 : Nat) (x1 : Int) (M : Nat → Nat → Int) : Option (Nat → Nat → Int) :=
    (if zis 0 r0 = true then
    ((rdI (r0 + 1) x1 M).bind (fun v5 =>
    (if v5 = 0 then
    ((rdI (r0 + 4) x1 M).bind (fun v18 =>
    ((rdI (r0 + 2) x1 M).bind (fun v26 =>
    ((rdI (r0 + 3) x1 M).bind (fun v33 =>
    ((wrI (r0 + 5) (w32 ((w32 (v18 * (5 : Int))) + v26)) v33 M).bind (fun M34 =>
    (some M34)))))))))
    else
    ((rdI (r0 + 2) x1 M).bind (fun v49 =>
    ((rdI (r0 + 3) x1 M).bind (fun v59 =>
    ((rdI (r0 + 2) x1 M).bind (fun v65 =>
    ((some (zup M r0 1 (zor (zand (M r0 1) (zxor (zshl (1 : Int) v49) (-1 : Int))) (zshl v59 v65)))).bind (fun M68 =>
    (some M68))))))))))))
    else none)
set_option maxRecDepth 100000 in
theorem ok_lA_takeEffect {sc : zSc} {r0 : Nat} {x1 : Int} {M : Nat → Nat → Int} {P : (Nat → Nat → Int) → Prop} (h : zS (lA_takeEffect r0 x1 M) P) : zCv sc 5 [.inr (.inr r0), .inl x1] M P := by
  have ea : zarg (zml 5) [.inr (.inr r0), .inl x1] = [some (.inr (.inr r0)), some (.inl x1)] := by rw [zm_5]; rfl
  unfold zCv zCw
  rw [ea, zr_5]
  have hq : 0 ≤ 0 := Nat.le_refl _
  unfold lA_takeEffect at h
  have h := zS_mono h (fun x hx => (⟨rfl, hx⟩ : (none : Option zV) = none ∧ P x))
  obtain ⟨hr0, h⟩ := zS_c h
  skip
  refine E_aload_n (pc := 0) (zDk zD_5_ok 0 rfl) rfl ?_
  refine E_getR (pc := 1) (ci := 0) (f := 2) (r := (r0 + 1)) (zDk zD_5_ok 1 rfl) zc_5 (by decide +kernel) (by decide) hr0 (zg_0_2 hr0) (zh_0_2 hr0) ?_
  refine E_iload_n (pc := 4) (zDk zD_5_ok 2 rfl) rfl ?_
  obtain ⟨v5, e5, h⟩ := zS_bind h
  refine E_iaload (pc := 5) (zDk zD_5_ok 3 rfl) e5 ?_
  refine E_if (pc := 6) (t := 38) (zDk zD_5_ok 4 rfl) rfl (fun hz => ?_) (fun hz => ?_)
  · have h := zS_f h (T_ne hz)
    refine E_aload_n (pc := 38) (zDk zD_5_ok 24 rfl) rfl ?_
    refine E_aload_n (pc := 39) (zDk zD_5_ok 25 rfl) rfl ?_
    refine E_getI (pc := 40) (ci := 0) (f := 1) (zDk zD_5_ok 26 rfl) zc_5 (by decide +kernel) (by decide) hr0 ?_
    refine E_iconst (pc := 43) (zDk zD_5_ok 27 rfl) (by decide +kernel) ?_
    refine E_aload_n (pc := 44) (zDk zD_5_ok 28 rfl) rfl ?_
    refine E_getR (pc := 45) (ci := 0) (f := 3) (r := (r0 + 2)) (zDk zD_5_ok 29 rfl) zc_5 (by decide +kernel) (by decide) hr0 (zg_0_3 hr0) (zh_0_3 hr0) ?_
    refine E_iload_n (pc := 48) (zDk zD_5_ok 30 rfl) rfl ?_
    obtain ⟨v49, e49, h⟩ := zS_bind h
    refine E_iaload (pc := 49) (zDk zD_5_ok 31 rfl) e49 ?_
    refine E_ishl (pc := 50) (zDk zD_5_ok 32 rfl) ?_
    refine E_iconst (pc := 51) (zDk zD_5_ok 33 rfl) (by decide +kernel) ?_
    refine E_ixor (pc := 52) (zDk zD_5_ok 34 rfl) ?_
    refine E_iand (pc := 53) (zDk zD_5_ok 35 rfl) ?_
    refine E_aload_n (pc := 54) (zDk zD_5_ok 36 rfl) rfl ?_
    refine E_getR (pc := 55) (ci := 0) (f := 4) (r := (r0 + 3)) (zDk zD_5_ok 37 rfl) zc_5 (by decide +kernel) (by decide) hr0 (zg_0_4 hr0) (zh_0_4 hr0) ?_
    refine E_iload_n (pc := 58) (zDk zD_5_ok 38 rfl) rfl ?_
    obtain ⟨v59, e59, h⟩ := zS_bind h
    refine E_iaload (pc := 59) (zDk zD_5_ok 39 rfl) e59 ?_
    refine E_aload_n (pc := 60) (zDk zD_5_ok 40 rfl) rfl ?_
    refine E_getR (pc := 61) (ci := 0) (f := 3) (r := (r0 + 2)) (zDk zD_5_ok 41 rfl) zc_5 (by decide +kernel) (by decide) hr0 (zg_0_3 hr0) (zh_0_3 hr0) ?_
    refine E_iload_n (pc := 64) (zDk zD_5_ok 42 rfl) rfl ?_
    obtain ⟨v65, e65, h⟩ := zS_bind h
    refine E_iaload (pc := 65) (zDk zD_5_ok 43 rfl) e65 ?_
    refine E_ishl (pc := 66) (zDk zD_5_ok 44 rfl) ?_
    refine E_ior (pc := 67) (zDk zD_5_ok 45 rfl) ?_
    obtain ⟨M68, e68, h⟩ := zS_bind h
    refine W_putI (pc := 68) (ci := 0) (f := 1) (zDk zD_5_ok 46 rfl) zc_5 (by decide +kernel) (by decide) hr0 (Option.some.inj e68) ?_
    have h := zS_some h
    exact E_return (x := ()) (pc := 71) (zDk zD_5_ok 47 rfl) zt_5 h
  · have h := zS_t h (F_ne hz)
    refine E_aload_n (pc := 9) (zDk zD_5_ok 5 rfl) rfl ?_
    refine E_getR (pc := 10) (ci := 0) (f := 6) (r := (r0 + 5)) (zDk zD_5_ok 6 rfl) zc_5 (by decide +kernel) (by decide) hr0 (zg_0_6 hr0) (zh_0_6 hr0) ?_
    refine E_aload_n (pc := 13) (zDk zD_5_ok 7 rfl) rfl ?_
    refine E_getR (pc := 14) (ci := 0) (f := 5) (r := (r0 + 4)) (zDk zD_5_ok 8 rfl) zc_5 (by decide +kernel) (by decide) hr0 (zg_0_5 hr0) (zh_0_5 hr0) ?_
    refine E_iload_n (pc := 17) (zDk zD_5_ok 9 rfl) rfl ?_
    obtain ⟨v18, e18, h⟩ := zS_bind h
    refine E_iaload (pc := 18) (zDk zD_5_ok 10 rfl) e18 ?_
    refine E_iconst (pc := 19) (zDk zD_5_ok 11 rfl) (by decide +kernel) ?_
    refine W_imul (pc := 20) (zDk zD_5_ok 12 rfl) ?_
    refine E_aload_n (pc := 21) (zDk zD_5_ok 13 rfl) rfl ?_
    refine E_getR (pc := 22) (ci := 0) (f := 3) (r := (r0 + 2)) (zDk zD_5_ok 14 rfl) zc_5 (by decide +kernel) (by decide) hr0 (zg_0_3 hr0) (zh_0_3 hr0) ?_
    refine E_iload_n (pc := 25) (zDk zD_5_ok 15 rfl) rfl ?_
    obtain ⟨v26, e26, h⟩ := zS_bind h
    refine E_iaload (pc := 26) (zDk zD_5_ok 16 rfl) e26 ?_
    refine W_iadd (pc := 27) (zDk zD_5_ok 17 rfl) ?_
    refine E_aload_n (pc := 28) (zDk zD_5_ok 18 rfl) rfl ?_
    refine E_getR (pc := 29) (ci := 0) (f := 4) (r := (r0 + 3)) (zDk zD_5_ok 19 rfl) zc_5 (by decide +kernel) (by decide) hr0 (zg_0_4 hr0) (zh_0_4 hr0) ?_
    refine E_iload_n (pc := 32) (zDk zD_5_ok 20 rfl) rfl ?_
    obtain ⟨v33, e33, h⟩ := zS_bind h
    refine E_iaload (pc := 33) (zDk zD_5_ok 21 rfl) e33 ?_
    obtain ⟨M34, e34, h⟩ := zS_bind h
    refine E_iastore (pc := 34) (zDk zD_5_ok 22 rfl) e34 ?_
    refine E_goto (pc := 35) (t := 71) (zDk zD_5_ok 23 rfl) rfl ?_
    have h := zS_some h
    exact E_return (x := ()) (pc := 71) (zDk zD_5_ok 47 rfl) zt_5 h
def zD_12 : List (Nat × Instr × Nat) := [(0, .aload_n (0), 1), (1, .getfield (72), 3), (4, .iload_n (1), 1), (5, .ishr, 1), (6, .iconst (1), 1), (7, .iand, 1), (8, .ifCond .eq (5), 3), (11, .iconst (-1), 1), (12, .ireturn, 1), (13, .aload_n (0), 1), (14, .getfield (42), 3), (17, .getfield (118), 3), (20, .iload_n (2), 1), (21, .iconst (5), 1), (22, .imul, 1), (23, .iload_n (1), 1), (24, .iadd, 1), (25, .iaload, 1), (26, .istore_n (3), 1), (27, .iload_n (3), 1), (28, .iconst (-1), 1), (29, .if_icmp .eq (5), 3), (32, .iload_n (3), 1), (33, .ireturn, 1), (34, .aload_n (0), 1), (35, .getfield (38), 3), (38, .getfield (121), 3), (41, .iload_n (1), 1), (42, .iaload, 1), (43, .istore (4), 2), (45, .iload (4), 2), (47, .ifCond .gt (7), 3), (50, .iconst (-1), 1), (51, .goto (20), 3), (54, .aload_n (0), 1), (55, .getfield (38), 3), (58, .getfield (124), 3), (61, .iload_n (1), 1), (62, .bipush (8), 2), (64, .imul, 1), (65, .iload_n (2), 1), (66, .iload (4), 2), (68, .irem, 1), (69, .iadd, 1), (70, .iaload, 1), (71, .ireturn, 1)]
set_option maxRecDepth 100000 in
theorem zD_12_ok : zDo 12 zD_12 = true := by decide +kernel
theorem zc_12 : zcls 12 = 1 := by decide +kernel
theorem zm_12 : zml 12 = 5 := by decide +kernel
theorem zt_12 : zrt 12 = (some (.int)) := by decide +kernel
theorem zk_12 : zkd 12 = 1 ∧ znp 12 + 1 = 3 := by decide +kernel
theorem zr_12 (as : List zV) : zrk 12 as = 0 := by unfold zrk; rw [if_neg (by decide)]; decide +kernel
def lD_aimOf (r0 : Nat) (x1 : Int) (x2 : Int) (M : Nat → Nat → Int) : Option Int :=
    (if zis 1 r0 = true then
    (if (zand (zshr (M r0 10) x1) (1 : Int)) = 0 then
    ((rdI 28 (w32 ((w32 (x2 * (5 : Int))) + x1)) M).bind (fun v25 =>
    (if v25 = (-1 : Int) then
    ((rdI 10 x1 M).bind (fun v42 =>
    (if 0 < v42 then
    (if v42 = 0 then none else ((rdI 11 (w32 ((w32 (x1 * (8 : Int))) + (zrem x2 v42))) M).bind (fun v70 =>
    (some v70))))
    else
    (some (-1 : Int)))))
    else
    (some v25))))
    else
    (some (-1 : Int)))
    else none)
set_option maxRecDepth 100000 in
theorem ok_lD_aimOf {sc : zSc} {r0 : Nat} {x1 : Int} {x2 : Int} {M : Nat → Nat → Int} {P : Int → (Nat → Nat → Int) → Prop} (h : zS (lD_aimOf r0 x1 x2 M) (fun x => P x M)) : zCi sc 12 [.inr (.inr r0), .inl x1, .inl x2] M P := by
  have ea : zarg (zml 12) [.inr (.inr r0), .inl x1, .inl x2] = [some (.inr (.inr r0)), some (.inl x1), some (.inl x2), none, none] := by rw [zm_12]; rfl
  unfold zCi zCw
  rw [ea, zr_12]
  have hq : 0 ≤ 0 := Nat.le_refl _
  unfold lD_aimOf at h
  have h := zS_mono h (fun x hx => (⟨x, rfl, hx⟩ : ∃ y, (some (.inl x) : Option zV) = some (.inl y) ∧ P y M))
  obtain ⟨hr0, h⟩ := zS_c h
  skip
  refine E_aload_n (pc := 0) (zDk zD_12_ok 0 rfl) rfl ?_
  refine E_getI (pc := 1) (ci := 1) (f := 10) (zDk zD_12_ok 1 rfl) zc_12 (by decide +kernel) (by decide) hr0 ?_
  refine E_iload_n (pc := 4) (zDk zD_12_ok 2 rfl) rfl ?_
  refine E_ishr (pc := 5) (zDk zD_12_ok 3 rfl) ?_
  refine E_iconst (pc := 6) (zDk zD_12_ok 4 rfl) (by decide +kernel) ?_
  refine E_iand (pc := 7) (zDk zD_12_ok 5 rfl) ?_
  refine E_if (pc := 8) (t := 13) (zDk zD_12_ok 6 rfl) rfl (fun hz => ?_) (fun hz => ?_)
  · have h := zS_t h (T_eq hz)
    refine E_aload_n (pc := 13) (zDk zD_12_ok 9 rfl) rfl ?_
    refine E_getR (pc := 14) (ci := 1) (f := 1) (r := 23) (zDk zD_12_ok 10 rfl) zc_12 (by decide +kernel) (by decide) hr0 (zg_1_1 hr0) (by decide) ?_
    refine E_getR (pc := 17) (ci := 0) (f := 6) (r := 28) (zDk zD_12_ok 11 rfl) zc_12 (by decide +kernel) (by decide) zis_0_23 (by decide +kernel) (by decide) ?_
    refine E_iload_n (pc := 20) (zDk zD_12_ok 12 rfl) rfl ?_
    refine E_iconst (pc := 21) (zDk zD_12_ok 13 rfl) (by decide +kernel) ?_
    refine W_imul (pc := 22) (zDk zD_12_ok 14 rfl) ?_
    refine E_iload_n (pc := 23) (zDk zD_12_ok 15 rfl) rfl ?_
    refine W_iadd (pc := 24) (zDk zD_12_ok 16 rfl) ?_
    obtain ⟨v25, e25, h⟩ := zS_bind h
    refine E_iaload (pc := 25) (zDk zD_12_ok 17 rfl) e25 ?_
    refine W_istore_n (pc := 26) (L' := [some (.inr (.inr r0)), some (.inl x1), some (.inl x2), some (.inl v25), none]) (zDk zD_12_ok 18 rfl) zm_12 (by decide) rfl ?_
    refine E_iload_n (pc := 27) (zDk zD_12_ok 19 rfl) rfl ?_
    refine E_iconst (pc := 28) (zDk zD_12_ok 20 rfl) (by decide +kernel) ?_
    refine E_icmp (pc := 29) (t := 34) (zDk zD_12_ok 21 rfl) rfl (fun hz => ?_) (fun hz => ?_)
    · have h := zS_t h (T_eq hz)
      refine E_aload_n (pc := 34) (zDk zD_12_ok 24 rfl) rfl ?_
      refine E_getR (pc := 35) (ci := 1) (f := 0) (r := 3) (zDk zD_12_ok 25 rfl) zc_12 (by decide +kernel) (by decide) hr0 (zg_1_0 hr0) (by decide) ?_
      refine E_getR (pc := 38) (ci := 6) (f := 15) (r := 10) (zDk zD_12_ok 26 rfl) zc_12 (by decide +kernel) (by decide) zis_6_3 (by decide +kernel) (by decide) ?_
      refine E_iload_n (pc := 41) (zDk zD_12_ok 27 rfl) rfl ?_
      obtain ⟨v42, e42, h⟩ := zS_bind h
      refine E_iaload (pc := 42) (zDk zD_12_ok 28 rfl) e42 ?_
      refine W_istore (pc := 43) (L' := [some (.inr (.inr r0)), some (.inl x1), some (.inl x2), some (.inl v25), some (.inl v42)]) (zDk zD_12_ok 29 rfl) zm_12 (by decide) rfl ?_
      refine E_iload (pc := 45) (zDk zD_12_ok 30 rfl) rfl ?_
      refine E_if (pc := 47) (t := 54) (zDk zD_12_ok 31 rfl) rfl (fun hz => ?_) (fun hz => ?_)
      · have h := zS_t h (T_gt hz)
        refine E_aload_n (pc := 54) (zDk zD_12_ok 34 rfl) rfl ?_
        refine E_getR (pc := 55) (ci := 1) (f := 0) (r := 3) (zDk zD_12_ok 35 rfl) zc_12 (by decide +kernel) (by decide) hr0 (zg_1_0 hr0) (by decide) ?_
        refine E_getR (pc := 58) (ci := 6) (f := 16) (r := 11) (zDk zD_12_ok 36 rfl) zc_12 (by decide +kernel) (by decide) zis_6_3 (by decide +kernel) (by decide) ?_
        refine E_iload_n (pc := 61) (zDk zD_12_ok 37 rfl) rfl ?_
        refine E_bipush (pc := 62) (zDk zD_12_ok 38 rfl) (by decide +kernel) ?_
        refine W_imul (pc := 64) (zDk zD_12_ok 39 rfl) ?_
        refine E_iload_n (pc := 65) (zDk zD_12_ok 40 rfl) rfl ?_
        refine E_iload (pc := 66) (zDk zD_12_ok 41 rfl) rfl ?_
        have hn68 : ¬ (v42 = 0) := fun e => by rw [if_pos e] at h; exact zS_none h
        have h := zS_f h hn68
        refine E_irem (pc := 68) (zDk zD_12_ok 42 rfl) hn68 ?_
        refine W_iadd (pc := 69) (zDk zD_12_ok 43 rfl) ?_
        obtain ⟨v70, e70, h⟩ := zS_bind h
        refine E_iaload (pc := 70) (zDk zD_12_ok 44 rfl) e70 ?_
        have h := zS_some h
        exact E_ireturn (pc := 71) (zDk zD_12_ok 45 rfl) zt_12 h
      · have h := zS_f h (Int.not_lt.mpr (F_gt hz))
        refine E_iconst (pc := 50) (zDk zD_12_ok 32 rfl) (by decide +kernel) ?_
        refine E_goto (pc := 51) (t := 71) (zDk zD_12_ok 33 rfl) rfl ?_
        have h := zS_some h
        exact E_ireturn (pc := 71) (zDk zD_12_ok 45 rfl) zt_12 h
    · have h := zS_f h (F_eq hz)
      refine E_iload_n (pc := 32) (zDk zD_12_ok 22 rfl) rfl ?_
      have h := zS_some h
      exact E_ireturn (pc := 33) (zDk zD_12_ok 23 rfl) zt_12 h
  · have h := zS_f h (F_eq hz)
    refine E_iconst (pc := 11) (zDk zD_12_ok 7 rfl) (by decide +kernel) ?_
    have h := zS_some h
    exact E_ireturn (pc := 12) (zDk zD_12_ok 8 rfl) zt_12 h
def zD_14 : List (Nat × Instr × Nat) := [(0, .aload_n (0), 1), (1, .getfield (38), 3), (4, .getfield (133), 3), (7, .iload_n (1), 1), (8, .iaload, 1), (9, .iload_n (1), 1), (10, .aload_n (0), 1), (11, .getfield (34), 3), (14, .if_icmp .ne (8), 3), (17, .bipush (20), 2), (19, .goto (4), 3), (22, .iconst (0), 1), (23, .iadd, 1), (24, .ireturn, 1)]
set_option maxRecDepth 100000 in
theorem zD_14_ok : zDo 14 zD_14 = true := by decide +kernel
theorem zc_14 : zcls 14 = 1 := by decide +kernel
theorem zm_14 : zml 14 = 2 := by decide +kernel
theorem zt_14 : zrt 14 = (some (.int)) := by decide +kernel
theorem zk_14 : zkd 14 = 1 ∧ znp 14 + 1 = 2 := by decide +kernel
theorem zr_14 (as : List zV) : zrk 14 as = 0 := by unfold zrk; rw [if_neg (by decide)]; decide +kernel
def lD_inkAt (r0 : Nat) (x1 : Int) (M : Nat → Nat → Int) : Option Int :=
    (if zis 1 r0 = true then
    ((rdI 6 x1 M).bind (fun v8 =>
    (if x1 = (M r0 11) then
    (some (w32 (v8 + (20 : Int))))
    else
    (some (w32 (v8 + (0 : Int)))))))
    else none)
set_option maxRecDepth 100000 in
theorem ok_lD_inkAt {sc : zSc} {r0 : Nat} {x1 : Int} {M : Nat → Nat → Int} {P : Int → (Nat → Nat → Int) → Prop} (h : zS (lD_inkAt r0 x1 M) (fun x => P x M)) : zCi sc 14 [.inr (.inr r0), .inl x1] M P := by
  have ea : zarg (zml 14) [.inr (.inr r0), .inl x1] = [some (.inr (.inr r0)), some (.inl x1)] := by rw [zm_14]; rfl
  unfold zCi zCw
  rw [ea, zr_14]
  have hq : 0 ≤ 0 := Nat.le_refl _
  unfold lD_inkAt at h
  have h := zS_mono h (fun x hx => (⟨x, rfl, hx⟩ : ∃ y, (some (.inl x) : Option zV) = some (.inl y) ∧ P y M))
  obtain ⟨hr0, h⟩ := zS_c h
  skip
  refine E_aload_n (pc := 0) (zDk zD_14_ok 0 rfl) rfl ?_
  refine E_getR (pc := 1) (ci := 1) (f := 0) (r := 3) (zDk zD_14_ok 1 rfl) zc_14 (by decide +kernel) (by decide) hr0 (zg_1_0 hr0) (by decide) ?_
  refine E_getR (pc := 4) (ci := 6) (f := 11) (r := 6) (zDk zD_14_ok 2 rfl) zc_14 (by decide +kernel) (by decide) zis_6_3 (by decide +kernel) (by decide) ?_
  refine E_iload_n (pc := 7) (zDk zD_14_ok 3 rfl) rfl ?_
  obtain ⟨v8, e8, h⟩ := zS_bind h
  refine E_iaload (pc := 8) (zDk zD_14_ok 4 rfl) e8 ?_
  refine E_iload_n (pc := 9) (zDk zD_14_ok 5 rfl) rfl ?_
  refine E_aload_n (pc := 10) (zDk zD_14_ok 6 rfl) rfl ?_
  refine E_getI (pc := 11) (ci := 1) (f := 11) (zDk zD_14_ok 7 rfl) zc_14 (by decide +kernel) (by decide) hr0 ?_
  refine E_icmp (pc := 14) (t := 22) (zDk zD_14_ok 8 rfl) rfl (fun hz => ?_) (fun hz => ?_)
  · have h := zS_f h (T_ne hz)
    refine E_iconst (pc := 22) (zDk zD_14_ok 11 rfl) (by decide +kernel) ?_
    refine W_iadd (pc := 23) (zDk zD_14_ok 12 rfl) ?_
    have h := zS_some h
    exact E_ireturn (pc := 24) (zDk zD_14_ok 13 rfl) zt_14 h
  · have h := zS_t h (F_ne hz)
    refine E_bipush (pc := 17) (zDk zD_14_ok 9 rfl) (by decide +kernel) ?_
    refine E_goto (pc := 19) (t := 23) (zDk zD_14_ok 10 rfl) rfl ?_
    refine W_iadd (pc := 23) (zDk zD_14_ok 12 rfl) ?_
    have h := zS_some h
    exact E_ireturn (pc := 24) (zDk zD_14_ok 13 rfl) zt_14 h
def zD_16 : List (Nat × Instr × Nat) := [(0, .aload_n (0), 1), (1, .getfield (63), 3), (4, .tableswitch (34) (1) (3) #[28, 30, 32], 28), (32, .iload_n (1), 1), (33, .ireturn, 1), (34, .iload_n (2), 1), (35, .ireturn, 1), (36, .iload_n (3), 1), (37, .ireturn, 1), (38, .iconst (0), 1), (39, .ireturn, 1)]
set_option maxRecDepth 100000 in
theorem zD_16_ok : zDo 16 zD_16 = true := by decide +kernel
theorem zc_16 : zcls 16 = 1 := by decide +kernel
theorem zm_16 : zml 16 = 4 := by decide +kernel
theorem zt_16 : zrt 16 = (some (.boolean)) := by decide +kernel
theorem zk_16 : zkd 16 = 1 ∧ znp 16 + 1 = 4 := by decide +kernel
theorem zr_16 (as : List zV) : zrk 16 as = 0 := by unfold zrk; rw [if_neg (by decide)]; decide +kernel
def lD_isBarred (r0 : Nat) (x1 : Int) (x2 : Int) (x3 : Int) (M : Nat → Nat → Int) : Option Int :=
    (if zis 1 r0 = true then
    (if (M r0 8) = 1 then
    (if x1 = 0 ∨ x1 = 1 then some x1 else none)
    else
    (if (M r0 8) = 2 then
    (if x2 = 0 ∨ x2 = 1 then some x2 else none)
    else
    (if (M r0 8) = 3 then
    (if x3 = 0 ∨ x3 = 1 then some x3 else none)
    else
    (some (0 : Int)))))
    else none)
set_option maxRecDepth 100000 in
theorem ok_lD_isBarred {sc : zSc} {r0 : Nat} {x1 : Int} {x2 : Int} {x3 : Int} {M : Nat → Nat → Int} {P : Int → (Nat → Nat → Int) → Prop} (h : zS (lD_isBarred r0 x1 x2 x3 M) (fun x => P x M)) : zCi sc 16 [.inr (.inr r0), .inl x1, .inl x2, .inl x3] M P := by
  have ea : zarg (zml 16) [.inr (.inr r0), .inl x1, .inl x2, .inl x3] = [some (.inr (.inr r0)), some (.inl x1), some (.inl x2), some (.inl x3)] := by rw [zm_16]; rfl
  unfold zCi zCw
  rw [ea, zr_16]
  have hq : 0 ≤ 0 := Nat.le_refl _
  unfold lD_isBarred at h
  have h := zS_mono h (fun x hx => (⟨x, rfl, hx⟩ : ∃ y, (some (.inl x) : Option zV) = some (.inl y) ∧ P y M))
  obtain ⟨hr0, h⟩ := zS_c h
  skip
  refine E_aload_n (pc := 0) (zDk zD_16_ok 0 rfl) rfl ?_
  refine E_getI (pc := 1) (ci := 1) (f := 8) (zDk zD_16_ok 1 rfl) zc_16 (by decide +kernel) (by decide) hr0 ?_
  by_cases hk0 : (M r0 8) = 1
  · have h := zS_t h hk0
    refine E_tsw (pc := 4) (o := 28) (t := 32) (zDk zD_16_ok 2 rfl) (by rw [hk0]; decide +kernel) rfl (Or.inr (by rw [hk0]; decide)) ?_
    refine E_iload_n (pc := 32) (zDk zD_16_ok 3 rfl) rfl ?_
    obtain ⟨hx, h⟩ := zS_c h
    have h := zS_some h
    exact E_ireturnZ (pc := 33) (zDk zD_16_ok 4 rfl) zt_16 hx h
  · have h := zS_f h hk0
    by_cases hk1 : (M r0 8) = 2
    · have h := zS_t h hk1
      refine E_tsw (pc := 4) (o := 30) (t := 34) (zDk zD_16_ok 2 rfl) (by rw [hk1]; decide +kernel) rfl (Or.inr (by rw [hk1]; decide)) ?_
      refine E_iload_n (pc := 34) (zDk zD_16_ok 5 rfl) rfl ?_
      obtain ⟨hx, h⟩ := zS_c h
      have h := zS_some h
      exact E_ireturnZ (pc := 35) (zDk zD_16_ok 6 rfl) zt_16 hx h
    · have h := zS_f h hk1
      by_cases hk2 : (M r0 8) = 3
      · have h := zS_t h hk2
        refine E_tsw (pc := 4) (o := 32) (t := 36) (zDk zD_16_ok 2 rfl) (by rw [hk2]; decide +kernel) rfl (Or.inr (by rw [hk2]; decide)) ?_
        refine E_iload_n (pc := 36) (zDk zD_16_ok 7 rfl) rfl ?_
        obtain ⟨hx, h⟩ := zS_c h
        have h := zS_some h
        exact E_ireturnZ (pc := 37) (zDk zD_16_ok 8 rfl) zt_16 hx h
      · have h := zS_f h hk2
        refine E_tsw (pc := 4) (o := 34) (t := 38) (zDk zD_16_ok 2 rfl) (if_pos (by omega)) rfl (Or.inl (by omega)) ?_
        refine E_iconst (pc := 38) (zDk zD_16_ok 9 rfl) (by decide +kernel) ?_
        have h := zS_some h
        exact E_ireturnZ (pc := 39) (zDk zD_16_ok 10 rfl) zt_16 (by decide) h
def zD_17 : List (Nat × Instr × Nat) := [(0, .iconst (0), 1), (1, .istore_n (3), 1), (2, .iload_n (3), 1), (3, .aload_n (0), 1), (4, .getfield (38), 3), (7, .getfield (95), 3), (10, .if_icmp .ge (27), 3), (13, .aload_n (0), 1), (14, .getfield (28), 3), (17, .iload_n (2), 1), (18, .iconst (5), 1), (19, .imul, 1), (20, .iload_n (3), 1), (21, .iadd, 1), (22, .dup2, 1), (23, .iaload, 1), (24, .iload_n (1), 1), (25, .iload_n (3), 1), (26, .ishr, 1), (27, .iconst (1), 1), (28, .iand, 1), (29, .isub, 1), (30, .iastore, 1), (31, .iinc (3) (1), 3), (34, .goto (-32), 3), (37, .return_, 1)]
set_option maxRecDepth 100000 in
theorem zD_17_ok : zDo 17 zD_17 = true := by decide +kernel
theorem zc_17 : zcls 17 = 1 := by decide +kernel
theorem zm_17 : zml 17 = 4 := by decide +kernel
theorem zt_17 : zrt 17 = none := by decide +kernel
theorem zk_17 : zkd 17 = 1 ∧ znp 17 + 1 = 3 := by decide +kernel
theorem zr_17 (as : List zV) : zrk 17 as = 0 := by unfold zrk; rw [if_neg (by decide)]; decide +kernel
def lD_payInk_c2 (r0 : Nat) (x1 : Int) (x2 : Int) : Nat → Int → (Nat → Nat → Int) → Option (Nat → Nat → Int)
  | 0, _, _ => none
  | n + 1, y3, M =>
    (if y3 < (M 3 7) then
    ((rdI (r0 + 6) (w32 ((w32 (x2 * (5 : Int))) + y3)) M).bind (fun v23 =>
    ((wrI (r0 + 6) (w32 ((w32 (x2 * (5 : Int))) + y3)) (w32 (v23 - (zand (zshr x1 y3) (1 : Int)))) M).bind (fun M30 =>
    ((lD_payInk_c2 r0 x1 x2 n) (w32 (y3 + 1)) M30)))))
    else
    (some M))
set_option maxRecDepth 100000 in
theorem ok_lD_payInk_c2 {sc : zSc} {q : Nat} {P : Option zV → (Nat → Nat → Int) → Prop} (hq : 0 ≤ q) (r0 : Nat) (x1 : Int) (x2 : Int) (hr0 : zis 1 r0 = true) : ∀ (n : Nat) (y3 : Int) (M : Nat → Nat → Int), zS (lD_payInk_c2 r0 x1 x2 n y3 M) (fun M0 => P none M0) → zWp sc q 17 2 [some (.inr (.inr r0)), some (.inl x1), some (.inl x2), some (.inl y3)] [] M P := by
  intro n
  induction n with
  | zero => intro y3 M h; exact (zS_none h).elim
  | succ n ih =>
    intro y3 M h
    rw [lD_payInk_c2] at h
    refine E_iload_n (pc := 2) (zDk zD_17_ok 2 rfl) rfl ?_
    refine E_aload_n (pc := 3) (zDk zD_17_ok 3 rfl) rfl ?_
    refine E_getR (pc := 4) (ci := 1) (f := 0) (r := 3) (zDk zD_17_ok 4 rfl) zc_17 (by decide +kernel) (by decide) hr0 (zg_1_0 hr0) (by decide) ?_
    refine E_getI (pc := 7) (ci := 6) (f := 7) (zDk zD_17_ok 5 rfl) zc_17 (by decide +kernel) (by decide) zis_6_3 ?_
    refine E_icmp (pc := 10) (t := 37) (zDk zD_17_ok 6 rfl) rfl (fun hz => ?_) (fun hz => ?_)
    · have h := zS_f h (Int.not_lt.mpr (T_ge hz))
      have h := zS_some h
      exact E_return (x := ()) (pc := 37) (zDk zD_17_ok 25 rfl) zt_17 h
    · have h := zS_t h (F_ge hz)
      refine E_aload_n (pc := 13) (zDk zD_17_ok 7 rfl) rfl ?_
      refine E_getR (pc := 14) (ci := 1) (f := 6) (r := (r0 + 6)) (zDk zD_17_ok 8 rfl) zc_17 (by decide +kernel) (by decide) hr0 (zg_1_6 hr0) (zh_1_6 hr0) ?_
      refine E_iload_n (pc := 17) (zDk zD_17_ok 9 rfl) rfl ?_
      refine E_iconst (pc := 18) (zDk zD_17_ok 10 rfl) (by decide +kernel) ?_
      refine W_imul (pc := 19) (zDk zD_17_ok 11 rfl) ?_
      refine E_iload_n (pc := 20) (zDk zD_17_ok 12 rfl) rfl ?_
      refine W_iadd (pc := 21) (zDk zD_17_ok 13 rfl) ?_
      refine E_dup2 (pc := 22) (zDk zD_17_ok 14 rfl) rfl rfl ?_
      obtain ⟨v23, e23, h⟩ := zS_bind h
      refine E_iaload (pc := 23) (zDk zD_17_ok 15 rfl) e23 ?_
      refine E_iload_n (pc := 24) (zDk zD_17_ok 16 rfl) rfl ?_
      refine E_iload_n (pc := 25) (zDk zD_17_ok 17 rfl) rfl ?_
      refine E_ishr (pc := 26) (zDk zD_17_ok 18 rfl) ?_
      refine E_iconst (pc := 27) (zDk zD_17_ok 19 rfl) (by decide +kernel) ?_
      refine E_iand (pc := 28) (zDk zD_17_ok 20 rfl) ?_
      refine W_isub (pc := 29) (zDk zD_17_ok 21 rfl) ?_
      obtain ⟨M30, e30, h⟩ := zS_bind h
      refine E_iastore (pc := 30) (zDk zD_17_ok 22 rfl) e30 ?_
      refine W_iinc (pc := 31) (L' := [some (.inr (.inr r0)), some (.inl x1), some (.inl x2), some (.inl (w32 (y3 + 1)))]) (zDk zD_17_ok 23 rfl) rfl zm_17 (by decide) rfl ?_
      refine E_goto (pc := 34) (t := 2) (zDk zD_17_ok 24 rfl) rfl ?_
      exact (ih) (w32 (y3 + 1)) M30 h
def lD_payInk (r0 : Nat) (x1 : Int) (x2 : Int) (M : Nat → Nat → Int) : Option (Nat → Nat → Int) :=
    (if zis 1 r0 = true then
    (lD_payInk_c2 r0 x1 x2 zN (0 : Int) M)
    else none)
set_option maxRecDepth 100000 in
theorem ok_lD_payInk {sc : zSc} {r0 : Nat} {x1 : Int} {x2 : Int} {M : Nat → Nat → Int} {P : (Nat → Nat → Int) → Prop} (h : zS (lD_payInk r0 x1 x2 M) P) : zCv sc 17 [.inr (.inr r0), .inl x1, .inl x2] M P := by
  have ea : zarg (zml 17) [.inr (.inr r0), .inl x1, .inl x2] = [some (.inr (.inr r0)), some (.inl x1), some (.inl x2), none] := by rw [zm_17]; rfl
  unfold zCv zCw
  rw [ea, zr_17]
  have hq : 0 ≤ 0 := Nat.le_refl _
  unfold lD_payInk at h
  have h := zS_mono h (fun x hx => (⟨rfl, hx⟩ : (none : Option zV) = none ∧ P x))
  obtain ⟨hr0, h⟩ := zS_c h
  skip
  refine E_iconst (pc := 0) (zDk zD_17_ok 0 rfl) (by decide +kernel) ?_
  refine W_istore_n (pc := 1) (L' := [some (.inr (.inr r0)), some (.inl x1), some (.inl x2), some (.inl (0 : Int))]) (zDk zD_17_ok 1 rfl) zm_17 (by decide) rfl ?_
  exact ok_lD_payInk_c2 hq r0 x1 x2 hr0 zN (0 : Int) M h
def zD_18 : List (Nat × Instr × Nat) := [(0, .iconst (-1), 1), (1, .istore_n (3), 1), (2, .iconst (0), 1), (3, .istore (4), 2), (5, .iload (4), 2), (7, .aload_n (0), 1), (8, .getfield (38), 3), (11, .getfield (95), 3), (14, .if_icmp .ge (50), 3), (17, .iload_n (1), 1), (18, .iload (4), 2), (20, .ishr, 1), (21, .iconst (1), 1), (22, .iand, 1), (23, .ifCond .ne (6), 3), (26, .goto (32), 3), (29, .aload_n (0), 1), (30, .getfield (25), 3), (33, .iload_n (2), 1), (34, .iconst (5), 1), (35, .imul, 1), (36, .iload (4), 2), (38, .iadd, 1), (39, .iaload, 1), (40, .istore (5), 2), (42, .iload_n (3), 1), (43, .iconst (-1), 1), (44, .if_icmp .eq (11), 3), (47, .iload_n (3), 1), (48, .iload (5), 2), (50, .if_icmp .eq (5), 3), (53, .iconst (-1), 1), (54, .ireturn, 1), (55, .iload (5), 2), (57, .istore_n (3), 1), (58, .iinc (4) (1), 3), (61, .goto (-56), 3), (64, .iload_n (3), 1), (65, .ireturn, 1)]
set_option maxRecDepth 100000 in
theorem zD_18_ok : zDo 18 zD_18 = true := by decide +kernel
theorem zc_18 : zcls 18 = 1 := by decide +kernel
theorem zm_18 : zml 18 = 6 := by decide +kernel
theorem zt_18 : zrt 18 = (some (.int)) := by decide +kernel
theorem zk_18 : zkd 18 = 1 ∧ znp 18 + 1 = 3 := by decide +kernel
theorem zr_18 (as : List zV) : zrk 18 as = 0 := by unfold zrk; rw [if_neg (by decide)]; decide +kernel
def lD_cornerOfAll_c5 (r0 : Nat) (x1 : Int) (x2 : Int) (M : Nat → Nat → Int) : Nat → Int → Int → Option Int
  | 0, _, _ => none
  | n + 1, y3, y4 =>
    (if y4 < (M 3 7) then
    (if (zand (zshr x1 y4) (1 : Int)) = 0 then
    ((lD_cornerOfAll_c5 r0 x1 x2 M n) y3 (w32 (y4 + 1)))
    else
    ((rdI (r0 + 5) (w32 ((w32 (x2 * (5 : Int))) + y4)) M).bind (fun v39 =>
    (if y3 = (-1 : Int) then
    ((lD_cornerOfAll_c5 r0 x1 x2 M n) v39 (w32 (y4 + 1)))
    else
    (if y3 = v39 then
    ((lD_cornerOfAll_c5 r0 x1 x2 M n) v39 (w32 (y4 + 1)))
    else
    (some (-1 : Int)))))))
    else
    (some y3))
set_option maxRecDepth 100000 in
theorem ok_lD_cornerOfAll_c5 {sc : zSc} {q : Nat} {P : Option zV → (Nat → Nat → Int) → Prop} (hq : 0 ≤ q) (r0 : Nat) (x1 : Int) (x2 : Int) (hr0 : zis 1 r0 = true) (M : Nat → Nat → Int) : ∀ (n : Nat) (y3 : Int) (y4 : Int) (d5 : Option zV), zS (lD_cornerOfAll_c5 r0 x1 x2 M n y3 y4) (fun x => P (some (.inl x)) M) → zWp sc q 18 5 [some (.inr (.inr r0)), some (.inl x1), some (.inl x2), some (.inl y3), some (.inl y4), d5] [] M P := by
  intro n
  induction n with
  | zero => intro y3 y4 d5 h; exact (zS_none h).elim
  | succ n ih =>
    intro y3 y4 d5 h
    rw [lD_cornerOfAll_c5] at h
    refine E_iload (pc := 5) (zDk zD_18_ok 4 rfl) rfl ?_
    refine E_aload_n (pc := 7) (zDk zD_18_ok 5 rfl) rfl ?_
    refine E_getR (pc := 8) (ci := 1) (f := 0) (r := 3) (zDk zD_18_ok 6 rfl) zc_18 (by decide +kernel) (by decide) hr0 (zg_1_0 hr0) (by decide) ?_
    refine E_getI (pc := 11) (ci := 6) (f := 7) (zDk zD_18_ok 7 rfl) zc_18 (by decide +kernel) (by decide) zis_6_3 ?_
    refine E_icmp (pc := 14) (t := 64) (zDk zD_18_ok 8 rfl) rfl (fun hz => ?_) (fun hz => ?_)
    · have h := zS_f h (Int.not_lt.mpr (T_ge hz))
      refine E_iload_n (pc := 64) (zDk zD_18_ok 37 rfl) rfl ?_
      have h := zS_some h
      exact E_ireturn (pc := 65) (zDk zD_18_ok 38 rfl) zt_18 h
    · have h := zS_t h (F_ge hz)
      refine E_iload_n (pc := 17) (zDk zD_18_ok 9 rfl) rfl ?_
      refine E_iload (pc := 18) (zDk zD_18_ok 10 rfl) rfl ?_
      refine E_ishr (pc := 20) (zDk zD_18_ok 11 rfl) ?_
      refine E_iconst (pc := 21) (zDk zD_18_ok 12 rfl) (by decide +kernel) ?_
      refine E_iand (pc := 22) (zDk zD_18_ok 13 rfl) ?_
      refine E_if (pc := 23) (t := 29) (zDk zD_18_ok 14 rfl) rfl (fun hz => ?_) (fun hz => ?_)
      · have h := zS_f h (T_ne hz)
        refine E_aload_n (pc := 29) (zDk zD_18_ok 16 rfl) rfl ?_
        refine E_getR (pc := 30) (ci := 1) (f := 5) (r := (r0 + 5)) (zDk zD_18_ok 17 rfl) zc_18 (by decide +kernel) (by decide) hr0 (zg_1_5 hr0) (zh_1_5 hr0) ?_
        refine E_iload_n (pc := 33) (zDk zD_18_ok 18 rfl) rfl ?_
        refine E_iconst (pc := 34) (zDk zD_18_ok 19 rfl) (by decide +kernel) ?_
        refine W_imul (pc := 35) (zDk zD_18_ok 20 rfl) ?_
        refine E_iload (pc := 36) (zDk zD_18_ok 21 rfl) rfl ?_
        refine W_iadd (pc := 38) (zDk zD_18_ok 22 rfl) ?_
        obtain ⟨v39, e39, h⟩ := zS_bind h
        refine E_iaload (pc := 39) (zDk zD_18_ok 23 rfl) e39 ?_
        refine W_istore (pc := 40) (L' := [some (.inr (.inr r0)), some (.inl x1), some (.inl x2), some (.inl y3), some (.inl y4), some (.inl v39)]) (zDk zD_18_ok 24 rfl) zm_18 (by decide) rfl ?_
        refine E_iload_n (pc := 42) (zDk zD_18_ok 25 rfl) rfl ?_
        refine E_iconst (pc := 43) (zDk zD_18_ok 26 rfl) (by decide +kernel) ?_
        refine E_icmp (pc := 44) (t := 55) (zDk zD_18_ok 27 rfl) rfl (fun hz => ?_) (fun hz => ?_)
        · have h := zS_t h (T_eq hz)
          refine E_iload (pc := 55) (zDk zD_18_ok 33 rfl) rfl ?_
          refine W_istore_n (pc := 57) (L' := [some (.inr (.inr r0)), some (.inl x1), some (.inl x2), some (.inl v39), some (.inl y4), some (.inl v39)]) (zDk zD_18_ok 34 rfl) zm_18 (by decide) rfl ?_
          refine W_iinc (pc := 58) (L' := [some (.inr (.inr r0)), some (.inl x1), some (.inl x2), some (.inl v39), some (.inl (w32 (y4 + 1))), some (.inl v39)]) (zDk zD_18_ok 35 rfl) rfl zm_18 (by decide) rfl ?_
          refine E_goto (pc := 61) (t := 5) (zDk zD_18_ok 36 rfl) rfl ?_
          exact (ih) v39 (w32 (y4 + 1)) (some (.inl v39)) h
        · have h := zS_f h (F_eq hz)
          refine E_iload_n (pc := 47) (zDk zD_18_ok 28 rfl) rfl ?_
          refine E_iload (pc := 48) (zDk zD_18_ok 29 rfl) rfl ?_
          refine E_icmp (pc := 50) (t := 55) (zDk zD_18_ok 30 rfl) rfl (fun hz => ?_) (fun hz => ?_)
          · have h := zS_t h (T_eq hz)
            refine E_iload (pc := 55) (zDk zD_18_ok 33 rfl) rfl ?_
            refine W_istore_n (pc := 57) (L' := [some (.inr (.inr r0)), some (.inl x1), some (.inl x2), some (.inl v39), some (.inl y4), some (.inl v39)]) (zDk zD_18_ok 34 rfl) zm_18 (by decide) rfl ?_
            refine W_iinc (pc := 58) (L' := [some (.inr (.inr r0)), some (.inl x1), some (.inl x2), some (.inl v39), some (.inl (w32 (y4 + 1))), some (.inl v39)]) (zDk zD_18_ok 35 rfl) rfl zm_18 (by decide) rfl ?_
            refine E_goto (pc := 61) (t := 5) (zDk zD_18_ok 36 rfl) rfl ?_
            exact (ih) v39 (w32 (y4 + 1)) (some (.inl v39)) h
          · have h := zS_f h (F_eq hz)
            refine E_iconst (pc := 53) (zDk zD_18_ok 31 rfl) (by decide +kernel) ?_
            have h := zS_some h
            exact E_ireturn (pc := 54) (zDk zD_18_ok 32 rfl) zt_18 h
      · have h := zS_t h (F_ne hz)
        refine E_goto (pc := 26) (t := 58) (zDk zD_18_ok 15 rfl) rfl ?_
        refine W_iinc (pc := 58) (L' := [some (.inr (.inr r0)), some (.inl x1), some (.inl x2), some (.inl y3), some (.inl (w32 (y4 + 1))), d5]) (zDk zD_18_ok 35 rfl) rfl zm_18 (by decide) rfl ?_
        refine E_goto (pc := 61) (t := 5) (zDk zD_18_ok 36 rfl) rfl ?_
        exact (ih) y3 (w32 (y4 + 1)) d5 h
def lD_cornerOfAll (r0 : Nat) (x1 : Int) (x2 : Int) (M : Nat → Nat → Int) : Option Int :=
    (if zis 1 r0 = true then
    (lD_cornerOfAll_c5 r0 x1 x2 M zN (-1 : Int) (0 : Int))
    else none)
set_option maxRecDepth 100000 in
theorem ok_lD_cornerOfAll {sc : zSc} {r0 : Nat} {x1 : Int} {x2 : Int} {M : Nat → Nat → Int} {P : Int → (Nat → Nat → Int) → Prop} (h : zS (lD_cornerOfAll r0 x1 x2 M) (fun x => P x M)) : zCi sc 18 [.inr (.inr r0), .inl x1, .inl x2] M P := by
  have ea : zarg (zml 18) [.inr (.inr r0), .inl x1, .inl x2] = [some (.inr (.inr r0)), some (.inl x1), some (.inl x2), none, none, none] := by rw [zm_18]; rfl
  unfold zCi zCw
  rw [ea, zr_18]
  have hq : 0 ≤ 0 := Nat.le_refl _
  unfold lD_cornerOfAll at h
  have h := zS_mono h (fun x hx => (⟨x, rfl, hx⟩ : ∃ y, (some (.inl x) : Option zV) = some (.inl y) ∧ P y M))
  obtain ⟨hr0, h⟩ := zS_c h
  skip
  refine E_iconst (pc := 0) (zDk zD_18_ok 0 rfl) (by decide +kernel) ?_
  refine W_istore_n (pc := 1) (L' := [some (.inr (.inr r0)), some (.inl x1), some (.inl x2), some (.inl (-1 : Int)), none, none]) (zDk zD_18_ok 1 rfl) zm_18 (by decide) rfl ?_
  refine E_iconst (pc := 2) (zDk zD_18_ok 2 rfl) (by decide +kernel) ?_
  refine W_istore (pc := 3) (L' := [some (.inr (.inr r0)), some (.inl x1), some (.inl x2), some (.inl (-1 : Int)), some (.inl (0 : Int)), none]) (zDk zD_18_ok 3 rfl) zm_18 (by decide) rfl ?_
  exact ok_lD_cornerOfAll_c5 hq r0 x1 x2 hr0 M zN (-1 : Int) (0 : Int) none h
def zD_19 : List (Nat × Instr × Nat) := [(0, .iconst (0), 1), (1, .istore_n (2), 1), (2, .iconst (0), 1), (3, .istore_n (3), 1), (4, .iload_n (3), 1), (5, .aload_n (0), 1), (6, .getfield (38), 3), (9, .getfield (95), 3), (12, .if_icmp .ge (28), 3), (15, .aload_n (0), 1), (16, .getfield (28), 3), (19, .iload_n (1), 1), (20, .iconst (5), 1), (21, .imul, 1), (22, .iload_n (3), 1), (23, .iadd, 1), (24, .iaload, 1), (25, .ifCond .le (9), 3), (28, .iload_n (2), 1), (29, .iconst (1), 1), (30, .iload_n (3), 1), (31, .ishl, 1), (32, .ior, 1), (33, .istore_n (2), 1), (34, .iinc (3) (1), 3), (37, .goto (-33), 3), (40, .iload_n (2), 1), (41, .ireturn, 1)]
set_option maxRecDepth 100000 in
theorem zD_19_ok : zDo 19 zD_19 = true := by decide +kernel
theorem zc_19 : zcls 19 = 1 := by decide +kernel
theorem zm_19 : zml 19 = 4 := by decide +kernel
theorem zt_19 : zrt 19 = (some (.int)) := by decide +kernel
theorem zk_19 : zkd 19 = 1 ∧ znp 19 + 1 = 2 := by decide +kernel
theorem zr_19 (as : List zV) : zrk 19 as = 0 := by unfold zrk; rw [if_neg (by decide)]; decide +kernel
def lD_namesAwake_c4 (r0 : Nat) (x1 : Int) (M : Nat → Nat → Int) : Nat → Int → Int → Option Int
  | 0, _, _ => none
  | n + 1, y2, y3 =>
    (if y3 < (M 3 7) then
    ((rdI (r0 + 6) (w32 ((w32 (x1 * (5 : Int))) + y3)) M).bind (fun v24 =>
    (if 0 < v24 then
    ((lD_namesAwake_c4 r0 x1 M n) (zor y2 (zshl (1 : Int) y3)) (w32 (y3 + 1)))
    else
    ((lD_namesAwake_c4 r0 x1 M n) y2 (w32 (y3 + 1))))))
    else
    (some y2))
set_option maxRecDepth 100000 in
theorem ok_lD_namesAwake_c4 {sc : zSc} {q : Nat} {P : Option zV → (Nat → Nat → Int) → Prop} (hq : 0 ≤ q) (r0 : Nat) (x1 : Int) (hr0 : zis 1 r0 = true) (M : Nat → Nat → Int) : ∀ (n : Nat) (y2 : Int) (y3 : Int), zS (lD_namesAwake_c4 r0 x1 M n y2 y3) (fun x => P (some (.inl x)) M) → zWp sc q 19 4 [some (.inr (.inr r0)), some (.inl x1), some (.inl y2), some (.inl y3)] [] M P := by
  intro n
  induction n with
  | zero => intro y2 y3 h; exact (zS_none h).elim
  | succ n ih =>
    intro y2 y3 h
    rw [lD_namesAwake_c4] at h
    refine E_iload_n (pc := 4) (zDk zD_19_ok 4 rfl) rfl ?_
    refine E_aload_n (pc := 5) (zDk zD_19_ok 5 rfl) rfl ?_
    refine E_getR (pc := 6) (ci := 1) (f := 0) (r := 3) (zDk zD_19_ok 6 rfl) zc_19 (by decide +kernel) (by decide) hr0 (zg_1_0 hr0) (by decide) ?_
    refine E_getI (pc := 9) (ci := 6) (f := 7) (zDk zD_19_ok 7 rfl) zc_19 (by decide +kernel) (by decide) zis_6_3 ?_
    refine E_icmp (pc := 12) (t := 40) (zDk zD_19_ok 8 rfl) rfl (fun hz => ?_) (fun hz => ?_)
    · have h := zS_f h (Int.not_lt.mpr (T_ge hz))
      refine E_iload_n (pc := 40) (zDk zD_19_ok 26 rfl) rfl ?_
      have h := zS_some h
      exact E_ireturn (pc := 41) (zDk zD_19_ok 27 rfl) zt_19 h
    · have h := zS_t h (F_ge hz)
      refine E_aload_n (pc := 15) (zDk zD_19_ok 9 rfl) rfl ?_
      refine E_getR (pc := 16) (ci := 1) (f := 6) (r := (r0 + 6)) (zDk zD_19_ok 10 rfl) zc_19 (by decide +kernel) (by decide) hr0 (zg_1_6 hr0) (zh_1_6 hr0) ?_
      refine E_iload_n (pc := 19) (zDk zD_19_ok 11 rfl) rfl ?_
      refine E_iconst (pc := 20) (zDk zD_19_ok 12 rfl) (by decide +kernel) ?_
      refine W_imul (pc := 21) (zDk zD_19_ok 13 rfl) ?_
      refine E_iload_n (pc := 22) (zDk zD_19_ok 14 rfl) rfl ?_
      refine W_iadd (pc := 23) (zDk zD_19_ok 15 rfl) ?_
      obtain ⟨v24, e24, h⟩ := zS_bind h
      refine E_iaload (pc := 24) (zDk zD_19_ok 16 rfl) e24 ?_
      refine E_if (pc := 25) (t := 34) (zDk zD_19_ok 17 rfl) rfl (fun hz => ?_) (fun hz => ?_)
      · have h := zS_f h (Int.not_lt.mpr (T_le hz))
        refine W_iinc (pc := 34) (L' := [some (.inr (.inr r0)), some (.inl x1), some (.inl y2), some (.inl (w32 (y3 + 1)))]) (zDk zD_19_ok 24 rfl) rfl zm_19 (by decide) rfl ?_
        refine E_goto (pc := 37) (t := 4) (zDk zD_19_ok 25 rfl) rfl ?_
        exact (ih) y2 (w32 (y3 + 1)) h
      · have h := zS_t h (F_le hz)
        refine E_iload_n (pc := 28) (zDk zD_19_ok 18 rfl) rfl ?_
        refine E_iconst (pc := 29) (zDk zD_19_ok 19 rfl) (by decide +kernel) ?_
        refine E_iload_n (pc := 30) (zDk zD_19_ok 20 rfl) rfl ?_
        refine E_ishl (pc := 31) (zDk zD_19_ok 21 rfl) ?_
        refine E_ior (pc := 32) (zDk zD_19_ok 22 rfl) ?_
        refine W_istore_n (pc := 33) (L' := [some (.inr (.inr r0)), some (.inl x1), some (.inl (zor y2 (zshl (1 : Int) y3))), some (.inl y3)]) (zDk zD_19_ok 23 rfl) zm_19 (by decide) rfl ?_
        refine W_iinc (pc := 34) (L' := [some (.inr (.inr r0)), some (.inl x1), some (.inl (zor y2 (zshl (1 : Int) y3))), some (.inl (w32 (y3 + 1)))]) (zDk zD_19_ok 24 rfl) rfl zm_19 (by decide) rfl ?_
        refine E_goto (pc := 37) (t := 4) (zDk zD_19_ok 25 rfl) rfl ?_
        exact (ih) (zor y2 (zshl (1 : Int) y3)) (w32 (y3 + 1)) h
def lD_namesAwake (r0 : Nat) (x1 : Int) (M : Nat → Nat → Int) : Option Int :=
    (if zis 1 r0 = true then
    (lD_namesAwake_c4 r0 x1 M zN (0 : Int) (0 : Int))
    else none)
set_option maxRecDepth 100000 in
theorem ok_lD_namesAwake {sc : zSc} {r0 : Nat} {x1 : Int} {M : Nat → Nat → Int} {P : Int → (Nat → Nat → Int) → Prop} (h : zS (lD_namesAwake r0 x1 M) (fun x => P x M)) : zCi sc 19 [.inr (.inr r0), .inl x1] M P := by
  have ea : zarg (zml 19) [.inr (.inr r0), .inl x1] = [some (.inr (.inr r0)), some (.inl x1), none, none] := by rw [zm_19]; rfl
  unfold zCi zCw
  rw [ea, zr_19]
  have hq : 0 ≤ 0 := Nat.le_refl _
  unfold lD_namesAwake at h
  have h := zS_mono h (fun x hx => (⟨x, rfl, hx⟩ : ∃ y, (some (.inl x) : Option zV) = some (.inl y) ∧ P y M))
  obtain ⟨hr0, h⟩ := zS_c h
  skip
  refine E_iconst (pc := 0) (zDk zD_19_ok 0 rfl) (by decide +kernel) ?_
  refine W_istore_n (pc := 1) (L' := [some (.inr (.inr r0)), some (.inl x1), some (.inl (0 : Int)), none]) (zDk zD_19_ok 1 rfl) zm_19 (by decide) rfl ?_
  refine E_iconst (pc := 2) (zDk zD_19_ok 2 rfl) (by decide +kernel) ?_
  refine W_istore_n (pc := 3) (L' := [some (.inr (.inr r0)), some (.inl x1), some (.inl (0 : Int)), some (.inl (0 : Int))]) (zDk zD_19_ok 3 rfl) zm_19 (by decide) rfl ?_
  exact ok_lD_namesAwake_c4 hq r0 x1 hr0 M zN (0 : Int) (0 : Int) h
def zD_20 : List (Nat × Instr × Nat) := [(0, .iconst (0), 1), (1, .istore_n (3), 1), (2, .iconst (0), 1), (3, .istore (4), 2), (5, .iload (4), 2), (7, .aload_n (0), 1), (8, .getfield (38), 3), (11, .getfield (95), 3), (14, .if_icmp .ge (31), 3), (17, .aload_n (0), 1), (18, .getfield (25), 3), (21, .iload_n (2), 1), (22, .iconst (5), 1), (23, .imul, 1), (24, .iload (4), 2), (26, .iadd, 1), (27, .iaload, 1), (28, .iload_n (1), 1), (29, .if_icmp .ne (10), 3), (32, .iload_n (3), 1), (33, .iconst (1), 1), (34, .iload (4), 2), (36, .ishl, 1), (37, .ior, 1), (38, .istore_n (3), 1), (39, .iinc (4) (1), 3), (42, .goto (-37), 3), (45, .iload_n (3), 1), (46, .ireturn, 1)]
set_option maxRecDepth 100000 in
theorem zD_20_ok : zDo 20 zD_20 = true := by decide +kernel
theorem zc_20 : zcls 20 = 1 := by decide +kernel
theorem zm_20 : zml 20 = 5 := by decide +kernel
theorem zt_20 : zrt 20 = (some (.int)) := by decide +kernel
theorem zk_20 : zkd 20 = 1 ∧ znp 20 + 1 = 3 := by decide +kernel
theorem zr_20 (as : List zV) : zrk 20 as = 0 := by unfold zrk; rw [if_neg (by decide)]; decide +kernel
def lD_namesAt_c5 (r0 : Nat) (x1 : Int) (x2 : Int) (M : Nat → Nat → Int) : Nat → Int → Int → Option Int
  | 0, _, _ => none
  | n + 1, y3, y4 =>
    (if y4 < (M 3 7) then
    ((rdI (r0 + 5) (w32 ((w32 (x2 * (5 : Int))) + y4)) M).bind (fun v27 =>
    (if v27 = x1 then
    ((lD_namesAt_c5 r0 x1 x2 M n) (zor y3 (zshl (1 : Int) y4)) (w32 (y4 + 1)))
    else
    ((lD_namesAt_c5 r0 x1 x2 M n) y3 (w32 (y4 + 1))))))
    else
    (some y3))
set_option maxRecDepth 100000 in
theorem ok_lD_namesAt_c5 {sc : zSc} {q : Nat} {P : Option zV → (Nat → Nat → Int) → Prop} (hq : 0 ≤ q) (r0 : Nat) (x1 : Int) (x2 : Int) (hr0 : zis 1 r0 = true) (M : Nat → Nat → Int) : ∀ (n : Nat) (y3 : Int) (y4 : Int), zS (lD_namesAt_c5 r0 x1 x2 M n y3 y4) (fun x => P (some (.inl x)) M) → zWp sc q 20 5 [some (.inr (.inr r0)), some (.inl x1), some (.inl x2), some (.inl y3), some (.inl y4)] [] M P := by
  intro n
  induction n with
  | zero => intro y3 y4 h; exact (zS_none h).elim
  | succ n ih =>
    intro y3 y4 h
    rw [lD_namesAt_c5] at h
    refine E_iload (pc := 5) (zDk zD_20_ok 4 rfl) rfl ?_
    refine E_aload_n (pc := 7) (zDk zD_20_ok 5 rfl) rfl ?_
    refine E_getR (pc := 8) (ci := 1) (f := 0) (r := 3) (zDk zD_20_ok 6 rfl) zc_20 (by decide +kernel) (by decide) hr0 (zg_1_0 hr0) (by decide) ?_
    refine E_getI (pc := 11) (ci := 6) (f := 7) (zDk zD_20_ok 7 rfl) zc_20 (by decide +kernel) (by decide) zis_6_3 ?_
    refine E_icmp (pc := 14) (t := 45) (zDk zD_20_ok 8 rfl) rfl (fun hz => ?_) (fun hz => ?_)
    · have h := zS_f h (Int.not_lt.mpr (T_ge hz))
      refine E_iload_n (pc := 45) (zDk zD_20_ok 27 rfl) rfl ?_
      have h := zS_some h
      exact E_ireturn (pc := 46) (zDk zD_20_ok 28 rfl) zt_20 h
    · have h := zS_t h (F_ge hz)
      refine E_aload_n (pc := 17) (zDk zD_20_ok 9 rfl) rfl ?_
      refine E_getR (pc := 18) (ci := 1) (f := 5) (r := (r0 + 5)) (zDk zD_20_ok 10 rfl) zc_20 (by decide +kernel) (by decide) hr0 (zg_1_5 hr0) (zh_1_5 hr0) ?_
      refine E_iload_n (pc := 21) (zDk zD_20_ok 11 rfl) rfl ?_
      refine E_iconst (pc := 22) (zDk zD_20_ok 12 rfl) (by decide +kernel) ?_
      refine W_imul (pc := 23) (zDk zD_20_ok 13 rfl) ?_
      refine E_iload (pc := 24) (zDk zD_20_ok 14 rfl) rfl ?_
      refine W_iadd (pc := 26) (zDk zD_20_ok 15 rfl) ?_
      obtain ⟨v27, e27, h⟩ := zS_bind h
      refine E_iaload (pc := 27) (zDk zD_20_ok 16 rfl) e27 ?_
      refine E_iload_n (pc := 28) (zDk zD_20_ok 17 rfl) rfl ?_
      refine E_icmp (pc := 29) (t := 39) (zDk zD_20_ok 18 rfl) rfl (fun hz => ?_) (fun hz => ?_)
      · have h := zS_f h (T_ne hz)
        refine W_iinc (pc := 39) (L' := [some (.inr (.inr r0)), some (.inl x1), some (.inl x2), some (.inl y3), some (.inl (w32 (y4 + 1)))]) (zDk zD_20_ok 25 rfl) rfl zm_20 (by decide) rfl ?_
        refine E_goto (pc := 42) (t := 5) (zDk zD_20_ok 26 rfl) rfl ?_
        exact (ih) y3 (w32 (y4 + 1)) h
      · have h := zS_t h (F_ne hz)
        refine E_iload_n (pc := 32) (zDk zD_20_ok 19 rfl) rfl ?_
        refine E_iconst (pc := 33) (zDk zD_20_ok 20 rfl) (by decide +kernel) ?_
        refine E_iload (pc := 34) (zDk zD_20_ok 21 rfl) rfl ?_
        refine E_ishl (pc := 36) (zDk zD_20_ok 22 rfl) ?_
        refine E_ior (pc := 37) (zDk zD_20_ok 23 rfl) ?_
        refine W_istore_n (pc := 38) (L' := [some (.inr (.inr r0)), some (.inl x1), some (.inl x2), some (.inl (zor y3 (zshl (1 : Int) y4))), some (.inl y4)]) (zDk zD_20_ok 24 rfl) zm_20 (by decide) rfl ?_
        refine W_iinc (pc := 39) (L' := [some (.inr (.inr r0)), some (.inl x1), some (.inl x2), some (.inl (zor y3 (zshl (1 : Int) y4))), some (.inl (w32 (y4 + 1)))]) (zDk zD_20_ok 25 rfl) rfl zm_20 (by decide) rfl ?_
        refine E_goto (pc := 42) (t := 5) (zDk zD_20_ok 26 rfl) rfl ?_
        exact (ih) (zor y3 (zshl (1 : Int) y4)) (w32 (y4 + 1)) h
def lD_namesAt (r0 : Nat) (x1 : Int) (x2 : Int) (M : Nat → Nat → Int) : Option Int :=
    (if zis 1 r0 = true then
    (lD_namesAt_c5 r0 x1 x2 M zN (0 : Int) (0 : Int))
    else none)
set_option maxRecDepth 100000 in
theorem ok_lD_namesAt {sc : zSc} {r0 : Nat} {x1 : Int} {x2 : Int} {M : Nat → Nat → Int} {P : Int → (Nat → Nat → Int) → Prop} (h : zS (lD_namesAt r0 x1 x2 M) (fun x => P x M)) : zCi sc 20 [.inr (.inr r0), .inl x1, .inl x2] M P := by
  have ea : zarg (zml 20) [.inr (.inr r0), .inl x1, .inl x2] = [some (.inr (.inr r0)), some (.inl x1), some (.inl x2), none, none] := by rw [zm_20]; rfl
  unfold zCi zCw
  rw [ea, zr_20]
  have hq : 0 ≤ 0 := Nat.le_refl _
  unfold lD_namesAt at h
  have h := zS_mono h (fun x hx => (⟨x, rfl, hx⟩ : ∃ y, (some (.inl x) : Option zV) = some (.inl y) ∧ P y M))
  obtain ⟨hr0, h⟩ := zS_c h
  skip
  refine E_iconst (pc := 0) (zDk zD_20_ok 0 rfl) (by decide +kernel) ?_
  refine W_istore_n (pc := 1) (L' := [some (.inr (.inr r0)), some (.inl x1), some (.inl x2), some (.inl (0 : Int)), none]) (zDk zD_20_ok 1 rfl) zm_20 (by decide) rfl ?_
  refine E_iconst (pc := 2) (zDk zD_20_ok 2 rfl) (by decide +kernel) ?_
  refine W_istore (pc := 3) (L' := [some (.inr (.inr r0)), some (.inl x1), some (.inl x2), some (.inl (0 : Int)), some (.inl (0 : Int))]) (zDk zD_20_ok 3 rfl) zm_20 (by decide) rfl ?_
  exact ok_lD_namesAt_c5 hq r0 x1 x2 hr0 M zN (0 : Int) (0 : Int) h
def zD_22 : List (Nat × Instr × Nat) := [(0, .iconst (0), 1), (1, .istore_n (2), 1), (2, .iload_n (2), 1), (3, .aload_n (0), 1), (4, .getfield (38), 3), (7, .getfield (95), 3), (10, .if_icmp .ge (24), 3), (13, .aload_n (0), 1), (14, .getfield (28), 3), (17, .iload_n (1), 1), (18, .iconst (5), 1), (19, .imul, 1), (20, .iload_n (2), 1), (21, .iadd, 1), (22, .iaload, 1), (23, .ifCond .ne (5), 3), (26, .iload_n (2), 1), (27, .ireturn, 1), (28, .iinc (2) (1), 3), (31, .goto (-29), 3), (34, .iconst (-1), 1), (35, .ireturn, 1)]
set_option maxRecDepth 100000 in
theorem zD_22_ok : zDo 22 zD_22 = true := by decide +kernel
theorem zc_22 : zcls 22 = 1 := by decide +kernel
theorem zm_22 : zml 22 = 3 := by decide +kernel
theorem zt_22 : zrt 22 = (some (.int)) := by decide +kernel
theorem zk_22 : zkd 22 = 1 ∧ znp 22 + 1 = 2 := by decide +kernel
theorem zr_22 (as : List zV) : zrk 22 as = 0 := by unfold zrk; rw [if_neg (by decide)]; decide +kernel
def lD_leastDry_c2 (r0 : Nat) (x1 : Int) (M : Nat → Nat → Int) : Nat → Int → Option Int
  | 0, _ => none
  | n + 1, y2 =>
    (if y2 < (M 3 7) then
    ((rdI (r0 + 6) (w32 ((w32 (x1 * (5 : Int))) + y2)) M).bind (fun v22 =>
    (if v22 = 0 then
    (some y2)
    else
    ((lD_leastDry_c2 r0 x1 M n) (w32 (y2 + 1))))))
    else
    (some (-1 : Int)))
set_option maxRecDepth 100000 in
theorem ok_lD_leastDry_c2 {sc : zSc} {q : Nat} {P : Option zV → (Nat → Nat → Int) → Prop} (hq : 0 ≤ q) (r0 : Nat) (x1 : Int) (hr0 : zis 1 r0 = true) (M : Nat → Nat → Int) : ∀ (n : Nat) (y2 : Int), zS (lD_leastDry_c2 r0 x1 M n y2) (fun x => P (some (.inl x)) M) → zWp sc q 22 2 [some (.inr (.inr r0)), some (.inl x1), some (.inl y2)] [] M P := by
  intro n
  induction n with
  | zero => intro y2 h; exact (zS_none h).elim
  | succ n ih =>
    intro y2 h
    rw [lD_leastDry_c2] at h
    refine E_iload_n (pc := 2) (zDk zD_22_ok 2 rfl) rfl ?_
    refine E_aload_n (pc := 3) (zDk zD_22_ok 3 rfl) rfl ?_
    refine E_getR (pc := 4) (ci := 1) (f := 0) (r := 3) (zDk zD_22_ok 4 rfl) zc_22 (by decide +kernel) (by decide) hr0 (zg_1_0 hr0) (by decide) ?_
    refine E_getI (pc := 7) (ci := 6) (f := 7) (zDk zD_22_ok 5 rfl) zc_22 (by decide +kernel) (by decide) zis_6_3 ?_
    refine E_icmp (pc := 10) (t := 34) (zDk zD_22_ok 6 rfl) rfl (fun hz => ?_) (fun hz => ?_)
    · have h := zS_f h (Int.not_lt.mpr (T_ge hz))
      refine E_iconst (pc := 34) (zDk zD_22_ok 20 rfl) (by decide +kernel) ?_
      have h := zS_some h
      exact E_ireturn (pc := 35) (zDk zD_22_ok 21 rfl) zt_22 h
    · have h := zS_t h (F_ge hz)
      refine E_aload_n (pc := 13) (zDk zD_22_ok 7 rfl) rfl ?_
      refine E_getR (pc := 14) (ci := 1) (f := 6) (r := (r0 + 6)) (zDk zD_22_ok 8 rfl) zc_22 (by decide +kernel) (by decide) hr0 (zg_1_6 hr0) (zh_1_6 hr0) ?_
      refine E_iload_n (pc := 17) (zDk zD_22_ok 9 rfl) rfl ?_
      refine E_iconst (pc := 18) (zDk zD_22_ok 10 rfl) (by decide +kernel) ?_
      refine W_imul (pc := 19) (zDk zD_22_ok 11 rfl) ?_
      refine E_iload_n (pc := 20) (zDk zD_22_ok 12 rfl) rfl ?_
      refine W_iadd (pc := 21) (zDk zD_22_ok 13 rfl) ?_
      obtain ⟨v22, e22, h⟩ := zS_bind h
      refine E_iaload (pc := 22) (zDk zD_22_ok 14 rfl) e22 ?_
      refine E_if (pc := 23) (t := 28) (zDk zD_22_ok 15 rfl) rfl (fun hz => ?_) (fun hz => ?_)
      · have h := zS_f h (T_ne hz)
        refine W_iinc (pc := 28) (L' := [some (.inr (.inr r0)), some (.inl x1), some (.inl (w32 (y2 + 1)))]) (zDk zD_22_ok 18 rfl) rfl zm_22 (by decide) rfl ?_
        refine E_goto (pc := 31) (t := 2) (zDk zD_22_ok 19 rfl) rfl ?_
        exact (ih) (w32 (y2 + 1)) h
      · have h := zS_t h (F_ne hz)
        refine E_iload_n (pc := 26) (zDk zD_22_ok 16 rfl) rfl ?_
        have h := zS_some h
        exact E_ireturn (pc := 27) (zDk zD_22_ok 17 rfl) zt_22 h
def lD_leastDry (r0 : Nat) (x1 : Int) (M : Nat → Nat → Int) : Option Int :=
    (if zis 1 r0 = true then
    (lD_leastDry_c2 r0 x1 M zN (0 : Int))
    else none)
set_option maxRecDepth 100000 in
theorem ok_lD_leastDry {sc : zSc} {r0 : Nat} {x1 : Int} {M : Nat → Nat → Int} {P : Int → (Nat → Nat → Int) → Prop} (h : zS (lD_leastDry r0 x1 M) (fun x => P x M)) : zCi sc 22 [.inr (.inr r0), .inl x1] M P := by
  have ea : zarg (zml 22) [.inr (.inr r0), .inl x1] = [some (.inr (.inr r0)), some (.inl x1), none] := by rw [zm_22]; rfl
  unfold zCi zCw
  rw [ea, zr_22]
  have hq : 0 ≤ 0 := Nat.le_refl _
  unfold lD_leastDry at h
  have h := zS_mono h (fun x hx => (⟨x, rfl, hx⟩ : ∃ y, (some (.inl x) : Option zV) = some (.inl y) ∧ P y M))
  obtain ⟨hr0, h⟩ := zS_c h
  skip
  refine E_iconst (pc := 0) (zDk zD_22_ok 0 rfl) (by decide +kernel) ?_
  refine W_istore_n (pc := 1) (L' := [some (.inr (.inr r0)), some (.inl x1), some (.inl (0 : Int))]) (zDk zD_22_ok 1 rfl) zm_22 (by decide) rfl ?_
  exact ok_lD_leastDry_c2 hq r0 x1 hr0 M zN (0 : Int) h
def zD_23 : List (Nat × Instr × Nat) := [(0, .iconst (0), 1), (1, .istore_n (2), 1), (2, .iconst (0), 1), (3, .istore_n (3), 1), (4, .iload_n (3), 1), (5, .aload_n (0), 1), (6, .getfield (38), 3), (9, .getfield (78), 3), (12, .if_icmp .ge (38), 3), (15, .iload_n (3), 1), (16, .iconst (5), 1), (17, .imul, 1), (18, .iload_n (1), 1), (19, .iadd, 1), (20, .istore (4), 2), (22, .aload_n (0), 1), (23, .getfield (25), 3), (26, .iload (4), 2), (28, .iaload, 1), (29, .aload_n (0), 1), (30, .getfield (25), 3), (33, .iload (4), 2), (35, .iconst (5), 1), (36, .iadd, 1), (37, .iaload, 1), (38, .if_icmp .eq (6), 3), (41, .iinc (2) (1), 3), (44, .iinc (3) (1), 3), (47, .goto (-43), 3), (50, .iload_n (2), 1), (51, .ireturn, 1)]
set_option maxRecDepth 100000 in
theorem zD_23_ok : zDo 23 zD_23 = true := by decide +kernel
theorem zc_23 : zcls 23 = 1 := by decide +kernel
theorem zm_23 : zml 23 = 5 := by decide +kernel
theorem zt_23 : zrt 23 = (some (.int)) := by decide +kernel
theorem zk_23 : zkd 23 = 1 ∧ znp 23 + 1 = 2 := by decide +kernel
theorem zr_23 (as : List zV) : zrk 23 as = 0 := by unfold zrk; rw [if_neg (by decide)]; decide +kernel
def lD_streetsGone_c4 (r0 : Nat) (x1 : Int) (M : Nat → Nat → Int) : Nat → Int → Int → Option Int
  | 0, _, _ => none
  | n + 1, y2, y3 =>
    (if y3 < (M 3 1) then
    ((rdI (r0 + 5) (w32 ((w32 (y3 * (5 : Int))) + x1)) M).bind (fun v28 =>
    ((rdI (r0 + 5) (w32 ((w32 ((w32 (y3 * (5 : Int))) + x1)) + (5 : Int))) M).bind (fun v37 =>
    (if v28 = v37 then
    ((lD_streetsGone_c4 r0 x1 M n) y2 (w32 (y3 + 1)))
    else
    ((lD_streetsGone_c4 r0 x1 M n) (w32 (y2 + 1)) (w32 (y3 + 1))))))))
    else
    (some y2))
set_option maxRecDepth 100000 in
theorem ok_lD_streetsGone_c4 {sc : zSc} {q : Nat} {P : Option zV → (Nat → Nat → Int) → Prop} (hq : 0 ≤ q) (r0 : Nat) (x1 : Int) (hr0 : zis 1 r0 = true) (M : Nat → Nat → Int) : ∀ (n : Nat) (y2 : Int) (y3 : Int) (d4 : Option zV), zS (lD_streetsGone_c4 r0 x1 M n y2 y3) (fun x => P (some (.inl x)) M) → zWp sc q 23 4 [some (.inr (.inr r0)), some (.inl x1), some (.inl y2), some (.inl y3), d4] [] M P := by
  intro n
  induction n with
  | zero => intro y2 y3 d4 h; exact (zS_none h).elim
  | succ n ih =>
    intro y2 y3 d4 h
    rw [lD_streetsGone_c4] at h
    refine E_iload_n (pc := 4) (zDk zD_23_ok 4 rfl) rfl ?_
    refine E_aload_n (pc := 5) (zDk zD_23_ok 5 rfl) rfl ?_
    refine E_getR (pc := 6) (ci := 1) (f := 0) (r := 3) (zDk zD_23_ok 6 rfl) zc_23 (by decide +kernel) (by decide) hr0 (zg_1_0 hr0) (by decide) ?_
    refine E_getI (pc := 9) (ci := 6) (f := 1) (zDk zD_23_ok 7 rfl) zc_23 (by decide +kernel) (by decide) zis_6_3 ?_
    refine E_icmp (pc := 12) (t := 50) (zDk zD_23_ok 8 rfl) rfl (fun hz => ?_) (fun hz => ?_)
    · have h := zS_f h (Int.not_lt.mpr (T_ge hz))
      refine E_iload_n (pc := 50) (zDk zD_23_ok 29 rfl) rfl ?_
      have h := zS_some h
      exact E_ireturn (pc := 51) (zDk zD_23_ok 30 rfl) zt_23 h
    · have h := zS_t h (F_ge hz)
      refine E_iload_n (pc := 15) (zDk zD_23_ok 9 rfl) rfl ?_
      refine E_iconst (pc := 16) (zDk zD_23_ok 10 rfl) (by decide +kernel) ?_
      refine W_imul (pc := 17) (zDk zD_23_ok 11 rfl) ?_
      refine E_iload_n (pc := 18) (zDk zD_23_ok 12 rfl) rfl ?_
      refine W_iadd (pc := 19) (zDk zD_23_ok 13 rfl) ?_
      refine W_istore (pc := 20) (L' := [some (.inr (.inr r0)), some (.inl x1), some (.inl y2), some (.inl y3), some (.inl (w32 ((w32 (y3 * (5 : Int))) + x1)))]) (zDk zD_23_ok 14 rfl) zm_23 (by decide) rfl ?_
      refine E_aload_n (pc := 22) (zDk zD_23_ok 15 rfl) rfl ?_
      refine E_getR (pc := 23) (ci := 1) (f := 5) (r := (r0 + 5)) (zDk zD_23_ok 16 rfl) zc_23 (by decide +kernel) (by decide) hr0 (zg_1_5 hr0) (zh_1_5 hr0) ?_
      refine E_iload (pc := 26) (zDk zD_23_ok 17 rfl) rfl ?_
      obtain ⟨v28, e28, h⟩ := zS_bind h
      refine E_iaload (pc := 28) (zDk zD_23_ok 18 rfl) e28 ?_
      refine E_aload_n (pc := 29) (zDk zD_23_ok 19 rfl) rfl ?_
      refine E_getR (pc := 30) (ci := 1) (f := 5) (r := (r0 + 5)) (zDk zD_23_ok 20 rfl) zc_23 (by decide +kernel) (by decide) hr0 (zg_1_5 hr0) (zh_1_5 hr0) ?_
      refine E_iload (pc := 33) (zDk zD_23_ok 21 rfl) rfl ?_
      refine E_iconst (pc := 35) (zDk zD_23_ok 22 rfl) (by decide +kernel) ?_
      refine W_iadd (pc := 36) (zDk zD_23_ok 23 rfl) ?_
      obtain ⟨v37, e37, h⟩ := zS_bind h
      refine E_iaload (pc := 37) (zDk zD_23_ok 24 rfl) e37 ?_
      refine E_icmp (pc := 38) (t := 44) (zDk zD_23_ok 25 rfl) rfl (fun hz => ?_) (fun hz => ?_)
      · have h := zS_t h (T_eq hz)
        refine W_iinc (pc := 44) (L' := [some (.inr (.inr r0)), some (.inl x1), some (.inl y2), some (.inl (w32 (y3 + 1))), some (.inl (w32 ((w32 (y3 * (5 : Int))) + x1)))]) (zDk zD_23_ok 27 rfl) rfl zm_23 (by decide) rfl ?_
        refine E_goto (pc := 47) (t := 4) (zDk zD_23_ok 28 rfl) rfl ?_
        exact (ih) y2 (w32 (y3 + 1)) (some (.inl (w32 ((w32 (y3 * (5 : Int))) + x1)))) h
      · have h := zS_f h (F_eq hz)
        refine W_iinc (pc := 41) (L' := [some (.inr (.inr r0)), some (.inl x1), some (.inl (w32 (y2 + 1))), some (.inl y3), some (.inl (w32 ((w32 (y3 * (5 : Int))) + x1)))]) (zDk zD_23_ok 26 rfl) rfl zm_23 (by decide) rfl ?_
        refine W_iinc (pc := 44) (L' := [some (.inr (.inr r0)), some (.inl x1), some (.inl (w32 (y2 + 1))), some (.inl (w32 (y3 + 1))), some (.inl (w32 ((w32 (y3 * (5 : Int))) + x1)))]) (zDk zD_23_ok 27 rfl) rfl zm_23 (by decide) rfl ?_
        refine E_goto (pc := 47) (t := 4) (zDk zD_23_ok 28 rfl) rfl ?_
        exact (ih) (w32 (y2 + 1)) (w32 (y3 + 1)) (some (.inl (w32 ((w32 (y3 * (5 : Int))) + x1)))) h
def lD_streetsGone (r0 : Nat) (x1 : Int) (M : Nat → Nat → Int) : Option Int :=
    (if zis 1 r0 = true then
    (lD_streetsGone_c4 r0 x1 M zN (0 : Int) (0 : Int))
    else none)
set_option maxRecDepth 100000 in
theorem ok_lD_streetsGone {sc : zSc} {r0 : Nat} {x1 : Int} {M : Nat → Nat → Int} {P : Int → (Nat → Nat → Int) → Prop} (h : zS (lD_streetsGone r0 x1 M) (fun x => P x M)) : zCi sc 23 [.inr (.inr r0), .inl x1] M P := by
  have ea : zarg (zml 23) [.inr (.inr r0), .inl x1] = [some (.inr (.inr r0)), some (.inl x1), none, none, none] := by rw [zm_23]; rfl
  unfold zCi zCw
  rw [ea, zr_23]
  have hq : 0 ≤ 0 := Nat.le_refl _
  unfold lD_streetsGone at h
  have h := zS_mono h (fun x hx => (⟨x, rfl, hx⟩ : ∃ y, (some (.inl x) : Option zV) = some (.inl y) ∧ P y M))
  obtain ⟨hr0, h⟩ := zS_c h
  skip
  refine E_iconst (pc := 0) (zDk zD_23_ok 0 rfl) (by decide +kernel) ?_
  refine W_istore_n (pc := 1) (L' := [some (.inr (.inr r0)), some (.inl x1), some (.inl (0 : Int)), none, none]) (zDk zD_23_ok 1 rfl) zm_23 (by decide) rfl ?_
  refine E_iconst (pc := 2) (zDk zD_23_ok 2 rfl) (by decide +kernel) ?_
  refine W_istore_n (pc := 3) (L' := [some (.inr (.inr r0)), some (.inl x1), some (.inl (0 : Int)), some (.inl (0 : Int)), none]) (zDk zD_23_ok 3 rfl) zm_23 (by decide) rfl ?_
  exact ok_lD_streetsGone_c4 hq r0 x1 hr0 M zN (0 : Int) (0 : Int) none h
def zD_25 : List (Nat × Instr × Nat) := [(0, .iconst (0), 1), (1, .istore_n (2), 1), (2, .iconst (0), 1), (3, .istore_n (3), 1), (4, .iload_n (3), 1), (5, .aload_n (0), 1), (6, .getfield (38), 3), (9, .getfield (78), 3), (12, .if_icmp .gt (24), 3), (15, .iload_n (2), 1), (16, .iconst (1), 1), (17, .aload_n (0), 1), (18, .getfield (25), 3), (21, .iload_n (3), 1), (22, .iconst (5), 1), (23, .imul, 1), (24, .iload_n (1), 1), (25, .iadd, 1), (26, .iaload, 1), (27, .ishl, 1), (28, .ior, 1), (29, .istore_n (2), 1), (30, .iinc (3) (1), 3), (33, .goto (-29), 3), (36, .iload_n (2), 1), (37, .ireturn, 1)]
set_option maxRecDepth 100000 in
theorem zD_25_ok : zDo 25 zD_25 = true := by decide +kernel
theorem zc_25 : zcls 25 = 1 := by decide +kernel
theorem zm_25 : zml 25 = 4 := by decide +kernel
theorem zt_25 : zrt 25 = (some (.int)) := by decide +kernel
theorem zk_25 : zkd 25 = 1 ∧ znp 25 + 1 = 2 := by decide +kernel
theorem zr_25 (as : List zV) : zrk 25 as = 0 := by unfold zrk; rw [if_neg (by decide)]; decide +kernel
def lD_cornersSeen_c4 (r0 : Nat) (x1 : Int) (M : Nat → Nat → Int) : Nat → Int → Int → Option Int
  | 0, _, _ => none
  | n + 1, y2, y3 =>
    (if (M 3 1) < y3 then
    (some y2)
    else
    ((rdI (r0 + 5) (w32 ((w32 (y3 * (5 : Int))) + x1)) M).bind (fun v26 =>
    ((lD_cornersSeen_c4 r0 x1 M n) (zor y2 (zshl (1 : Int) v26)) (w32 (y3 + 1))))))
set_option maxRecDepth 100000 in
theorem ok_lD_cornersSeen_c4 {sc : zSc} {q : Nat} {P : Option zV → (Nat → Nat → Int) → Prop} (hq : 0 ≤ q) (r0 : Nat) (x1 : Int) (hr0 : zis 1 r0 = true) (M : Nat → Nat → Int) : ∀ (n : Nat) (y2 : Int) (y3 : Int), zS (lD_cornersSeen_c4 r0 x1 M n y2 y3) (fun x => P (some (.inl x)) M) → zWp sc q 25 4 [some (.inr (.inr r0)), some (.inl x1), some (.inl y2), some (.inl y3)] [] M P := by
  intro n
  induction n with
  | zero => intro y2 y3 h; exact (zS_none h).elim
  | succ n ih =>
    intro y2 y3 h
    rw [lD_cornersSeen_c4] at h
    refine E_iload_n (pc := 4) (zDk zD_25_ok 4 rfl) rfl ?_
    refine E_aload_n (pc := 5) (zDk zD_25_ok 5 rfl) rfl ?_
    refine E_getR (pc := 6) (ci := 1) (f := 0) (r := 3) (zDk zD_25_ok 6 rfl) zc_25 (by decide +kernel) (by decide) hr0 (zg_1_0 hr0) (by decide) ?_
    refine E_getI (pc := 9) (ci := 6) (f := 1) (zDk zD_25_ok 7 rfl) zc_25 (by decide +kernel) (by decide) zis_6_3 ?_
    refine E_icmp (pc := 12) (t := 36) (zDk zD_25_ok 8 rfl) rfl (fun hz => ?_) (fun hz => ?_)
    · have h := zS_t h (T_gt hz)
      refine E_iload_n (pc := 36) (zDk zD_25_ok 24 rfl) rfl ?_
      have h := zS_some h
      exact E_ireturn (pc := 37) (zDk zD_25_ok 25 rfl) zt_25 h
    · have h := zS_f h (Int.not_lt.mpr (F_gt hz))
      refine E_iload_n (pc := 15) (zDk zD_25_ok 9 rfl) rfl ?_
      refine E_iconst (pc := 16) (zDk zD_25_ok 10 rfl) (by decide +kernel) ?_
      refine E_aload_n (pc := 17) (zDk zD_25_ok 11 rfl) rfl ?_
      refine E_getR (pc := 18) (ci := 1) (f := 5) (r := (r0 + 5)) (zDk zD_25_ok 12 rfl) zc_25 (by decide +kernel) (by decide) hr0 (zg_1_5 hr0) (zh_1_5 hr0) ?_
      refine E_iload_n (pc := 21) (zDk zD_25_ok 13 rfl) rfl ?_
      refine E_iconst (pc := 22) (zDk zD_25_ok 14 rfl) (by decide +kernel) ?_
      refine W_imul (pc := 23) (zDk zD_25_ok 15 rfl) ?_
      refine E_iload_n (pc := 24) (zDk zD_25_ok 16 rfl) rfl ?_
      refine W_iadd (pc := 25) (zDk zD_25_ok 17 rfl) ?_
      obtain ⟨v26, e26, h⟩ := zS_bind h
      refine E_iaload (pc := 26) (zDk zD_25_ok 18 rfl) e26 ?_
      refine E_ishl (pc := 27) (zDk zD_25_ok 19 rfl) ?_
      refine E_ior (pc := 28) (zDk zD_25_ok 20 rfl) ?_
      refine W_istore_n (pc := 29) (L' := [some (.inr (.inr r0)), some (.inl x1), some (.inl (zor y2 (zshl (1 : Int) v26))), some (.inl y3)]) (zDk zD_25_ok 21 rfl) zm_25 (by decide) rfl ?_
      refine W_iinc (pc := 30) (L' := [some (.inr (.inr r0)), some (.inl x1), some (.inl (zor y2 (zshl (1 : Int) v26))), some (.inl (w32 (y3 + 1)))]) (zDk zD_25_ok 22 rfl) rfl zm_25 (by decide) rfl ?_
      refine E_goto (pc := 33) (t := 4) (zDk zD_25_ok 23 rfl) rfl ?_
      exact (ih) (zor y2 (zshl (1 : Int) v26)) (w32 (y3 + 1)) h
def lD_cornersSeen (r0 : Nat) (x1 : Int) (M : Nat → Nat → Int) : Option Int :=
    (if zis 1 r0 = true then
    (lD_cornersSeen_c4 r0 x1 M zN (0 : Int) (0 : Int))
    else none)
set_option maxRecDepth 100000 in
theorem ok_lD_cornersSeen {sc : zSc} {r0 : Nat} {x1 : Int} {M : Nat → Nat → Int} {P : Int → (Nat → Nat → Int) → Prop} (h : zS (lD_cornersSeen r0 x1 M) (fun x => P x M)) : zCi sc 25 [.inr (.inr r0), .inl x1] M P := by
  have ea : zarg (zml 25) [.inr (.inr r0), .inl x1] = [some (.inr (.inr r0)), some (.inl x1), none, none] := by rw [zm_25]; rfl
  unfold zCi zCw
  rw [ea, zr_25]
  have hq : 0 ≤ 0 := Nat.le_refl _
  unfold lD_cornersSeen at h
  have h := zS_mono h (fun x hx => (⟨x, rfl, hx⟩ : ∃ y, (some (.inl x) : Option zV) = some (.inl y) ∧ P y M))
  obtain ⟨hr0, h⟩ := zS_c h
  skip
  refine E_iconst (pc := 0) (zDk zD_25_ok 0 rfl) (by decide +kernel) ?_
  refine W_istore_n (pc := 1) (L' := [some (.inr (.inr r0)), some (.inl x1), some (.inl (0 : Int)), none]) (zDk zD_25_ok 1 rfl) zm_25 (by decide) rfl ?_
  refine E_iconst (pc := 2) (zDk zD_25_ok 2 rfl) (by decide +kernel) ?_
  refine W_istore_n (pc := 3) (L' := [some (.inr (.inr r0)), some (.inl x1), some (.inl (0 : Int)), some (.inl (0 : Int))]) (zDk zD_25_ok 3 rfl) zm_25 (by decide) rfl ?_
  exact ok_lD_cornersSeen_c4 hq r0 x1 hr0 M zN (0 : Int) (0 : Int) h
def zD_27 : List (Nat × Instr × Nat) := [(0, .iconst (0), 1), (1, .istore_n (2), 1), (2, .iconst (0), 1), (3, .istore_n (3), 1), (4, .iload_n (3), 1), (5, .aload_n (0), 1), (6, .getfield (38), 3), (9, .getfield (95), 3), (12, .if_icmp .ge (22), 3), (15, .iload_n (2), 1), (16, .aload_n (0), 1), (17, .getfield (28), 3), (20, .iload_n (1), 1), (21, .iconst (5), 1), (22, .imul, 1), (23, .iload_n (3), 1), (24, .iadd, 1), (25, .iaload, 1), (26, .iadd, 1), (27, .istore_n (2), 1), (28, .iinc (3) (1), 3), (31, .goto (-27), 3), (34, .iload_n (2), 1), (35, .ireturn, 1)]
set_option maxRecDepth 100000 in
theorem zD_27_ok : zDo 27 zD_27 = true := by decide +kernel
theorem zc_27 : zcls 27 = 1 := by decide +kernel
theorem zm_27 : zml 27 = 4 := by decide +kernel
theorem zt_27 : zrt 27 = (some (.int)) := by decide +kernel
theorem zk_27 : zkd 27 = 1 ∧ znp 27 + 1 = 2 := by decide +kernel
theorem zr_27 (as : List zV) : zrk 27 as = 0 := by unfold zrk; rw [if_neg (by decide)]; decide +kernel
def lD_inkOfAll_c4 (r0 : Nat) (x1 : Int) (M : Nat → Nat → Int) : Nat → Int → Int → Option Int
  | 0, _, _ => none
  | n + 1, y2, y3 =>
    (if y3 < (M 3 7) then
    ((rdI (r0 + 6) (w32 ((w32 (x1 * (5 : Int))) + y3)) M).bind (fun v25 =>
    ((lD_inkOfAll_c4 r0 x1 M n) (w32 (y2 + v25)) (w32 (y3 + 1)))))
    else
    (some y2))
set_option maxRecDepth 100000 in
theorem ok_lD_inkOfAll_c4 {sc : zSc} {q : Nat} {P : Option zV → (Nat → Nat → Int) → Prop} (hq : 0 ≤ q) (r0 : Nat) (x1 : Int) (hr0 : zis 1 r0 = true) (M : Nat → Nat → Int) : ∀ (n : Nat) (y2 : Int) (y3 : Int), zS (lD_inkOfAll_c4 r0 x1 M n y2 y3) (fun x => P (some (.inl x)) M) → zWp sc q 27 4 [some (.inr (.inr r0)), some (.inl x1), some (.inl y2), some (.inl y3)] [] M P := by
  intro n
  induction n with
  | zero => intro y2 y3 h; exact (zS_none h).elim
  | succ n ih =>
    intro y2 y3 h
    rw [lD_inkOfAll_c4] at h
    refine E_iload_n (pc := 4) (zDk zD_27_ok 4 rfl) rfl ?_
    refine E_aload_n (pc := 5) (zDk zD_27_ok 5 rfl) rfl ?_
    refine E_getR (pc := 6) (ci := 1) (f := 0) (r := 3) (zDk zD_27_ok 6 rfl) zc_27 (by decide +kernel) (by decide) hr0 (zg_1_0 hr0) (by decide) ?_
    refine E_getI (pc := 9) (ci := 6) (f := 7) (zDk zD_27_ok 7 rfl) zc_27 (by decide +kernel) (by decide) zis_6_3 ?_
    refine E_icmp (pc := 12) (t := 34) (zDk zD_27_ok 8 rfl) rfl (fun hz => ?_) (fun hz => ?_)
    · have h := zS_f h (Int.not_lt.mpr (T_ge hz))
      refine E_iload_n (pc := 34) (zDk zD_27_ok 22 rfl) rfl ?_
      have h := zS_some h
      exact E_ireturn (pc := 35) (zDk zD_27_ok 23 rfl) zt_27 h
    · have h := zS_t h (F_ge hz)
      refine E_iload_n (pc := 15) (zDk zD_27_ok 9 rfl) rfl ?_
      refine E_aload_n (pc := 16) (zDk zD_27_ok 10 rfl) rfl ?_
      refine E_getR (pc := 17) (ci := 1) (f := 6) (r := (r0 + 6)) (zDk zD_27_ok 11 rfl) zc_27 (by decide +kernel) (by decide) hr0 (zg_1_6 hr0) (zh_1_6 hr0) ?_
      refine E_iload_n (pc := 20) (zDk zD_27_ok 12 rfl) rfl ?_
      refine E_iconst (pc := 21) (zDk zD_27_ok 13 rfl) (by decide +kernel) ?_
      refine W_imul (pc := 22) (zDk zD_27_ok 14 rfl) ?_
      refine E_iload_n (pc := 23) (zDk zD_27_ok 15 rfl) rfl ?_
      refine W_iadd (pc := 24) (zDk zD_27_ok 16 rfl) ?_
      obtain ⟨v25, e25, h⟩ := zS_bind h
      refine E_iaload (pc := 25) (zDk zD_27_ok 17 rfl) e25 ?_
      refine W_iadd (pc := 26) (zDk zD_27_ok 18 rfl) ?_
      refine W_istore_n (pc := 27) (L' := [some (.inr (.inr r0)), some (.inl x1), some (.inl (w32 (y2 + v25))), some (.inl y3)]) (zDk zD_27_ok 19 rfl) zm_27 (by decide) rfl ?_
      refine W_iinc (pc := 28) (L' := [some (.inr (.inr r0)), some (.inl x1), some (.inl (w32 (y2 + v25))), some (.inl (w32 (y3 + 1)))]) (zDk zD_27_ok 20 rfl) rfl zm_27 (by decide) rfl ?_
      refine E_goto (pc := 31) (t := 4) (zDk zD_27_ok 21 rfl) rfl ?_
      exact (ih) (w32 (y2 + v25)) (w32 (y3 + 1)) h
def lD_inkOfAll (r0 : Nat) (x1 : Int) (M : Nat → Nat → Int) : Option Int :=
    (if zis 1 r0 = true then
    (lD_inkOfAll_c4 r0 x1 M zN (0 : Int) (0 : Int))
    else none)
set_option maxRecDepth 100000 in
theorem ok_lD_inkOfAll {sc : zSc} {r0 : Nat} {x1 : Int} {M : Nat → Nat → Int} {P : Int → (Nat → Nat → Int) → Prop} (h : zS (lD_inkOfAll r0 x1 M) (fun x => P x M)) : zCi sc 27 [.inr (.inr r0), .inl x1] M P := by
  have ea : zarg (zml 27) [.inr (.inr r0), .inl x1] = [some (.inr (.inr r0)), some (.inl x1), none, none] := by rw [zm_27]; rfl
  unfold zCi zCw
  rw [ea, zr_27]
  have hq : 0 ≤ 0 := Nat.le_refl _
  unfold lD_inkOfAll at h
  have h := zS_mono h (fun x hx => (⟨x, rfl, hx⟩ : ∃ y, (some (.inl x) : Option zV) = some (.inl y) ∧ P y M))
  obtain ⟨hr0, h⟩ := zS_c h
  skip
  refine E_iconst (pc := 0) (zDk zD_27_ok 0 rfl) (by decide +kernel) ?_
  refine W_istore_n (pc := 1) (L' := [some (.inr (.inr r0)), some (.inl x1), some (.inl (0 : Int)), none]) (zDk zD_27_ok 1 rfl) zm_27 (by decide) rfl ?_
  refine E_iconst (pc := 2) (zDk zD_27_ok 2 rfl) (by decide +kernel) ?_
  refine W_istore_n (pc := 3) (L' := [some (.inr (.inr r0)), some (.inl x1), some (.inl (0 : Int)), some (.inl (0 : Int))]) (zDk zD_27_ok 3 rfl) zm_27 (by decide) rfl ?_
  exact ok_lD_inkOfAll_c4 hq r0 x1 hr0 M zN (0 : Int) (0 : Int) h
def zD_28 : List (Nat × Instr × Nat) := [(0, .iconst (0), 1), (1, .istore_n (2), 1), (2, .iload_n (2), 1), (3, .aload_n (0), 1), (4, .getfield (38), 3), (7, .getfield (78), 3), (10, .if_icmp .gt (22), 3), (13, .aload_n (0), 1), (14, .getfield (31), 3), (17, .iload_n (2), 1), (18, .iaload, 1), (19, .iload_n (1), 1), (20, .iand, 1), (21, .ifCond .eq (5), 3), (24, .iload_n (2), 1), (25, .ireturn, 1), (26, .iinc (2) (1), 3), (29, .goto (-27), 3), (32, .iconst (-1), 1), (33, .ireturn, 1)]
set_option maxRecDepth 100000 in
theorem zD_28_ok : zDo 28 zD_28 = true := by decide +kernel
theorem zc_28 : zcls 28 = 1 := by decide +kernel
theorem zm_28 : zml 28 = 3 := by decide +kernel
theorem zt_28 : zrt 28 = (some (.int)) := by decide +kernel
theorem zk_28 : zkd 28 = 1 ∧ znp 28 + 1 = 2 := by decide +kernel
theorem zr_28 (as : List zV) : zrk 28 as = 0 := by unfold zrk; rw [if_neg (by decide)]; decide +kernel
def lD_firstSigned_c2 (r0 : Nat) (x1 : Int) (M : Nat → Nat → Int) : Nat → Int → Option Int
  | 0, _ => none
  | n + 1, y2 =>
    (if (M 3 1) < y2 then
    (some (-1 : Int))
    else
    ((rdI (r0 + 7) y2 M).bind (fun v18 =>
    (if (zand v18 x1) = 0 then
    ((lD_firstSigned_c2 r0 x1 M n) (w32 (y2 + 1)))
    else
    (some y2)))))
set_option maxRecDepth 100000 in
theorem ok_lD_firstSigned_c2 {sc : zSc} {q : Nat} {P : Option zV → (Nat → Nat → Int) → Prop} (hq : 0 ≤ q) (r0 : Nat) (x1 : Int) (hr0 : zis 1 r0 = true) (M : Nat → Nat → Int) : ∀ (n : Nat) (y2 : Int), zS (lD_firstSigned_c2 r0 x1 M n y2) (fun x => P (some (.inl x)) M) → zWp sc q 28 2 [some (.inr (.inr r0)), some (.inl x1), some (.inl y2)] [] M P := by
  intro n
  induction n with
  | zero => intro y2 h; exact (zS_none h).elim
  | succ n ih =>
    intro y2 h
    rw [lD_firstSigned_c2] at h
    refine E_iload_n (pc := 2) (zDk zD_28_ok 2 rfl) rfl ?_
    refine E_aload_n (pc := 3) (zDk zD_28_ok 3 rfl) rfl ?_
    refine E_getR (pc := 4) (ci := 1) (f := 0) (r := 3) (zDk zD_28_ok 4 rfl) zc_28 (by decide +kernel) (by decide) hr0 (zg_1_0 hr0) (by decide) ?_
    refine E_getI (pc := 7) (ci := 6) (f := 1) (zDk zD_28_ok 5 rfl) zc_28 (by decide +kernel) (by decide) zis_6_3 ?_
    refine E_icmp (pc := 10) (t := 32) (zDk zD_28_ok 6 rfl) rfl (fun hz => ?_) (fun hz => ?_)
    · have h := zS_t h (T_gt hz)
      refine E_iconst (pc := 32) (zDk zD_28_ok 18 rfl) (by decide +kernel) ?_
      have h := zS_some h
      exact E_ireturn (pc := 33) (zDk zD_28_ok 19 rfl) zt_28 h
    · have h := zS_f h (Int.not_lt.mpr (F_gt hz))
      refine E_aload_n (pc := 13) (zDk zD_28_ok 7 rfl) rfl ?_
      refine E_getR (pc := 14) (ci := 1) (f := 7) (r := (r0 + 7)) (zDk zD_28_ok 8 rfl) zc_28 (by decide +kernel) (by decide) hr0 (zg_1_7 hr0) (zh_1_7 hr0) ?_
      refine E_iload_n (pc := 17) (zDk zD_28_ok 9 rfl) rfl ?_
      obtain ⟨v18, e18, h⟩ := zS_bind h
      refine E_iaload (pc := 18) (zDk zD_28_ok 10 rfl) e18 ?_
      refine E_iload_n (pc := 19) (zDk zD_28_ok 11 rfl) rfl ?_
      refine E_iand (pc := 20) (zDk zD_28_ok 12 rfl) ?_
      refine E_if (pc := 21) (t := 26) (zDk zD_28_ok 13 rfl) rfl (fun hz => ?_) (fun hz => ?_)
      · have h := zS_t h (T_eq hz)
        refine W_iinc (pc := 26) (L' := [some (.inr (.inr r0)), some (.inl x1), some (.inl (w32 (y2 + 1)))]) (zDk zD_28_ok 16 rfl) rfl zm_28 (by decide) rfl ?_
        refine E_goto (pc := 29) (t := 2) (zDk zD_28_ok 17 rfl) rfl ?_
        exact (ih) (w32 (y2 + 1)) h
      · have h := zS_f h (F_eq hz)
        refine E_iload_n (pc := 24) (zDk zD_28_ok 14 rfl) rfl ?_
        have h := zS_some h
        exact E_ireturn (pc := 25) (zDk zD_28_ok 15 rfl) zt_28 h
def lD_firstSigned (r0 : Nat) (x1 : Int) (M : Nat → Nat → Int) : Option Int :=
    (if zis 1 r0 = true then
    (lD_firstSigned_c2 r0 x1 M zN (0 : Int))
    else none)
set_option maxRecDepth 100000 in
theorem ok_lD_firstSigned {sc : zSc} {r0 : Nat} {x1 : Int} {M : Nat → Nat → Int} {P : Int → (Nat → Nat → Int) → Prop} (h : zS (lD_firstSigned r0 x1 M) (fun x => P x M)) : zCi sc 28 [.inr (.inr r0), .inl x1] M P := by
  have ea : zarg (zml 28) [.inr (.inr r0), .inl x1] = [some (.inr (.inr r0)), some (.inl x1), none] := by rw [zm_28]; rfl
  unfold zCi zCw
  rw [ea, zr_28]
  have hq : 0 ≤ 0 := Nat.le_refl _
  unfold lD_firstSigned at h
  have h := zS_mono h (fun x hx => (⟨x, rfl, hx⟩ : ∃ y, (some (.inl x) : Option zV) = some (.inl y) ∧ P y M))
  obtain ⟨hr0, h⟩ := zS_c h
  skip
  refine E_iconst (pc := 0) (zDk zD_28_ok 0 rfl) (by decide +kernel) ?_
  refine W_istore_n (pc := 1) (L' := [some (.inr (.inr r0)), some (.inl x1), some (.inl (0 : Int))]) (zDk zD_28_ok 1 rfl) zm_28 (by decide) rfl ?_
  exact ok_lD_firstSigned_c2 hq r0 x1 hr0 M zN (0 : Int) h
def zD_37 : List (Nat × Instr × Nat) := [(0, .iload_n (2), 1), (1, .ifCond .lt (20), 3), (4, .aload_n (0), 1), (5, .getfield (9), 3), (8, .iload_n (1), 1), (9, .iaload, 1), (10, .iload_n (2), 1), (11, .ishr, 1), (12, .iconst (1), 1), (13, .iand, 1), (14, .ifCond .eq (7), 3), (17, .iconst (1), 1), (18, .goto (4), 3), (21, .iconst (0), 1), (22, .ireturn, 1)]
set_option maxRecDepth 100000 in
theorem zD_37_ok : zDo 37 zD_37 = true := by decide +kernel
theorem zc_37 : zcls 37 = 3 := by decide +kernel
theorem zm_37 : zml 37 = 3 := by decide +kernel
theorem zt_37 : zrt 37 = (some (.boolean)) := by decide +kernel
theorem zk_37 : zkd 37 = 1 ∧ znp 37 + 1 = 3 := by decide +kernel
theorem zr_37 (as : List zV) : zrk 37 as = 0 := by unfold zrk; rw [if_neg (by decide)]; decide +kernel
def lN_joins (r0 : Nat) (x1 : Int) (x2 : Int) (M : Nat → Nat → Int) : Option Int :=
    (if zis 3 r0 = true then
    (if x2 < 0 then
    (some (0 : Int))
    else
    ((rdI (r0 + 1) x1 M).bind (fun v9 =>
    (if (zand (zshr v9 x2) (1 : Int)) = 0 then
    (some (0 : Int))
    else
    (some (1 : Int))))))
    else none)
set_option maxRecDepth 100000 in
theorem ok_lN_joins {sc : zSc} {r0 : Nat} {x1 : Int} {x2 : Int} {M : Nat → Nat → Int} {P : Int → (Nat → Nat → Int) → Prop} (h : zS (lN_joins r0 x1 x2 M) (fun x => P x M)) : zCi sc 37 [.inr (.inr r0), .inl x1, .inl x2] M P := by
  have ea : zarg (zml 37) [.inr (.inr r0), .inl x1, .inl x2] = [some (.inr (.inr r0)), some (.inl x1), some (.inl x2)] := by rw [zm_37]; rfl
  unfold zCi zCw
  rw [ea, zr_37]
  have hq : 0 ≤ 0 := Nat.le_refl _
  unfold lN_joins at h
  have h := zS_mono h (fun x hx => (⟨x, rfl, hx⟩ : ∃ y, (some (.inl x) : Option zV) = some (.inl y) ∧ P y M))
  obtain ⟨hr0, h⟩ := zS_c h
  skip
  refine E_iload_n (pc := 0) (zDk zD_37_ok 0 rfl) rfl ?_
  refine E_if (pc := 1) (t := 21) (zDk zD_37_ok 1 rfl) rfl (fun hz => ?_) (fun hz => ?_)
  · have h := zS_t h (T_lt hz)
    refine E_iconst (pc := 21) (zDk zD_37_ok 13 rfl) (by decide +kernel) ?_
    have h := zS_some h
    exact E_ireturnZ (pc := 22) (zDk zD_37_ok 14 rfl) zt_37 (by decide) h
  · have h := zS_f h (Int.not_lt.mpr (F_lt hz))
    refine E_aload_n (pc := 4) (zDk zD_37_ok 2 rfl) rfl ?_
    refine E_getR (pc := 5) (ci := 3) (f := 0) (r := (r0 + 1)) (zDk zD_37_ok 3 rfl) zc_37 (by decide +kernel) (by decide) hr0 (zg_3_0 hr0) (zh_3_0 hr0) ?_
    refine E_iload_n (pc := 8) (zDk zD_37_ok 4 rfl) rfl ?_
    obtain ⟨v9, e9, h⟩ := zS_bind h
    refine E_iaload (pc := 9) (zDk zD_37_ok 5 rfl) e9 ?_
    refine E_iload_n (pc := 10) (zDk zD_37_ok 6 rfl) rfl ?_
    refine E_ishr (pc := 11) (zDk zD_37_ok 7 rfl) ?_
    refine E_iconst (pc := 12) (zDk zD_37_ok 8 rfl) (by decide +kernel) ?_
    refine E_iand (pc := 13) (zDk zD_37_ok 9 rfl) ?_
    refine E_if (pc := 14) (t := 21) (zDk zD_37_ok 10 rfl) rfl (fun hz => ?_) (fun hz => ?_)
    · have h := zS_t h (T_eq hz)
      refine E_iconst (pc := 21) (zDk zD_37_ok 13 rfl) (by decide +kernel) ?_
      have h := zS_some h
      exact E_ireturnZ (pc := 22) (zDk zD_37_ok 14 rfl) zt_37 (by decide) h
    · have h := zS_f h (F_eq hz)
      refine E_iconst (pc := 17) (zDk zD_37_ok 11 rfl) (by decide +kernel) ?_
      refine E_goto (pc := 18) (t := 22) (zDk zD_37_ok 12 rfl) rfl ?_
      have h := zS_some h
      exact E_ireturnZ (pc := 22) (zDk zD_37_ok 14 rfl) zt_37 (by decide) h
def zD_38 : List (Nat × Instr × Nat) := [(0, .iload_n (1), 1), (1, .istore_n (2), 1), (2, .iconst (0), 1), (3, .istore_n (3), 1), (4, .iload_n (3), 1), (5, .bipush (8), 2), (7, .if_icmp .ge (26), 3), (10, .iload_n (1), 1), (11, .iload_n (3), 1), (12, .ishr, 1), (13, .iconst (1), 1), (14, .iand, 1), (15, .ifCond .eq (12), 3), (18, .iload_n (2), 1), (19, .aload_n (0), 1), (20, .getfield (9), 3), (23, .iload_n (3), 1), (24, .iaload, 1), (25, .ior, 1), (26, .istore_n (2), 1), (27, .iinc (3) (1), 3), (30, .goto (-26), 3), (33, .iload_n (2), 1), (34, .ireturn, 1)]
set_option maxRecDepth 100000 in
theorem zD_38_ok : zDo 38 zD_38 = true := by decide +kernel
theorem zc_38 : zcls 38 = 3 := by decide +kernel
theorem zm_38 : zml 38 = 4 := by decide +kernel
theorem zt_38 : zrt 38 = (some (.int)) := by decide +kernel
theorem zk_38 : zkd 38 = 1 ∧ znp 38 + 1 = 2 := by decide +kernel
theorem zr_38 (as : List zV) : zrk 38 as = 0 := by unfold zrk; rw [if_neg (by decide)]; decide +kernel
def lN_spread_c4 (r0 : Nat) (x1 : Int) (M : Nat → Nat → Int) : Nat → Int → Int → Option Int
  | 0, _, _ => none
  | n + 1, y2, y3 =>
    (if y3 < (8 : Int) then
    (if (zand (zshr x1 y3) (1 : Int)) = 0 then
    ((lN_spread_c4 r0 x1 M n) y2 (w32 (y3 + 1)))
    else
    ((rdI (r0 + 1) y3 M).bind (fun v24 =>
    ((lN_spread_c4 r0 x1 M n) (zor y2 v24) (w32 (y3 + 1))))))
    else
    (some y2))
set_option maxRecDepth 100000 in
theorem ok_lN_spread_c4 {sc : zSc} {q : Nat} {P : Option zV → (Nat → Nat → Int) → Prop} (hq : 0 ≤ q) (r0 : Nat) (x1 : Int) (hr0 : zis 3 r0 = true) (M : Nat → Nat → Int) : ∀ (n : Nat) (y2 : Int) (y3 : Int), zS (lN_spread_c4 r0 x1 M n y2 y3) (fun x => P (some (.inl x)) M) → zWp sc q 38 4 [some (.inr (.inr r0)), some (.inl x1), some (.inl y2), some (.inl y3)] [] M P := by
  intro n
  induction n with
  | zero => intro y2 y3 h; exact (zS_none h).elim
  | succ n ih =>
    intro y2 y3 h
    rw [lN_spread_c4] at h
    refine E_iload_n (pc := 4) (zDk zD_38_ok 4 rfl) rfl ?_
    refine E_bipush (pc := 5) (zDk zD_38_ok 5 rfl) (by decide +kernel) ?_
    refine E_icmp (pc := 7) (t := 33) (zDk zD_38_ok 6 rfl) rfl (fun hz => ?_) (fun hz => ?_)
    · have h := zS_f h (Int.not_lt.mpr (T_ge hz))
      refine E_iload_n (pc := 33) (zDk zD_38_ok 22 rfl) rfl ?_
      have h := zS_some h
      exact E_ireturn (pc := 34) (zDk zD_38_ok 23 rfl) zt_38 h
    · have h := zS_t h (F_ge hz)
      refine E_iload_n (pc := 10) (zDk zD_38_ok 7 rfl) rfl ?_
      refine E_iload_n (pc := 11) (zDk zD_38_ok 8 rfl) rfl ?_
      refine E_ishr (pc := 12) (zDk zD_38_ok 9 rfl) ?_
      refine E_iconst (pc := 13) (zDk zD_38_ok 10 rfl) (by decide +kernel) ?_
      refine E_iand (pc := 14) (zDk zD_38_ok 11 rfl) ?_
      refine E_if (pc := 15) (t := 27) (zDk zD_38_ok 12 rfl) rfl (fun hz => ?_) (fun hz => ?_)
      · have h := zS_t h (T_eq hz)
        refine W_iinc (pc := 27) (L' := [some (.inr (.inr r0)), some (.inl x1), some (.inl y2), some (.inl (w32 (y3 + 1)))]) (zDk zD_38_ok 20 rfl) rfl zm_38 (by decide) rfl ?_
        refine E_goto (pc := 30) (t := 4) (zDk zD_38_ok 21 rfl) rfl ?_
        exact (ih) y2 (w32 (y3 + 1)) h
      · have h := zS_f h (F_eq hz)
        refine E_iload_n (pc := 18) (zDk zD_38_ok 13 rfl) rfl ?_
        refine E_aload_n (pc := 19) (zDk zD_38_ok 14 rfl) rfl ?_
        refine E_getR (pc := 20) (ci := 3) (f := 0) (r := (r0 + 1)) (zDk zD_38_ok 15 rfl) zc_38 (by decide +kernel) (by decide) hr0 (zg_3_0 hr0) (zh_3_0 hr0) ?_
        refine E_iload_n (pc := 23) (zDk zD_38_ok 16 rfl) rfl ?_
        obtain ⟨v24, e24, h⟩ := zS_bind h
        refine E_iaload (pc := 24) (zDk zD_38_ok 17 rfl) e24 ?_
        refine E_ior (pc := 25) (zDk zD_38_ok 18 rfl) ?_
        refine W_istore_n (pc := 26) (L' := [some (.inr (.inr r0)), some (.inl x1), some (.inl (zor y2 v24)), some (.inl y3)]) (zDk zD_38_ok 19 rfl) zm_38 (by decide) rfl ?_
        refine W_iinc (pc := 27) (L' := [some (.inr (.inr r0)), some (.inl x1), some (.inl (zor y2 v24)), some (.inl (w32 (y3 + 1)))]) (zDk zD_38_ok 20 rfl) rfl zm_38 (by decide) rfl ?_
        refine E_goto (pc := 30) (t := 4) (zDk zD_38_ok 21 rfl) rfl ?_
        exact (ih) (zor y2 v24) (w32 (y3 + 1)) h
def lN_spread (r0 : Nat) (x1 : Int) (M : Nat → Nat → Int) : Option Int :=
    (if zis 3 r0 = true then
    (lN_spread_c4 r0 x1 M zN x1 (0 : Int))
    else none)
set_option maxRecDepth 100000 in
theorem ok_lN_spread {sc : zSc} {r0 : Nat} {x1 : Int} {M : Nat → Nat → Int} {P : Int → (Nat → Nat → Int) → Prop} (h : zS (lN_spread r0 x1 M) (fun x => P x M)) : zCi sc 38 [.inr (.inr r0), .inl x1] M P := by
  have ea : zarg (zml 38) [.inr (.inr r0), .inl x1] = [some (.inr (.inr r0)), some (.inl x1), none, none] := by rw [zm_38]; rfl
  unfold zCi zCw
  rw [ea, zr_38]
  have hq : 0 ≤ 0 := Nat.le_refl _
  unfold lN_spread at h
  have h := zS_mono h (fun x hx => (⟨x, rfl, hx⟩ : ∃ y, (some (.inl x) : Option zV) = some (.inl y) ∧ P y M))
  obtain ⟨hr0, h⟩ := zS_c h
  skip
  refine E_iload_n (pc := 0) (zDk zD_38_ok 0 rfl) rfl ?_
  refine W_istore_n (pc := 1) (L' := [some (.inr (.inr r0)), some (.inl x1), some (.inl x1), none]) (zDk zD_38_ok 1 rfl) zm_38 (by decide) rfl ?_
  refine E_iconst (pc := 2) (zDk zD_38_ok 2 rfl) (by decide +kernel) ?_
  refine W_istore_n (pc := 3) (L' := [some (.inr (.inr r0)), some (.inl x1), some (.inl x1), some (.inl (0 : Int))]) (zDk zD_38_ok 3 rfl) zm_38 (by decide) rfl ?_
  exact ok_lN_spread_c4 hq r0 x1 hr0 M zN x1 (0 : Int) h
def zD_42 : List (Nat × Instr × Nat) := [(0, .bipush (24), 2), (2, .istore_n (2), 1), (3, .iload_n (2), 1), (4, .ifCond .lt (45), 3), (7, .aload_n (0), 1), (8, .getfield (19), 3), (11, .sipush (900), 3), (14, .if_icmp .ge (35), 3), (17, .aload_n (0), 1), (18, .getfield (11), 3), (21, .aload_n (0), 1), (22, .getfield (19), 3), (25, .iload_n (1), 1), (26, .iload_n (2), 1), (27, .ishr, 1), (28, .sipush (255), 3), (31, .iand, 1), (32, .iastore, 1), (33, .aload_n (0), 1), (34, .dup, 1), (35, .getfield (19), 3), (38, .iconst (1), 1), (39, .iadd, 1), (40, .putfield (19), 3), (43, .iinc (2) (-8), 3), (46, .goto (-43), 3), (49, .return_, 1)]
set_option maxRecDepth 100000 in
theorem zD_42_ok : zDo 42 zD_42 = true := by decide +kernel
theorem zc_42 : zcls 42 = 4 := by decide +kernel
theorem zm_42 : zml 42 = 3 := by decide +kernel
theorem zt_42 : zrt 42 = none := by decide +kernel
theorem zk_42 : zkd 42 = 1 ∧ znp 42 + 1 = 2 := by decide +kernel
theorem zr_42 (as : List zV) : zrk 42 as = 0 := by unfold zrk; rw [if_neg (by decide)]; decide +kernel
def lR_addNumber_c3 (x1 : Int) : Nat → Int → (Nat → Nat → Int) → Option (Nat → Nat → Int)
  | 0, _, _ => none
  | n + 1, y2, M =>
    (if y2 < 0 then
    (some M)
    else
    (if (M 1 1) < (900 : Int) then
    ((wrI 2 (M 1 1) (zand (zshr x1 y2) (255 : Int)) M).bind (fun M32 =>
    ((some (zup M32 1 1 (w32 ((M32 1 1) + (1 : Int))))).bind (fun M40 =>
    ((lR_addNumber_c3 x1 n) (w32 (y2 + (-8))) M40)))))
    else
    (some M)))
set_option maxRecDepth 100000 in
theorem ok_lR_addNumber_c3 {sc : zSc} {q : Nat} {P : Option zV → (Nat → Nat → Int) → Prop} (hq : 0 ≤ q) (x1 : Int) : ∀ (n : Nat) (y2 : Int) (M : Nat → Nat → Int), zS (lR_addNumber_c3 x1 n y2 M) (fun M0 => P none M0) → zWp sc q 42 3 [some (.inr (.inr 1)), some (.inl x1), some (.inl y2)] [] M P := by
  intro n
  induction n with
  | zero => intro y2 M h; exact (zS_none h).elim
  | succ n ih =>
    intro y2 M h
    rw [lR_addNumber_c3] at h
    refine E_iload_n (pc := 3) (zDk zD_42_ok 2 rfl) rfl ?_
    refine E_if (pc := 4) (t := 49) (zDk zD_42_ok 3 rfl) rfl (fun hz => ?_) (fun hz => ?_)
    · have h := zS_t h (T_lt hz)
      have h := zS_some h
      exact E_return (x := ()) (pc := 49) (zDk zD_42_ok 26 rfl) zt_42 h
    · have h := zS_f h (Int.not_lt.mpr (F_lt hz))
      refine E_aload_n (pc := 7) (zDk zD_42_ok 4 rfl) rfl ?_
      refine E_getI (pc := 8) (ci := 4) (f := 1) (zDk zD_42_ok 5 rfl) zc_42 (by decide +kernel) (by decide) zis_4_1 ?_
      refine E_sipush (pc := 11) (zDk zD_42_ok 6 rfl) (by decide +kernel) ?_
      refine E_icmp (pc := 14) (t := 49) (zDk zD_42_ok 7 rfl) rfl (fun hz => ?_) (fun hz => ?_)
      · have h := zS_f h (Int.not_lt.mpr (T_ge hz))
        have h := zS_some h
        exact E_return (x := ()) (pc := 49) (zDk zD_42_ok 26 rfl) zt_42 h
      · have h := zS_t h (F_ge hz)
        refine E_aload_n (pc := 17) (zDk zD_42_ok 8 rfl) rfl ?_
        refine E_getR (pc := 18) (ci := 4) (f := 0) (r := 2) (zDk zD_42_ok 9 rfl) zc_42 (by decide +kernel) (by decide) zis_4_1 (by decide +kernel) (by decide) ?_
        refine E_aload_n (pc := 21) (zDk zD_42_ok 10 rfl) rfl ?_
        refine E_getI (pc := 22) (ci := 4) (f := 1) (zDk zD_42_ok 11 rfl) zc_42 (by decide +kernel) (by decide) zis_4_1 ?_
        refine E_iload_n (pc := 25) (zDk zD_42_ok 12 rfl) rfl ?_
        refine E_iload_n (pc := 26) (zDk zD_42_ok 13 rfl) rfl ?_
        refine E_ishr (pc := 27) (zDk zD_42_ok 14 rfl) ?_
        refine E_sipush (pc := 28) (zDk zD_42_ok 15 rfl) (by decide +kernel) ?_
        refine E_iand (pc := 31) (zDk zD_42_ok 16 rfl) ?_
        obtain ⟨M32, e32, h⟩ := zS_bind h
        refine E_iastore (pc := 32) (zDk zD_42_ok 17 rfl) e32 ?_
        refine E_aload_n (pc := 33) (zDk zD_42_ok 18 rfl) rfl ?_
        refine E_dup (pc := 34) (zDk zD_42_ok 19 rfl) rfl ?_
        refine E_getI (pc := 35) (ci := 4) (f := 1) (zDk zD_42_ok 20 rfl) zc_42 (by decide +kernel) (by decide) zis_4_1 ?_
        refine E_iconst (pc := 38) (zDk zD_42_ok 21 rfl) (by decide +kernel) ?_
        refine W_iadd (pc := 39) (zDk zD_42_ok 22 rfl) ?_
        obtain ⟨M40, e40, h⟩ := zS_bind h
        refine W_putI (pc := 40) (ci := 4) (f := 1) (zDk zD_42_ok 23 rfl) zc_42 (by decide +kernel) (by decide) zis_4_1 (Option.some.inj e40) ?_
        refine W_iinc (pc := 43) (L' := [some (.inr (.inr 1)), some (.inl x1), some (.inl (w32 (y2 + (-8))))]) (zDk zD_42_ok 24 rfl) rfl zm_42 (by decide) rfl ?_
        refine E_goto (pc := 46) (t := 3) (zDk zD_42_ok 25 rfl) rfl ?_
        exact (ih) (w32 (y2 + (-8))) M40 h
def lR_addNumber (x1 : Int) (M : Nat → Nat → Int) : Option (Nat → Nat → Int) :=
    (lR_addNumber_c3 x1 zN (24 : Int) M)
set_option maxRecDepth 100000 in
theorem ok_lR_addNumber {sc : zSc} {x1 : Int} {M : Nat → Nat → Int} {P : (Nat → Nat → Int) → Prop} (h : zS (lR_addNumber x1 M) P) : zCv sc 42 [.inr (.inr 1), .inl x1] M P := by
  have ea : zarg (zml 42) [.inr (.inr 1), .inl x1] = [some (.inr (.inr 1)), some (.inl x1), none] := by rw [zm_42]; rfl
  unfold zCv zCw
  rw [ea, zr_42]
  have hq : 0 ≤ 0 := Nat.le_refl _
  unfold lR_addNumber at h
  have h := zS_mono h (fun x hx => (⟨rfl, hx⟩ : (none : Option zV) = none ∧ P x))
  skip
  refine E_bipush (pc := 0) (zDk zD_42_ok 0 rfl) (by decide +kernel) ?_
  refine W_istore_n (pc := 2) (L' := [some (.inr (.inr 1)), some (.inl x1), some (.inl (24 : Int))]) (zDk zD_42_ok 1 rfl) zm_42 (by decide) rfl ?_
  exact ok_lR_addNumber_c3 hq x1 zN (24 : Int) M h
def zD_51 : List (Nat × Instr × Nat) := [(0, .aload_n (0), 1), (1, .getfield (27), 3), (4, .ifCond .ne (16), 3), (7, .aload_n (0), 1), (8, .iload_n (1), 1), (9, .putfield (27), 3), (12, .aload_n (0), 1), (13, .aload_n (0), 1), (14, .getfield (159), 3), (17, .putfield (15), 3), (20, .return_, 1)]
set_option maxRecDepth 100000 in
theorem zD_51_ok : zDo 51 zD_51 = true := by decide +kernel
theorem zc_51 : zcls 51 = 4 := by decide +kernel
theorem zm_51 : zml 51 = 2 := by decide +kernel
theorem zt_51 : zrt 51 = none := by decide +kernel
theorem zk_51 : zkd 51 = 1 ∧ znp 51 + 1 = 2 := by decide +kernel
theorem zr_51 (as : List zV) : zrk 51 as = 0 := by unfold zrk; rw [if_neg (by decide)]; decide +kernel
def lR_fail (x1 : Int) (M : Nat → Nat → Int) : Option (Nat → Nat → Int) :=
    (if (M 1 2) = 0 then
    ((some (zup M 1 2 x1)).bind (fun M9 =>
    ((some (zup M9 1 3 (M9 1 5))).bind (fun M17 =>
    (some M17)))))
    else
    (some M))
set_option maxRecDepth 100000 in
theorem ok_lR_fail {sc : zSc} {x1 : Int} {M : Nat → Nat → Int} {P : (Nat → Nat → Int) → Prop} (h : zS (lR_fail x1 M) P) : zCv sc 51 [.inr (.inr 1), .inl x1] M P := by
  have ea : zarg (zml 51) [.inr (.inr 1), .inl x1] = [some (.inr (.inr 1)), some (.inl x1)] := by rw [zm_51]; rfl
  unfold zCv zCw
  rw [ea, zr_51]
  have hq : 0 ≤ 0 := Nat.le_refl _
  unfold lR_fail at h
  have h := zS_mono h (fun x hx => (⟨rfl, hx⟩ : (none : Option zV) = none ∧ P x))
  skip
  refine E_aload_n (pc := 0) (zDk zD_51_ok 0 rfl) rfl ?_
  refine E_getI (pc := 1) (ci := 4) (f := 2) (zDk zD_51_ok 1 rfl) zc_51 (by decide +kernel) (by decide) zis_4_1 ?_
  refine E_if (pc := 4) (t := 20) (zDk zD_51_ok 2 rfl) rfl (fun hz => ?_) (fun hz => ?_)
  · have h := zS_f h (T_ne hz)
    have h := zS_some h
    exact E_return (x := ()) (pc := 20) (zDk zD_51_ok 10 rfl) zt_51 h
  · have h := zS_t h (F_ne hz)
    refine E_aload_n (pc := 7) (zDk zD_51_ok 3 rfl) rfl ?_
    refine E_iload_n (pc := 8) (zDk zD_51_ok 4 rfl) rfl ?_
    obtain ⟨M9, e9, h⟩ := zS_bind h
    refine W_putI (pc := 9) (ci := 4) (f := 2) (zDk zD_51_ok 5 rfl) zc_51 (by decide +kernel) (by decide) zis_4_1 (Option.some.inj e9) ?_
    refine E_aload_n (pc := 12) (zDk zD_51_ok 6 rfl) rfl ?_
    refine E_aload_n (pc := 13) (zDk zD_51_ok 7 rfl) rfl ?_
    refine E_getI (pc := 14) (ci := 4) (f := 5) (zDk zD_51_ok 8 rfl) zc_51 (by decide +kernel) (by decide) zis_4_1 ?_
    obtain ⟨M17, e17, h⟩ := zS_bind h
    refine W_putI (pc := 17) (ci := 4) (f := 3) (zDk zD_51_ok 9 rfl) zc_51 (by decide +kernel) (by decide) zis_4_1 (Option.some.inj e17) ?_
    have h := zS_some h
    exact E_return (x := ()) (pc := 20) (zDk zD_51_ok 10 rfl) zt_51 h
def zD_57 : List (Nat × Instr × Nat) := [(0, .iload_n (0), 1), (1, .bipush (97), 2), (3, .if_icmp .lt (11), 3), (6, .iload_n (0), 1), (7, .bipush (122), 2), (9, .if_icmp .gt (5), 3), (12, .iconst (1), 1), (13, .ireturn, 1), (14, .iload_n (0), 1), (15, .bipush (48), 2), (17, .if_icmp .lt (11), 3), (20, .iload_n (0), 1), (21, .bipush (57), 2), (23, .if_icmp .gt (5), 3), (26, .iconst (2), 1), (27, .ireturn, 1), (28, .iload_n (0), 1), (29, .bipush (59), 2), (31, .if_icmp .ne (7), 3), (34, .iconst (3), 1), (35, .goto (4), 3), (38, .iconst (4), 1), (39, .ireturn, 1)]
set_option maxRecDepth 100000 in
theorem zD_57_ok : zDo 57 zD_57 = true := by decide +kernel
theorem zc_57 : zcls 57 = 4 := by decide +kernel
theorem zm_57 : zml 57 = 1 := by decide +kernel
theorem zt_57 : zrt 57 = (some (.int)) := by decide +kernel
theorem zk_57 : zkd 57 = 0 ∧ znp 57 = 1 := by decide +kernel
theorem zr_57 (as : List zV) : zrk 57 as = 0 := by unfold zrk; rw [if_neg (by decide)]; decide +kernel
def lR_kindOf_c14 (x0 : Int) (M : Nat → Nat → Int) : Option Int :=
    (if x0 < (48 : Int) then
    (if x0 = (59 : Int) then
    (some (3 : Int))
    else
    (some (4 : Int)))
    else
    (if (57 : Int) < x0 then
    (if x0 = (59 : Int) then
    (some (3 : Int))
    else
    (some (4 : Int)))
    else
    (some (2 : Int))))
set_option maxRecDepth 100000 in
theorem ok_lR_kindOf_c14 {sc : zSc} {q : Nat} {P : Option zV → (Nat → Nat → Int) → Prop} (hq : 0 ≤ q) (x0 : Int) (M : Nat → Nat → Int) : zS (lR_kindOf_c14 x0 M) (fun x => P (some (.inl x)) M) → zWp sc q 57 14 [some (.inl x0)] [] M P := by
  intro  h
  unfold lR_kindOf_c14 at h
  refine E_iload_n (pc := 14) (zDk zD_57_ok 8 rfl) rfl ?_
  refine E_bipush (pc := 15) (zDk zD_57_ok 9 rfl) (by decide +kernel) ?_
  refine E_icmp (pc := 17) (t := 28) (zDk zD_57_ok 10 rfl) rfl (fun hz => ?_) (fun hz => ?_)
  · have h := zS_t h (T_lt hz)
    refine E_iload_n (pc := 28) (zDk zD_57_ok 16 rfl) rfl ?_
    refine E_bipush (pc := 29) (zDk zD_57_ok 17 rfl) (by decide +kernel) ?_
    refine E_icmp (pc := 31) (t := 38) (zDk zD_57_ok 18 rfl) rfl (fun hz => ?_) (fun hz => ?_)
    · have h := zS_f h (T_ne hz)
      refine E_iconst (pc := 38) (zDk zD_57_ok 21 rfl) (by decide +kernel) ?_
      have h := zS_some h
      exact E_ireturn (pc := 39) (zDk zD_57_ok 22 rfl) zt_57 h
    · have h := zS_t h (F_ne hz)
      refine E_iconst (pc := 34) (zDk zD_57_ok 19 rfl) (by decide +kernel) ?_
      refine E_goto (pc := 35) (t := 39) (zDk zD_57_ok 20 rfl) rfl ?_
      have h := zS_some h
      exact E_ireturn (pc := 39) (zDk zD_57_ok 22 rfl) zt_57 h
  · have h := zS_f h (Int.not_lt.mpr (F_lt hz))
    refine E_iload_n (pc := 20) (zDk zD_57_ok 11 rfl) rfl ?_
    refine E_bipush (pc := 21) (zDk zD_57_ok 12 rfl) (by decide +kernel) ?_
    refine E_icmp (pc := 23) (t := 28) (zDk zD_57_ok 13 rfl) rfl (fun hz => ?_) (fun hz => ?_)
    · have h := zS_t h (T_gt hz)
      refine E_iload_n (pc := 28) (zDk zD_57_ok 16 rfl) rfl ?_
      refine E_bipush (pc := 29) (zDk zD_57_ok 17 rfl) (by decide +kernel) ?_
      refine E_icmp (pc := 31) (t := 38) (zDk zD_57_ok 18 rfl) rfl (fun hz => ?_) (fun hz => ?_)
      · have h := zS_f h (T_ne hz)
        refine E_iconst (pc := 38) (zDk zD_57_ok 21 rfl) (by decide +kernel) ?_
        have h := zS_some h
        exact E_ireturn (pc := 39) (zDk zD_57_ok 22 rfl) zt_57 h
      · have h := zS_t h (F_ne hz)
        refine E_iconst (pc := 34) (zDk zD_57_ok 19 rfl) (by decide +kernel) ?_
        refine E_goto (pc := 35) (t := 39) (zDk zD_57_ok 20 rfl) rfl ?_
        have h := zS_some h
        exact E_ireturn (pc := 39) (zDk zD_57_ok 22 rfl) zt_57 h
    · have h := zS_f h (Int.not_lt.mpr (F_gt hz))
      refine E_iconst (pc := 26) (zDk zD_57_ok 14 rfl) (by decide +kernel) ?_
      have h := zS_some h
      exact E_ireturn (pc := 27) (zDk zD_57_ok 15 rfl) zt_57 h
def lR_kindOf (x0 : Int) (M : Nat → Nat → Int) : Option Int :=
    (if x0 < (97 : Int) then
    (lR_kindOf_c14 x0 M)
    else
    (if (122 : Int) < x0 then
    (lR_kindOf_c14 x0 M)
    else
    (some (1 : Int))))
set_option maxRecDepth 100000 in
theorem ok_lR_kindOf {sc : zSc} {x0 : Int} {M : Nat → Nat → Int} {P : Int → (Nat → Nat → Int) → Prop} (h : zS (lR_kindOf x0 M) (fun x => P x M)) : zCi sc 57 [.inl x0] M P := by
  have ea : zarg (zml 57) [.inl x0] = [some (.inl x0)] := by rw [zm_57]; rfl
  unfold zCi zCw
  rw [ea, zr_57]
  have hq : 0 ≤ 0 := Nat.le_refl _
  unfold lR_kindOf at h
  have h := zS_mono h (fun x hx => (⟨x, rfl, hx⟩ : ∃ y, (some (.inl x) : Option zV) = some (.inl y) ∧ P y M))
  skip
  refine E_iload_n (pc := 0) (zDk zD_57_ok 0 rfl) rfl ?_
  refine E_bipush (pc := 1) (zDk zD_57_ok 1 rfl) (by decide +kernel) ?_
  refine E_icmp (pc := 3) (t := 14) (zDk zD_57_ok 2 rfl) rfl (fun hz => ?_) (fun hz => ?_)
  · have h := zS_t h (T_lt hz)
    exact ok_lR_kindOf_c14 hq x0 M h
  · have h := zS_f h (Int.not_lt.mpr (F_lt hz))
    refine E_iload_n (pc := 6) (zDk zD_57_ok 3 rfl) rfl ?_
    refine E_bipush (pc := 7) (zDk zD_57_ok 4 rfl) (by decide +kernel) ?_
    refine E_icmp (pc := 9) (t := 14) (zDk zD_57_ok 5 rfl) rfl (fun hz => ?_) (fun hz => ?_)
    · have h := zS_t h (T_gt hz)
      exact ok_lR_kindOf_c14 hq x0 M h
    · have h := zS_f h (Int.not_lt.mpr (F_gt hz))
      refine E_iconst (pc := 12) (zDk zD_57_ok 6 rfl) (by decide +kernel) ?_
      have h := zS_some h
      exact E_ireturn (pc := 13) (zDk zD_57_ok 7 rfl) zt_57 h
def zD_59 : List (Nat × Instr × Nat) := [(0, .iload_n (0), 1), (1, .ifCond .lt (12), 3), (4, .iload_n (0), 1), (5, .iconst (4), 1), (6, .if_icmp .ge (7), 3), (9, .iconst (1), 1), (10, .goto (4), 3), (13, .iconst (0), 1), (14, .ireturn, 1)]
set_option maxRecDepth 100000 in
theorem zD_59_ok : zDo 59 zD_59 = true := by decide +kernel
theorem zc_59 : zcls 59 = 5 := by decide +kernel
theorem zm_59 : zml 59 = 1 := by decide +kernel
theorem zt_59 : zrt 59 = (some (.boolean)) := by decide +kernel
theorem zk_59 : zkd 59 = 0 ∧ znp 59 = 1 := by decide +kernel
theorem zr_59 (as : List zV) : zrk 59 as = 0 := by unfold zrk; rw [if_neg (by decide)]; decide +kernel
def lW_isSlot (x0 : Int) (M : Nat → Nat → Int) : Option Int :=
    (if x0 < 0 then
    (some (0 : Int))
    else
    (if x0 < (4 : Int) then
    (some (1 : Int))
    else
    (some (0 : Int))))
set_option maxRecDepth 100000 in
theorem ok_lW_isSlot {sc : zSc} {x0 : Int} {M : Nat → Nat → Int} {P : Int → (Nat → Nat → Int) → Prop} (h : zS (lW_isSlot x0 M) (fun x => P x M)) : zCi sc 59 [.inl x0] M P := by
  have ea : zarg (zml 59) [.inl x0] = [some (.inl x0)] := by rw [zm_59]; rfl
  unfold zCi zCw
  rw [ea, zr_59]
  have hq : 0 ≤ 0 := Nat.le_refl _
  unfold lW_isSlot at h
  have h := zS_mono h (fun x hx => (⟨x, rfl, hx⟩ : ∃ y, (some (.inl x) : Option zV) = some (.inl y) ∧ P y M))
  skip
  refine E_iload_n (pc := 0) (zDk zD_59_ok 0 rfl) rfl ?_
  refine E_if (pc := 1) (t := 13) (zDk zD_59_ok 1 rfl) rfl (fun hz => ?_) (fun hz => ?_)
  · have h := zS_t h (T_lt hz)
    refine E_iconst (pc := 13) (zDk zD_59_ok 7 rfl) (by decide +kernel) ?_
    have h := zS_some h
    exact E_ireturnZ (pc := 14) (zDk zD_59_ok 8 rfl) zt_59 (by decide) h
  · have h := zS_f h (Int.not_lt.mpr (F_lt hz))
    refine E_iload_n (pc := 4) (zDk zD_59_ok 2 rfl) rfl ?_
    refine E_iconst (pc := 5) (zDk zD_59_ok 3 rfl) (by decide +kernel) ?_
    refine E_icmp (pc := 6) (t := 13) (zDk zD_59_ok 4 rfl) rfl (fun hz => ?_) (fun hz => ?_)
    · have h := zS_f h (Int.not_lt.mpr (T_ge hz))
      refine E_iconst (pc := 13) (zDk zD_59_ok 7 rfl) (by decide +kernel) ?_
      have h := zS_some h
      exact E_ireturnZ (pc := 14) (zDk zD_59_ok 8 rfl) zt_59 (by decide) h
    · have h := zS_t h (F_ge hz)
      refine E_iconst (pc := 9) (zDk zD_59_ok 5 rfl) (by decide +kernel) ?_
      refine E_goto (pc := 10) (t := 14) (zDk zD_59_ok 6 rfl) rfl ?_
      have h := zS_some h
      exact E_ireturnZ (pc := 14) (zDk zD_59_ok 8 rfl) zt_59 (by decide) h
def zD_60 : List (Nat × Instr × Nat) := [(0, .aload_n (0), 1), (1, .getfield (11), 3), (4, .iload_n (1), 1), (5, .iaload, 1), (6, .iconst (-1), 1), (7, .if_icmp .eq (7), 3), (10, .iconst (1), 1), (11, .goto (4), 3), (14, .iconst (0), 1), (15, .ireturn, 1)]
set_option maxRecDepth 100000 in
theorem zD_60_ok : zDo 60 zD_60 = true := by decide +kernel
theorem zc_60 : zcls 60 = 5 := by decide +kernel
theorem zm_60 : zml 60 = 2 := by decide +kernel
theorem zt_60 : zrt 60 = (some (.boolean)) := by decide +kernel
theorem zk_60 : zkd 60 = 1 ∧ znp 60 + 1 = 2 := by decide +kernel
theorem zr_60 (as : List zV) : zrk 60 as = 0 := by unfold zrk; rw [if_neg (by decide)]; decide +kernel
def lW_isFilled (x1 : Int) (M : Nat → Nat → Int) : Option Int :=
    ((rdI 98 x1 M).bind (fun v5 =>
    (if v5 = (-1 : Int) then
    (some (0 : Int))
    else
    (some (1 : Int)))))
set_option maxRecDepth 100000 in
theorem ok_lW_isFilled {sc : zSc} {x1 : Int} {M : Nat → Nat → Int} {P : Int → (Nat → Nat → Int) → Prop} (h : zS (lW_isFilled x1 M) (fun x => P x M)) : zCi sc 60 [.inr (.inr 97), .inl x1] M P := by
  have ea : zarg (zml 60) [.inr (.inr 97), .inl x1] = [some (.inr (.inr 97)), some (.inl x1)] := by rw [zm_60]; rfl
  unfold zCi zCw
  rw [ea, zr_60]
  have hq : 0 ≤ 0 := Nat.le_refl _
  unfold lW_isFilled at h
  have h := zS_mono h (fun x hx => (⟨x, rfl, hx⟩ : ∃ y, (some (.inl x) : Option zV) = some (.inl y) ∧ P y M))
  skip
  refine E_aload_n (pc := 0) (zDk zD_60_ok 0 rfl) rfl ?_
  refine E_getR (pc := 1) (ci := 5) (f := 0) (r := 98) (zDk zD_60_ok 1 rfl) zc_60 (by decide +kernel) (by decide) zis_5_97 (by decide +kernel) (by decide) ?_
  refine E_iload_n (pc := 4) (zDk zD_60_ok 2 rfl) rfl ?_
  obtain ⟨v5, e5, h⟩ := zS_bind h
  refine E_iaload (pc := 5) (zDk zD_60_ok 3 rfl) e5 ?_
  refine E_iconst (pc := 6) (zDk zD_60_ok 4 rfl) (by decide +kernel) ?_
  refine E_icmp (pc := 7) (t := 14) (zDk zD_60_ok 5 rfl) rfl (fun hz => ?_) (fun hz => ?_)
  · have h := zS_t h (T_eq hz)
    refine E_iconst (pc := 14) (zDk zD_60_ok 8 rfl) (by decide +kernel) ?_
    have h := zS_some h
    exact E_ireturnZ (pc := 15) (zDk zD_60_ok 9 rfl) zt_60 (by decide) h
  · have h := zS_f h (F_eq hz)
    refine E_iconst (pc := 10) (zDk zD_60_ok 6 rfl) (by decide +kernel) ?_
    refine E_goto (pc := 11) (t := 15) (zDk zD_60_ok 7 rfl) rfl ?_
    have h := zS_some h
    exact E_ireturnZ (pc := 15) (zDk zD_60_ok 9 rfl) zt_60 (by decide) h
def zD_62 : List (Nat × Instr × Nat) := [(0, .iload_n (0), 1), (1, .tableswitch (41) (0) (2) #[27, 32, 37], 27), (28, .lload_n (1), 1), (29, .l2i, 1), (30, .i2b, 1), (31, .i2l, 1), (32, .lreturn, 1), (33, .lload_n (1), 1), (34, .l2i, 1), (35, .i2s, 1), (36, .i2l, 1), (37, .lreturn, 1), (38, .lload_n (1), 1), (39, .l2i, 1), (40, .i2l, 1), (41, .lreturn, 1), (42, .lload_n (1), 1), (43, .lreturn, 1)]
set_option maxRecDepth 100000 in
theorem zD_62_ok : zDo 62 zD_62 = true := by decide +kernel
theorem zc_62 : zcls 62 = 5 := by decide +kernel
theorem zm_62 : zml 62 = 3 := by decide +kernel
theorem zt_62 : zrt 62 = (some (.long)) := by decide +kernel
theorem zk_62 : zkd 62 = 0 ∧ znp 62 = 2 := by decide +kernel
theorem zr_62 (as : List zV) : zrk 62 as = 0 := by unfold zrk; rw [if_neg (by decide)]; decide +kernel
def lW_cutTo (x0 : Int) (x1 : Int) (M : Nat → Nat → Int) : Option Int :=
    (if x0 = 0 then
    (some (zi2b (w32 x1)))
    else
    (if x0 = 1 then
    (some (zi2s (w32 x1)))
    else
    (if x0 = 2 then
    (some (w32 x1))
    else
    (some x1))))
set_option maxRecDepth 100000 in
theorem ok_lW_cutTo {sc : zSc} {x0 : Int} {x1 : Int} {M : Nat → Nat → Int} {P : Int → (Nat → Nat → Int) → Prop} (h : zS (lW_cutTo x0 x1 M) (fun x => P x M)) : zCl sc 62 [.inl x0, .inr (.inl x1)] M P := by
  have ea : zarg (zml 62) [.inl x0, .inr (.inl x1)] = [some (.inl x0), some (.inr (.inl x1)), none] := by rw [zm_62]; rfl
  unfold zCl zCw
  rw [ea, zr_62]
  have hq : 0 ≤ 0 := Nat.le_refl _
  unfold lW_cutTo at h
  have h := zS_mono h (fun x hx => (⟨x, rfl, hx⟩ : ∃ y, (some (.inr (.inl x)) : Option zV) = some (.inr (.inl y)) ∧ P y M))
  skip
  refine E_iload_n (pc := 0) (zDk zD_62_ok 0 rfl) rfl ?_
  by_cases hk0 : x0 = 0
  · have h := zS_t h hk0
    refine E_tsw (pc := 1) (o := 27) (t := 28) (zDk zD_62_ok 1 rfl) (by rw [hk0]; decide +kernel) rfl (Or.inr (by rw [hk0]; decide)) ?_
    refine E_lload_n (pc := 28) (zDk zD_62_ok 2 rfl) rfl ?_
    refine E_l2i (pc := 29) (zDk zD_62_ok 3 rfl) ?_
    refine E_i2b (pc := 30) (zDk zD_62_ok 4 rfl) ?_
    refine E_i2l (pc := 31) (zDk zD_62_ok 5 rfl) ?_
    have h := zS_some h
    exact E_lreturn (pc := 32) (zDk zD_62_ok 6 rfl) zt_62 h
  · have h := zS_f h hk0
    by_cases hk1 : x0 = 1
    · have h := zS_t h hk1
      refine E_tsw (pc := 1) (o := 32) (t := 33) (zDk zD_62_ok 1 rfl) (by rw [hk1]; decide +kernel) rfl (Or.inr (by rw [hk1]; decide)) ?_
      refine E_lload_n (pc := 33) (zDk zD_62_ok 7 rfl) rfl ?_
      refine E_l2i (pc := 34) (zDk zD_62_ok 8 rfl) ?_
      refine E_i2s (pc := 35) (zDk zD_62_ok 9 rfl) ?_
      refine E_i2l (pc := 36) (zDk zD_62_ok 10 rfl) ?_
      have h := zS_some h
      exact E_lreturn (pc := 37) (zDk zD_62_ok 11 rfl) zt_62 h
    · have h := zS_f h hk1
      by_cases hk2 : x0 = 2
      · have h := zS_t h hk2
        refine E_tsw (pc := 1) (o := 37) (t := 38) (zDk zD_62_ok 1 rfl) (by rw [hk2]; decide +kernel) rfl (Or.inr (by rw [hk2]; decide)) ?_
        refine E_lload_n (pc := 38) (zDk zD_62_ok 12 rfl) rfl ?_
        refine E_l2i (pc := 39) (zDk zD_62_ok 13 rfl) ?_
        refine E_i2l (pc := 40) (zDk zD_62_ok 14 rfl) ?_
        have h := zS_some h
        exact E_lreturn (pc := 41) (zDk zD_62_ok 15 rfl) zt_62 h
      · have h := zS_f h hk2
        refine E_tsw (pc := 1) (o := 41) (t := 42) (zDk zD_62_ok 1 rfl) (if_pos (by omega)) rfl (Or.inl (by omega)) ?_
        refine E_lload_n (pc := 42) (zDk zD_62_ok 16 rfl) rfl ?_
        have h := zS_some h
        exact E_lreturn (pc := 43) (zDk zD_62_ok 17 rfl) zt_62 h
def zD_63 : List (Nat × Instr × Nat) := [(0, .iload_n (2), 1), (1, .ifCond .lt (23), 3), (4, .iload_n (3), 1), (5, .ifCond .lt (19), 3), (8, .iload_n (2), 1), (9, .aload_n (0), 1), (10, .getfield (15), 3), (13, .iload_n (1), 1), (14, .iaload, 1), (15, .iload_n (3), 1), (16, .isub, 1), (17, .if_icmp .gt (7), 3), (20, .iconst (1), 1), (21, .goto (4), 3), (24, .iconst (0), 1), (25, .ireturn, 1)]
set_option maxRecDepth 100000 in
theorem zD_63_ok : zDo 63 zD_63 = true := by decide +kernel
theorem zc_63 : zcls 63 = 5 := by decide +kernel
theorem zm_63 : zml 63 = 4 := by decide +kernel
theorem zt_63 : zrt 63 = (some (.boolean)) := by decide +kernel
theorem zk_63 : zkd 63 = 1 ∧ znp 63 + 1 = 4 := by decide +kernel
theorem zr_63 (as : List zV) : zrk 63 as = 0 := by unfold zrk; rw [if_neg (by decide)]; decide +kernel
def lW_holds (x1 : Int) (x2 : Int) (x3 : Int) (M : Nat → Nat → Int) : Option Int :=
    (if x2 < 0 then
    (some (0 : Int))
    else
    (if x3 < 0 then
    (some (0 : Int))
    else
    ((rdI 99 x1 M).bind (fun v14 =>
    (if (w32 (v14 - x3)) < x2 then
    (some (0 : Int))
    else
    (some (1 : Int)))))))
set_option maxRecDepth 100000 in
theorem ok_lW_holds {sc : zSc} {x1 : Int} {x2 : Int} {x3 : Int} {M : Nat → Nat → Int} {P : Int → (Nat → Nat → Int) → Prop} (h : zS (lW_holds x1 x2 x3 M) (fun x => P x M)) : zCi sc 63 [.inr (.inr 97), .inl x1, .inl x2, .inl x3] M P := by
  have ea : zarg (zml 63) [.inr (.inr 97), .inl x1, .inl x2, .inl x3] = [some (.inr (.inr 97)), some (.inl x1), some (.inl x2), some (.inl x3)] := by rw [zm_63]; rfl
  unfold zCi zCw
  rw [ea, zr_63]
  have hq : 0 ≤ 0 := Nat.le_refl _
  unfold lW_holds at h
  have h := zS_mono h (fun x hx => (⟨x, rfl, hx⟩ : ∃ y, (some (.inl x) : Option zV) = some (.inl y) ∧ P y M))
  skip
  refine E_iload_n (pc := 0) (zDk zD_63_ok 0 rfl) rfl ?_
  refine E_if (pc := 1) (t := 24) (zDk zD_63_ok 1 rfl) rfl (fun hz => ?_) (fun hz => ?_)
  · have h := zS_t h (T_lt hz)
    refine E_iconst (pc := 24) (zDk zD_63_ok 14 rfl) (by decide +kernel) ?_
    have h := zS_some h
    exact E_ireturnZ (pc := 25) (zDk zD_63_ok 15 rfl) zt_63 (by decide) h
  · have h := zS_f h (Int.not_lt.mpr (F_lt hz))
    refine E_iload_n (pc := 4) (zDk zD_63_ok 2 rfl) rfl ?_
    refine E_if (pc := 5) (t := 24) (zDk zD_63_ok 3 rfl) rfl (fun hz => ?_) (fun hz => ?_)
    · have h := zS_t h (T_lt hz)
      refine E_iconst (pc := 24) (zDk zD_63_ok 14 rfl) (by decide +kernel) ?_
      have h := zS_some h
      exact E_ireturnZ (pc := 25) (zDk zD_63_ok 15 rfl) zt_63 (by decide) h
    · have h := zS_f h (Int.not_lt.mpr (F_lt hz))
      refine E_iload_n (pc := 8) (zDk zD_63_ok 4 rfl) rfl ?_
      refine E_aload_n (pc := 9) (zDk zD_63_ok 5 rfl) rfl ?_
      refine E_getR (pc := 10) (ci := 5) (f := 1) (r := 99) (zDk zD_63_ok 6 rfl) zc_63 (by decide +kernel) (by decide) zis_5_97 (by decide +kernel) (by decide) ?_
      refine E_iload_n (pc := 13) (zDk zD_63_ok 7 rfl) rfl ?_
      obtain ⟨v14, e14, h⟩ := zS_bind h
      refine E_iaload (pc := 14) (zDk zD_63_ok 8 rfl) e14 ?_
      refine E_iload_n (pc := 15) (zDk zD_63_ok 9 rfl) rfl ?_
      refine W_isub (pc := 16) (zDk zD_63_ok 10 rfl) ?_
      refine E_icmp (pc := 17) (t := 24) (zDk zD_63_ok 11 rfl) rfl (fun hz => ?_) (fun hz => ?_)
      · have h := zS_t h (T_gt hz)
        refine E_iconst (pc := 24) (zDk zD_63_ok 14 rfl) (by decide +kernel) ?_
        have h := zS_some h
        exact E_ireturnZ (pc := 25) (zDk zD_63_ok 15 rfl) zt_63 (by decide) h
      · have h := zS_f h (Int.not_lt.mpr (F_gt hz))
        refine E_iconst (pc := 20) (zDk zD_63_ok 12 rfl) (by decide +kernel) ?_
        refine E_goto (pc := 21) (t := 25) (zDk zD_63_ok 13 rfl) rfl ?_
        have h := zS_some h
        exact E_ireturnZ (pc := 25) (zDk zD_63_ok 15 rfl) zt_63 (by decide) h
def zD_64 : List (Nat × Instr × Nat) := [(0, .aload_n (0), 1), (1, .getfield (15), 3), (4, .iload_n (1), 1), (5, .iaload, 1), (6, .iconst (2), 1), (7, .irem, 1), (8, .ifCond .eq (5), 3), (11, .iconst (0), 1), (12, .ireturn, 1), (13, .iconst (0), 1), (14, .istore (5), 2), (16, .iload (5), 2), (18, .iconst (1), 1), (19, .iadd, 1), (20, .aload_n (0), 1), (21, .getfield (15), 3), (24, .iload_n (1), 1), (25, .iaload, 1), (26, .if_icmp .ge (67), 3), (29, .aload_n (0), 1), (30, .getfield (20), 3), (33, .iload_n (1), 1), (34, .aaload, 1), (35, .iload (5), 2), (37, .laload, 1), (38, .lstore (6), 2), (40, .aload_n (0), 1), (41, .getfield (20), 3), (44, .iload_n (1), 1), (45, .aaload, 1), (46, .iload (5), 2), (48, .iconst (1), 1), (49, .iadd, 1), (50, .laload, 1), (51, .lstore (8), 2), (53, .lload (6), 2), (55, .iload_n (2), 1), (56, .i2l, 1), (57, .lcmp, 1), (58, .ifCond .lt (27), 3), (61, .lload (6), 2), (63, .iload_n (3), 1), (64, .i2l, 1), (65, .lcmp, 1), (66, .ifCond .gt (19), 3), (69, .lload (8), 2), (71, .lconst (0), 1), (72, .lcmp, 1), (73, .ifCond .lt (12), 3), (76, .lload (8), 2), (78, .iload (4), 2), (80, .i2l, 1), (81, .lcmp, 1), (82, .ifCond .le (5), 3), (85, .iconst (0), 1), (86, .ireturn, 1), (87, .iinc (5) (2), 3), (90, .goto (-74), 3), (93, .iconst (1), 1), (94, .ireturn, 1)]
set_option maxRecDepth 100000 in
theorem zD_64_ok : zDo 64 zD_64 = true := by decide +kernel
theorem zc_64 : zcls 64 = 5 := by decide +kernel
theorem zm_64 : zml 64 = 10 := by decide +kernel
theorem zt_64 : zrt 64 = (some (.boolean)) := by decide +kernel
theorem zk_64 : zkd 64 = 1 ∧ znp 64 + 1 = 5 := by decide +kernel
theorem zr_64 (as : List zV) : zrk 64 as = 0 := by unfold zrk; rw [if_neg (by decide)]; decide +kernel
def lW_holdsPairs_c16 (x1 : Int) (x2 : Int) (x3 : Int) (x4 : Int) (M : Nat → Nat → Int) : Nat → Int → Option Int
  | 0, _ => none
  | n + 1, y5 =>
    ((rdI 99 x1 M).bind (fun v25 =>
    (if (w32 (y5 + (1 : Int))) < v25 then
    ((rdA 100 x1).bind (fun v34 =>
    ((rdL v34 y5 M).bind (fun v37 =>
    ((rdA 100 x1).bind (fun v45 =>
    ((rdL v45 (w32 (y5 + (1 : Int))) M).bind (fun v50 =>
    (if v37 < x2 then
    (some (0 : Int))
    else
    (if x3 < v37 then
    (some (0 : Int))
    else
    (if v50 < (0 : Int) then
    (some (0 : Int))
    else
    (if x4 < v50 then
    (some (0 : Int))
    else
    ((lW_holdsPairs_c16 x1 x2 x3 x4 M n) (w32 (y5 + 2)))))))))))))))
    else
    (some (1 : Int)))))
set_option maxRecDepth 100000 in
theorem ok_lW_holdsPairs_c16 {sc : zSc} {q : Nat} {P : Option zV → (Nat → Nat → Int) → Prop} (hq : 0 ≤ q) (x1 : Int) (x2 : Int) (x3 : Int) (x4 : Int) (M : Nat → Nat → Int) : ∀ (n : Nat) (y5 : Int) (d6 d7 d8 d9 : Option zV), zS (lW_holdsPairs_c16 x1 x2 x3 x4 M n y5) (fun x => P (some (.inl x)) M) → zWp sc q 64 16 [some (.inr (.inr 97)), some (.inl x1), some (.inl x2), some (.inl x3), some (.inl x4), some (.inl y5), d6, d7, d8, d9] [] M P := by
  intro n
  induction n with
  | zero => intro y5 d6 d7 d8 d9 h; exact (zS_none h).elim
  | succ n ih =>
    intro y5 d6 d7 d8 d9 h
    rw [lW_holdsPairs_c16] at h
    refine E_iload (pc := 16) (zDk zD_64_ok 11 rfl) rfl ?_
    refine E_iconst (pc := 18) (zDk zD_64_ok 12 rfl) (by decide +kernel) ?_
    refine W_iadd (pc := 19) (zDk zD_64_ok 13 rfl) ?_
    refine E_aload_n (pc := 20) (zDk zD_64_ok 14 rfl) rfl ?_
    refine E_getR (pc := 21) (ci := 5) (f := 1) (r := 99) (zDk zD_64_ok 15 rfl) zc_64 (by decide +kernel) (by decide) zis_5_97 (by decide +kernel) (by decide) ?_
    refine E_iload_n (pc := 24) (zDk zD_64_ok 16 rfl) rfl ?_
    obtain ⟨v25, e25, h⟩ := zS_bind h
    refine E_iaload (pc := 25) (zDk zD_64_ok 17 rfl) e25 ?_
    refine E_icmp (pc := 26) (t := 93) (zDk zD_64_ok 18 rfl) rfl (fun hz => ?_) (fun hz => ?_)
    · have h := zS_f h (Int.not_lt.mpr (T_ge hz))
      refine E_iconst (pc := 93) (zDk zD_64_ok 58 rfl) (by decide +kernel) ?_
      have h := zS_some h
      exact E_ireturnZ (pc := 94) (zDk zD_64_ok 59 rfl) zt_64 (by decide) h
    · have h := zS_t h (F_ge hz)
      refine E_aload_n (pc := 29) (zDk zD_64_ok 19 rfl) rfl ?_
      refine E_getR (pc := 30) (ci := 5) (f := 2) (r := 100) (zDk zD_64_ok 20 rfl) zc_64 (by decide +kernel) (by decide) zis_5_97 (by decide +kernel) (by decide) ?_
      refine E_iload_n (pc := 33) (zDk zD_64_ok 21 rfl) rfl ?_
      obtain ⟨v34, e34, h⟩ := zS_bind h
      refine E_aaload (pc := 34) (zDk zD_64_ok 22 rfl) e34 ?_
      refine E_iload (pc := 35) (zDk zD_64_ok 23 rfl) rfl ?_
      obtain ⟨v37, e37, h⟩ := zS_bind h
      refine E_laload (pc := 37) (zDk zD_64_ok 24 rfl) e37 ?_
      refine W_lstore (pc := 38) (L' := [some (.inr (.inr 97)), some (.inl x1), some (.inl x2), some (.inl x3), some (.inl x4), some (.inl y5), some (.inr (.inl v37)), none, d8, d9]) (zDk zD_64_ok 25 rfl) zm_64 (by decide) rfl ?_
      refine E_aload_n (pc := 40) (zDk zD_64_ok 26 rfl) rfl ?_
      refine E_getR (pc := 41) (ci := 5) (f := 2) (r := 100) (zDk zD_64_ok 27 rfl) zc_64 (by decide +kernel) (by decide) zis_5_97 (by decide +kernel) (by decide) ?_
      refine E_iload_n (pc := 44) (zDk zD_64_ok 28 rfl) rfl ?_
      obtain ⟨v45, e45, h⟩ := zS_bind h
      refine E_aaload (pc := 45) (zDk zD_64_ok 29 rfl) e45 ?_
      refine E_iload (pc := 46) (zDk zD_64_ok 30 rfl) rfl ?_
      refine E_iconst (pc := 48) (zDk zD_64_ok 31 rfl) (by decide +kernel) ?_
      refine W_iadd (pc := 49) (zDk zD_64_ok 32 rfl) ?_
      obtain ⟨v50, e50, h⟩ := zS_bind h
      refine E_laload (pc := 50) (zDk zD_64_ok 33 rfl) e50 ?_
      refine W_lstore (pc := 51) (L' := [some (.inr (.inr 97)), some (.inl x1), some (.inl x2), some (.inl x3), some (.inl x4), some (.inl y5), some (.inr (.inl v37)), none, some (.inr (.inl v50)), none]) (zDk zD_64_ok 34 rfl) zm_64 (by decide) rfl ?_
      refine E_lload (pc := 53) (zDk zD_64_ok 35 rfl) rfl ?_
      refine E_iload_n (pc := 55) (zDk zD_64_ok 36 rfl) rfl ?_
      refine E_i2l (pc := 56) (zDk zD_64_ok 37 rfl) ?_
      refine W_lcmp (pc := 57) (zDk zD_64_ok 38 rfl) ?_
      refine E_if (pc := 58) (t := 85) (zDk zD_64_ok 39 rfl) rfl (fun hz => ?_) (fun hz => ?_)
      · have h := zS_t h (zlc_lt (T_lt hz))
        refine E_iconst (pc := 85) (zDk zD_64_ok 54 rfl) (by decide +kernel) ?_
        have h := zS_some h
        exact E_ireturnZ (pc := 86) (zDk zD_64_ok 55 rfl) zt_64 (by decide) h
      · have h := zS_f h (Int.not_lt.mpr (zlc_ge (F_lt hz)))
        refine E_lload (pc := 61) (zDk zD_64_ok 40 rfl) rfl ?_
        refine E_iload_n (pc := 63) (zDk zD_64_ok 41 rfl) rfl ?_
        refine E_i2l (pc := 64) (zDk zD_64_ok 42 rfl) ?_
        refine W_lcmp (pc := 65) (zDk zD_64_ok 43 rfl) ?_
        refine E_if (pc := 66) (t := 85) (zDk zD_64_ok 44 rfl) rfl (fun hz => ?_) (fun hz => ?_)
        · have h := zS_t h (zlc_gt (T_gt hz))
          refine E_iconst (pc := 85) (zDk zD_64_ok 54 rfl) (by decide +kernel) ?_
          have h := zS_some h
          exact E_ireturnZ (pc := 86) (zDk zD_64_ok 55 rfl) zt_64 (by decide) h
        · have h := zS_f h (Int.not_lt.mpr (zlc_le (F_gt hz)))
          refine E_lload (pc := 69) (zDk zD_64_ok 45 rfl) rfl ?_
          refine E_lconst (pc := 71) (v := 0) (zDk zD_64_ok 46 rfl) (by decide +kernel) ?_
          refine W_lcmp (pc := 72) (zDk zD_64_ok 47 rfl) ?_
          refine E_if (pc := 73) (t := 85) (zDk zD_64_ok 48 rfl) rfl (fun hz => ?_) (fun hz => ?_)
          · have h := zS_t h (zlc_lt (T_lt hz))
            refine E_iconst (pc := 85) (zDk zD_64_ok 54 rfl) (by decide +kernel) ?_
            have h := zS_some h
            exact E_ireturnZ (pc := 86) (zDk zD_64_ok 55 rfl) zt_64 (by decide) h
          · have h := zS_f h (Int.not_lt.mpr (zlc_ge (F_lt hz)))
            refine E_lload (pc := 76) (zDk zD_64_ok 49 rfl) rfl ?_
            refine E_iload (pc := 78) (zDk zD_64_ok 50 rfl) rfl ?_
            refine E_i2l (pc := 80) (zDk zD_64_ok 51 rfl) ?_
            refine W_lcmp (pc := 81) (zDk zD_64_ok 52 rfl) ?_
            refine E_if (pc := 82) (t := 87) (zDk zD_64_ok 53 rfl) rfl (fun hz => ?_) (fun hz => ?_)
            · have h := zS_f h (Int.not_lt.mpr (zlc_le (T_le hz)))
              refine W_iinc (pc := 87) (L' := [some (.inr (.inr 97)), some (.inl x1), some (.inl x2), some (.inl x3), some (.inl x4), some (.inl (w32 (y5 + 2))), some (.inr (.inl v37)), none, some (.inr (.inl v50)), none]) (zDk zD_64_ok 56 rfl) rfl zm_64 (by decide) rfl ?_
              refine E_goto (pc := 90) (t := 16) (zDk zD_64_ok 57 rfl) rfl ?_
              exact (ih) (w32 (y5 + 2)) (some (.inr (.inl v37))) none (some (.inr (.inl v50))) none h
            · have h := zS_t h (zlc_gt (F_le hz))
              refine E_iconst (pc := 85) (zDk zD_64_ok 54 rfl) (by decide +kernel) ?_
              have h := zS_some h
              exact E_ireturnZ (pc := 86) (zDk zD_64_ok 55 rfl) zt_64 (by decide) h
def lW_holdsPairs (x1 : Int) (x2 : Int) (x3 : Int) (x4 : Int) (M : Nat → Nat → Int) : Option Int :=
    ((rdI 99 x1 M).bind (fun v5 =>
    (if (zrem v5 (2 : Int)) = 0 then
    (lW_holdsPairs_c16 x1 x2 x3 x4 M zN (0 : Int))
    else
    (some (0 : Int)))))
set_option maxRecDepth 100000 in
theorem ok_lW_holdsPairs {sc : zSc} {x1 : Int} {x2 : Int} {x3 : Int} {x4 : Int} {M : Nat → Nat → Int} {P : Int → (Nat → Nat → Int) → Prop} (h : zS (lW_holdsPairs x1 x2 x3 x4 M) (fun x => P x M)) : zCi sc 64 [.inr (.inr 97), .inl x1, .inl x2, .inl x3, .inl x4] M P := by
  have ea : zarg (zml 64) [.inr (.inr 97), .inl x1, .inl x2, .inl x3, .inl x4] = [some (.inr (.inr 97)), some (.inl x1), some (.inl x2), some (.inl x3), some (.inl x4), none, none, none, none, none] := by rw [zm_64]; rfl
  unfold zCi zCw
  rw [ea, zr_64]
  have hq : 0 ≤ 0 := Nat.le_refl _
  unfold lW_holdsPairs at h
  have h := zS_mono h (fun x hx => (⟨x, rfl, hx⟩ : ∃ y, (some (.inl x) : Option zV) = some (.inl y) ∧ P y M))
  skip
  refine E_aload_n (pc := 0) (zDk zD_64_ok 0 rfl) rfl ?_
  refine E_getR (pc := 1) (ci := 5) (f := 1) (r := 99) (zDk zD_64_ok 1 rfl) zc_64 (by decide +kernel) (by decide) zis_5_97 (by decide +kernel) (by decide) ?_
  refine E_iload_n (pc := 4) (zDk zD_64_ok 2 rfl) rfl ?_
  obtain ⟨v5, e5, h⟩ := zS_bind h
  refine E_iaload (pc := 5) (zDk zD_64_ok 3 rfl) e5 ?_
  refine E_iconst (pc := 6) (zDk zD_64_ok 4 rfl) (by decide +kernel) ?_
  refine E_irem (pc := 7) (zDk zD_64_ok 5 rfl) (by decide) ?_
  refine E_if (pc := 8) (t := 13) (zDk zD_64_ok 6 rfl) rfl (fun hz => ?_) (fun hz => ?_)
  · have h := zS_t h (T_eq hz)
    refine E_iconst (pc := 13) (zDk zD_64_ok 9 rfl) (by decide +kernel) ?_
    refine W_istore (pc := 14) (L' := [some (.inr (.inr 97)), some (.inl x1), some (.inl x2), some (.inl x3), some (.inl x4), some (.inl (0 : Int)), none, none, none, none]) (zDk zD_64_ok 10 rfl) zm_64 (by decide) rfl ?_
    exact ok_lW_holdsPairs_c16 hq x1 x2 x3 x4 M zN (0 : Int) none none none none h
  · have h := zS_f h (F_eq hz)
    refine E_iconst (pc := 11) (zDk zD_64_ok 7 rfl) (by decide +kernel) ?_
    have h := zS_some h
    exact E_ireturnZ (pc := 12) (zDk zD_64_ok 8 rfl) zt_64 (by decide) h
def zD_69 : List (Nat × Instr × Nat) := [(0, .aload_n (0), 1), (1, .getfield (52), 3), (4, .ifCond .le (7), 3), (7, .iconst (1), 1), (8, .goto (4), 3), (11, .iconst (0), 1), (12, .ireturn, 1)]
set_option maxRecDepth 100000 in
theorem zD_69_ok : zDo 69 zD_69 = true := by decide +kernel
theorem zc_69 : zcls 69 = 6 := by decide +kernel
theorem zm_69 : zml 69 = 1 := by decide +kernel
theorem zt_69 : zrt 69 = (some (.boolean)) := by decide +kernel
theorem zk_69 : zkd 69 = 1 ∧ znp 69 + 1 = 1 := by decide +kernel
theorem zr_69 (as : List zV) : zrk 69 as = 0 := by unfold zrk; rw [if_neg (by decide)]; decide +kernel
def lT_isThere (r0 : Nat) (M : Nat → Nat → Int) : Option Int :=
    (if zis 6 r0 = true then
    (if 0 < (M r0 4) then
    (some (1 : Int))
    else
    (some (0 : Int)))
    else none)
set_option maxRecDepth 100000 in
theorem ok_lT_isThere {sc : zSc} {r0 : Nat} {M : Nat → Nat → Int} {P : Int → (Nat → Nat → Int) → Prop} (h : zS (lT_isThere r0 M) (fun x => P x M)) : zCi sc 69 [.inr (.inr r0)] M P := by
  have ea : zarg (zml 69) [.inr (.inr r0)] = [some (.inr (.inr r0))] := by rw [zm_69]; rfl
  unfold zCi zCw
  rw [ea, zr_69]
  have hq : 0 ≤ 0 := Nat.le_refl _
  unfold lT_isThere at h
  have h := zS_mono h (fun x hx => (⟨x, rfl, hx⟩ : ∃ y, (some (.inl x) : Option zV) = some (.inl y) ∧ P y M))
  obtain ⟨hr0, h⟩ := zS_c h
  skip
  refine E_aload_n (pc := 0) (zDk zD_69_ok 0 rfl) rfl ?_
  refine E_getI (pc := 1) (ci := 6) (f := 4) (zDk zD_69_ok 1 rfl) zc_69 (by decide +kernel) (by decide) hr0 ?_
  refine E_if (pc := 4) (t := 11) (zDk zD_69_ok 2 rfl) rfl (fun hz => ?_) (fun hz => ?_)
  · have h := zS_f h (Int.not_lt.mpr (T_le hz))
    refine E_iconst (pc := 11) (zDk zD_69_ok 5 rfl) (by decide +kernel) ?_
    have h := zS_some h
    exact E_ireturnZ (pc := 12) (zDk zD_69_ok 6 rfl) zt_69 (by decide) h
  · have h := zS_t h (F_le hz)
    refine E_iconst (pc := 7) (zDk zD_69_ok 3 rfl) (by decide +kernel) ?_
    refine E_goto (pc := 8) (t := 12) (zDk zD_69_ok 4 rfl) rfl ?_
    have h := zS_some h
    exact E_ireturnZ (pc := 12) (zDk zD_69_ok 6 rfl) zt_69 (by decide) h
def zD_70 : List (Nat × Instr × Nat) := [(0, .iload_n (1), 1), (1, .ifCond .lt (15), 3), (4, .iload_n (1), 1), (5, .aload_n (0), 1), (6, .getfield (39), 3), (9, .if_icmp .ge (7), 3), (12, .iconst (1), 1), (13, .goto (4), 3), (16, .iconst (0), 1), (17, .ireturn, 1)]
set_option maxRecDepth 100000 in
theorem zD_70_ok : zDo 70 zD_70 = true := by decide +kernel
theorem zc_70 : zcls 70 = 6 := by decide +kernel
theorem zm_70 : zml 70 = 2 := by decide +kernel
theorem zt_70 : zrt 70 = (some (.boolean)) := by decide +kernel
theorem zk_70 : zkd 70 = 1 ∧ znp 70 + 1 = 2 := by decide +kernel
theorem zr_70 (as : List zV) : zrk 70 as = 0 := by unfold zrk; rw [if_neg (by decide)]; decide +kernel
def lT_hasCorner (r0 : Nat) (x1 : Int) (M : Nat → Nat → Int) : Option Int :=
    (if zis 6 r0 = true then
    (if x1 < 0 then
    (some (0 : Int))
    else
    (if x1 < (M r0 0) then
    (some (1 : Int))
    else
    (some (0 : Int))))
    else none)
set_option maxRecDepth 100000 in
theorem ok_lT_hasCorner {sc : zSc} {r0 : Nat} {x1 : Int} {M : Nat → Nat → Int} {P : Int → (Nat → Nat → Int) → Prop} (h : zS (lT_hasCorner r0 x1 M) (fun x => P x M)) : zCi sc 70 [.inr (.inr r0), .inl x1] M P := by
  have ea : zarg (zml 70) [.inr (.inr r0), .inl x1] = [some (.inr (.inr r0)), some (.inl x1)] := by rw [zm_70]; rfl
  unfold zCi zCw
  rw [ea, zr_70]
  have hq : 0 ≤ 0 := Nat.le_refl _
  unfold lT_hasCorner at h
  have h := zS_mono h (fun x hx => (⟨x, rfl, hx⟩ : ∃ y, (some (.inl x) : Option zV) = some (.inl y) ∧ P y M))
  obtain ⟨hr0, h⟩ := zS_c h
  skip
  refine E_iload_n (pc := 0) (zDk zD_70_ok 0 rfl) rfl ?_
  refine E_if (pc := 1) (t := 16) (zDk zD_70_ok 1 rfl) rfl (fun hz => ?_) (fun hz => ?_)
  · have h := zS_t h (T_lt hz)
    refine E_iconst (pc := 16) (zDk zD_70_ok 8 rfl) (by decide +kernel) ?_
    have h := zS_some h
    exact E_ireturnZ (pc := 17) (zDk zD_70_ok 9 rfl) zt_70 (by decide) h
  · have h := zS_f h (Int.not_lt.mpr (F_lt hz))
    refine E_iload_n (pc := 4) (zDk zD_70_ok 2 rfl) rfl ?_
    refine E_aload_n (pc := 5) (zDk zD_70_ok 3 rfl) rfl ?_
    refine E_getI (pc := 6) (ci := 6) (f := 0) (zDk zD_70_ok 4 rfl) zc_70 (by decide +kernel) (by decide) hr0 ?_
    refine E_icmp (pc := 9) (t := 16) (zDk zD_70_ok 5 rfl) rfl (fun hz => ?_) (fun hz => ?_)
    · have h := zS_f h (Int.not_lt.mpr (T_ge hz))
      refine E_iconst (pc := 16) (zDk zD_70_ok 8 rfl) (by decide +kernel) ?_
      have h := zS_some h
      exact E_ireturnZ (pc := 17) (zDk zD_70_ok 9 rfl) zt_70 (by decide) h
    · have h := zS_t h (F_ge hz)
      refine E_iconst (pc := 12) (zDk zD_70_ok 6 rfl) (by decide +kernel) ?_
      refine E_goto (pc := 13) (t := 17) (zDk zD_70_ok 7 rfl) rfl ?_
      have h := zS_some h
      exact E_ireturnZ (pc := 17) (zDk zD_70_ok 9 rfl) zt_70 (by decide) h
def zD_72 : List (Nat × Instr × Nat) := [(0, .iload_n (1), 1), (1, .ifCond .lt (15), 3), (4, .iload_n (1), 1), (5, .aload_n (0), 1), (6, .getfield (55), 3), (9, .if_icmp .ge (7), 3), (12, .iconst (1), 1), (13, .goto (4), 3), (16, .iconst (0), 1), (17, .ireturn, 1)]
set_option maxRecDepth 100000 in
theorem zD_72_ok : zDo 72 zD_72 = true := by decide +kernel
theorem zc_72 : zcls 72 = 6 := by decide +kernel
theorem zm_72 : zml 72 = 2 := by decide +kernel
theorem zt_72 : zrt 72 = (some (.boolean)) := by decide +kernel
theorem zk_72 : zkd 72 = 1 ∧ znp 72 + 1 = 2 := by decide +kernel
theorem zr_72 (as : List zV) : zrk 72 as = 0 := by unfold zrk; rw [if_neg (by decide)]; decide +kernel
def lT_hasStreet (r0 : Nat) (x1 : Int) (M : Nat → Nat → Int) : Option Int :=
    (if zis 6 r0 = true then
    (if x1 < 0 then
    (some (0 : Int))
    else
    (if x1 < (M r0 5) then
    (some (1 : Int))
    else
    (some (0 : Int))))
    else none)
set_option maxRecDepth 100000 in
theorem ok_lT_hasStreet {sc : zSc} {r0 : Nat} {x1 : Int} {M : Nat → Nat → Int} {P : Int → (Nat → Nat → Int) → Prop} (h : zS (lT_hasStreet r0 x1 M) (fun x => P x M)) : zCi sc 72 [.inr (.inr r0), .inl x1] M P := by
  have ea : zarg (zml 72) [.inr (.inr r0), .inl x1] = [some (.inr (.inr r0)), some (.inl x1)] := by rw [zm_72]; rfl
  unfold zCi zCw
  rw [ea, zr_72]
  have hq : 0 ≤ 0 := Nat.le_refl _
  unfold lT_hasStreet at h
  have h := zS_mono h (fun x hx => (⟨x, rfl, hx⟩ : ∃ y, (some (.inl x) : Option zV) = some (.inl y) ∧ P y M))
  obtain ⟨hr0, h⟩ := zS_c h
  skip
  refine E_iload_n (pc := 0) (zDk zD_72_ok 0 rfl) rfl ?_
  refine E_if (pc := 1) (t := 16) (zDk zD_72_ok 1 rfl) rfl (fun hz => ?_) (fun hz => ?_)
  · have h := zS_t h (T_lt hz)
    refine E_iconst (pc := 16) (zDk zD_72_ok 8 rfl) (by decide +kernel) ?_
    have h := zS_some h
    exact E_ireturnZ (pc := 17) (zDk zD_72_ok 9 rfl) zt_72 (by decide) h
  · have h := zS_f h (Int.not_lt.mpr (F_lt hz))
    refine E_iload_n (pc := 4) (zDk zD_72_ok 2 rfl) rfl ?_
    refine E_aload_n (pc := 5) (zDk zD_72_ok 3 rfl) rfl ?_
    refine E_getI (pc := 6) (ci := 6) (f := 5) (zDk zD_72_ok 4 rfl) zc_72 (by decide +kernel) (by decide) hr0 ?_
    refine E_icmp (pc := 9) (t := 16) (zDk zD_72_ok 5 rfl) rfl (fun hz => ?_) (fun hz => ?_)
    · have h := zS_f h (Int.not_lt.mpr (T_ge hz))
      refine E_iconst (pc := 16) (zDk zD_72_ok 8 rfl) (by decide +kernel) ?_
      have h := zS_some h
      exact E_ireturnZ (pc := 17) (zDk zD_72_ok 9 rfl) zt_72 (by decide) h
    · have h := zS_t h (F_ge hz)
      refine E_iconst (pc := 12) (zDk zD_72_ok 6 rfl) (by decide +kernel) ?_
      refine E_goto (pc := 13) (t := 17) (zDk zD_72_ok 7 rfl) rfl ?_
      have h := zS_some h
      exact E_ireturnZ (pc := 17) (zDk zD_72_ok 9 rfl) zt_72 (by decide) h
def zD_73 : List (Nat × Instr × Nat) := [(0, .iload_n (1), 1), (1, .ifCond .lt (15), 3), (4, .iload_n (1), 1), (5, .aload_n (0), 1), (6, .getfield (61), 3), (9, .if_icmp .ge (7), 3), (12, .iconst (1), 1), (13, .goto (4), 3), (16, .iconst (0), 1), (17, .ireturn, 1)]
set_option maxRecDepth 100000 in
theorem zD_73_ok : zDo 73 zD_73 = true := by decide +kernel
theorem zc_73 : zcls 73 = 6 := by decide +kernel
theorem zm_73 : zml 73 = 2 := by decide +kernel
theorem zt_73 : zrt 73 = (some (.boolean)) := by decide +kernel
theorem zk_73 : zkd 73 = 1 ∧ znp 73 + 1 = 2 := by decide +kernel
theorem zr_73 (as : List zV) : zrk 73 as = 0 := by unfold zrk; rw [if_neg (by decide)]; decide +kernel
def lT_hasName (r0 : Nat) (x1 : Int) (M : Nat → Nat → Int) : Option Int :=
    (if zis 6 r0 = true then
    (if x1 < 0 then
    (some (0 : Int))
    else
    (if x1 < (M r0 7) then
    (some (1 : Int))
    else
    (some (0 : Int))))
    else none)
set_option maxRecDepth 100000 in
theorem ok_lT_hasName {sc : zSc} {r0 : Nat} {x1 : Int} {M : Nat → Nat → Int} {P : Int → (Nat → Nat → Int) → Prop} (h : zS (lT_hasName r0 x1 M) (fun x => P x M)) : zCi sc 73 [.inr (.inr r0), .inl x1] M P := by
  have ea : zarg (zml 73) [.inr (.inr r0), .inl x1] = [some (.inr (.inr r0)), some (.inl x1)] := by rw [zm_73]; rfl
  unfold zCi zCw
  rw [ea, zr_73]
  have hq : 0 ≤ 0 := Nat.le_refl _
  unfold lT_hasName at h
  have h := zS_mono h (fun x hx => (⟨x, rfl, hx⟩ : ∃ y, (some (.inl x) : Option zV) = some (.inl y) ∧ P y M))
  obtain ⟨hr0, h⟩ := zS_c h
  skip
  refine E_iload_n (pc := 0) (zDk zD_73_ok 0 rfl) rfl ?_
  refine E_if (pc := 1) (t := 16) (zDk zD_73_ok 1 rfl) rfl (fun hz => ?_) (fun hz => ?_)
  · have h := zS_t h (T_lt hz)
    refine E_iconst (pc := 16) (zDk zD_73_ok 8 rfl) (by decide +kernel) ?_
    have h := zS_some h
    exact E_ireturnZ (pc := 17) (zDk zD_73_ok 9 rfl) zt_73 (by decide) h
  · have h := zS_f h (Int.not_lt.mpr (F_lt hz))
    refine E_iload_n (pc := 4) (zDk zD_73_ok 2 rfl) rfl ?_
    refine E_aload_n (pc := 5) (zDk zD_73_ok 3 rfl) rfl ?_
    refine E_getI (pc := 6) (ci := 6) (f := 7) (zDk zD_73_ok 4 rfl) zc_73 (by decide +kernel) (by decide) hr0 ?_
    refine E_icmp (pc := 9) (t := 16) (zDk zD_73_ok 5 rfl) rfl (fun hz => ?_) (fun hz => ?_)
    · have h := zS_f h (Int.not_lt.mpr (T_ge hz))
      refine E_iconst (pc := 16) (zDk zD_73_ok 8 rfl) (by decide +kernel) ?_
      have h := zS_some h
      exact E_ireturnZ (pc := 17) (zDk zD_73_ok 9 rfl) zt_73 (by decide) h
    · have h := zS_t h (F_ge hz)
      refine E_iconst (pc := 12) (zDk zD_73_ok 6 rfl) (by decide +kernel) ?_
      refine E_goto (pc := 13) (t := 17) (zDk zD_73_ok 7 rfl) rfl ?_
      have h := zS_some h
      exact E_ireturnZ (pc := 17) (zDk zD_73_ok 9 rfl) zt_73 (by decide) h
def zD_74 : List (Nat × Instr × Nat) := [(0, .iload_n (1), 1), (1, .ifCond .lt (15), 3), (4, .iload_n (1), 1), (5, .aload_n (0), 1), (6, .getfield (64), 3), (9, .if_icmp .ge (7), 3), (12, .iconst (1), 1), (13, .goto (4), 3), (16, .iconst (0), 1), (17, .ireturn, 1)]
set_option maxRecDepth 100000 in
theorem zD_74_ok : zDo 74 zD_74 = true := by decide +kernel
theorem zc_74 : zcls 74 = 6 := by decide +kernel
theorem zm_74 : zml 74 = 2 := by decide +kernel
theorem zt_74 : zrt 74 = (some (.boolean)) := by decide +kernel
theorem zk_74 : zkd 74 = 1 ∧ znp 74 + 1 = 2 := by decide +kernel
theorem zr_74 (as : List zV) : zrk 74 as = 0 := by unfold zrk; rw [if_neg (by decide)]; decide +kernel
def lT_hasContract (r0 : Nat) (x1 : Int) (M : Nat → Nat → Int) : Option Int :=
    (if zis 6 r0 = true then
    (if x1 < 0 then
    (some (0 : Int))
    else
    (if x1 < (M r0 8) then
    (some (1 : Int))
    else
    (some (0 : Int))))
    else none)
set_option maxRecDepth 100000 in
theorem ok_lT_hasContract {sc : zSc} {r0 : Nat} {x1 : Int} {M : Nat → Nat → Int} {P : Int → (Nat → Nat → Int) → Prop} (h : zS (lT_hasContract r0 x1 M) (fun x => P x M)) : zCi sc 74 [.inr (.inr r0), .inl x1] M P := by
  have ea : zarg (zml 74) [.inr (.inr r0), .inl x1] = [some (.inr (.inr r0)), some (.inl x1)] := by rw [zm_74]; rfl
  unfold zCi zCw
  rw [ea, zr_74]
  have hq : 0 ≤ 0 := Nat.le_refl _
  unfold lT_hasContract at h
  have h := zS_mono h (fun x hx => (⟨x, rfl, hx⟩ : ∃ y, (some (.inl x) : Option zV) = some (.inl y) ∧ P y M))
  obtain ⟨hr0, h⟩ := zS_c h
  skip
  refine E_iload_n (pc := 0) (zDk zD_74_ok 0 rfl) rfl ?_
  refine E_if (pc := 1) (t := 16) (zDk zD_74_ok 1 rfl) rfl (fun hz => ?_) (fun hz => ?_)
  · have h := zS_t h (T_lt hz)
    refine E_iconst (pc := 16) (zDk zD_74_ok 8 rfl) (by decide +kernel) ?_
    have h := zS_some h
    exact E_ireturnZ (pc := 17) (zDk zD_74_ok 9 rfl) zt_74 (by decide) h
  · have h := zS_f h (Int.not_lt.mpr (F_lt hz))
    refine E_iload_n (pc := 4) (zDk zD_74_ok 2 rfl) rfl ?_
    refine E_aload_n (pc := 5) (zDk zD_74_ok 3 rfl) rfl ?_
    refine E_getI (pc := 6) (ci := 6) (f := 8) (zDk zD_74_ok 4 rfl) zc_74 (by decide +kernel) (by decide) hr0 ?_
    refine E_icmp (pc := 9) (t := 16) (zDk zD_74_ok 5 rfl) rfl (fun hz => ?_) (fun hz => ?_)
    · have h := zS_f h (Int.not_lt.mpr (T_ge hz))
      refine E_iconst (pc := 16) (zDk zD_74_ok 8 rfl) (by decide +kernel) ?_
      have h := zS_some h
      exact E_ireturnZ (pc := 17) (zDk zD_74_ok 9 rfl) zt_74 (by decide) h
    · have h := zS_t h (F_ge hz)
      refine E_iconst (pc := 12) (zDk zD_74_ok 6 rfl) (by decide +kernel) ?_
      refine E_goto (pc := 13) (t := 17) (zDk zD_74_ok 7 rfl) rfl ?_
      have h := zS_some h
      exact E_ireturnZ (pc := 17) (zDk zD_74_ok 9 rfl) zt_74 (by decide) h
def zD_75 : List (Nat × Instr × Nat) := [(0, .iconst (0), 1), (1, .istore_n (2), 1), (2, .iconst (0), 1), (3, .istore_n (3), 1), (4, .iload_n (3), 1), (5, .aload_n (0), 1), (6, .getfield (64), 3), (9, .if_icmp .ge (24), 3), (12, .iload_n (2), 1), (13, .aload_n (0), 1), (14, .getfield (36), 3), (17, .iload_n (3), 1), (18, .iaload, 1), (19, .iload_n (1), 1), (20, .ishr, 1), (21, .iconst (1), 1), (22, .iand, 1), (23, .iload_n (3), 1), (24, .ishl, 1), (25, .ior, 1), (26, .istore_n (2), 1), (27, .iinc (3) (1), 3), (30, .goto (-26), 3), (33, .iload_n (2), 1), (34, .ireturn, 1)]
set_option maxRecDepth 100000 in
theorem zD_75_ok : zDo 75 zD_75 = true := by decide +kernel
theorem zc_75 : zcls 75 = 6 := by decide +kernel
theorem zm_75 : zml 75 = 4 := by decide +kernel
theorem zt_75 : zrt 75 = (some (.int)) := by decide +kernel
theorem zk_75 : zkd 75 = 1 ∧ znp 75 + 1 = 2 := by decide +kernel
theorem zr_75 (as : List zV) : zrk 75 as = 0 := by unfold zrk; rw [if_neg (by decide)]; decide +kernel
def lT_contractsOf_c4 (r0 : Nat) (x1 : Int) (M : Nat → Nat → Int) : Nat → Int → Int → Option Int
  | 0, _, _ => none
  | n + 1, y2, y3 =>
    (if y3 < (M r0 8) then
    ((rdI (r0 + 9) y3 M).bind (fun v18 =>
    ((lT_contractsOf_c4 r0 x1 M n) (zor y2 (zshl (zand (zshr v18 x1) (1 : Int)) y3)) (w32 (y3 + 1)))))
    else
    (some y2))
set_option maxRecDepth 100000 in
theorem ok_lT_contractsOf_c4 {sc : zSc} {q : Nat} {P : Option zV → (Nat → Nat → Int) → Prop} (hq : 0 ≤ q) (r0 : Nat) (x1 : Int) (hr0 : zis 6 r0 = true) (M : Nat → Nat → Int) : ∀ (n : Nat) (y2 : Int) (y3 : Int), zS (lT_contractsOf_c4 r0 x1 M n y2 y3) (fun x => P (some (.inl x)) M) → zWp sc q 75 4 [some (.inr (.inr r0)), some (.inl x1), some (.inl y2), some (.inl y3)] [] M P := by
  intro n
  induction n with
  | zero => intro y2 y3 h; exact (zS_none h).elim
  | succ n ih =>
    intro y2 y3 h
    rw [lT_contractsOf_c4] at h
    refine E_iload_n (pc := 4) (zDk zD_75_ok 4 rfl) rfl ?_
    refine E_aload_n (pc := 5) (zDk zD_75_ok 5 rfl) rfl ?_
    refine E_getI (pc := 6) (ci := 6) (f := 8) (zDk zD_75_ok 6 rfl) zc_75 (by decide +kernel) (by decide) hr0 ?_
    refine E_icmp (pc := 9) (t := 33) (zDk zD_75_ok 7 rfl) rfl (fun hz => ?_) (fun hz => ?_)
    · have h := zS_f h (Int.not_lt.mpr (T_ge hz))
      refine E_iload_n (pc := 33) (zDk zD_75_ok 23 rfl) rfl ?_
      have h := zS_some h
      exact E_ireturn (pc := 34) (zDk zD_75_ok 24 rfl) zt_75 h
    · have h := zS_t h (F_ge hz)
      refine E_iload_n (pc := 12) (zDk zD_75_ok 8 rfl) rfl ?_
      refine E_aload_n (pc := 13) (zDk zD_75_ok 9 rfl) rfl ?_
      refine E_getR (pc := 14) (ci := 6) (f := 17) (r := (r0 + 9)) (zDk zD_75_ok 10 rfl) zc_75 (by decide +kernel) (by decide) hr0 (zg_6_17 hr0) (zh_6_17 hr0) ?_
      refine E_iload_n (pc := 17) (zDk zD_75_ok 11 rfl) rfl ?_
      obtain ⟨v18, e18, h⟩ := zS_bind h
      refine E_iaload (pc := 18) (zDk zD_75_ok 12 rfl) e18 ?_
      refine E_iload_n (pc := 19) (zDk zD_75_ok 13 rfl) rfl ?_
      refine E_ishr (pc := 20) (zDk zD_75_ok 14 rfl) ?_
      refine E_iconst (pc := 21) (zDk zD_75_ok 15 rfl) (by decide +kernel) ?_
      refine E_iand (pc := 22) (zDk zD_75_ok 16 rfl) ?_
      refine E_iload_n (pc := 23) (zDk zD_75_ok 17 rfl) rfl ?_
      refine E_ishl (pc := 24) (zDk zD_75_ok 18 rfl) ?_
      refine E_ior (pc := 25) (zDk zD_75_ok 19 rfl) ?_
      refine W_istore_n (pc := 26) (L' := [some (.inr (.inr r0)), some (.inl x1), some (.inl (zor y2 (zshl (zand (zshr v18 x1) (1 : Int)) y3))), some (.inl y3)]) (zDk zD_75_ok 20 rfl) zm_75 (by decide) rfl ?_
      refine W_iinc (pc := 27) (L' := [some (.inr (.inr r0)), some (.inl x1), some (.inl (zor y2 (zshl (zand (zshr v18 x1) (1 : Int)) y3))), some (.inl (w32 (y3 + 1)))]) (zDk zD_75_ok 21 rfl) rfl zm_75 (by decide) rfl ?_
      refine E_goto (pc := 30) (t := 4) (zDk zD_75_ok 22 rfl) rfl ?_
      exact (ih) (zor y2 (zshl (zand (zshr v18 x1) (1 : Int)) y3)) (w32 (y3 + 1)) h
def lT_contractsOf (r0 : Nat) (x1 : Int) (M : Nat → Nat → Int) : Option Int :=
    (if zis 6 r0 = true then
    (lT_contractsOf_c4 r0 x1 M zN (0 : Int) (0 : Int))
    else none)
set_option maxRecDepth 100000 in
theorem ok_lT_contractsOf {sc : zSc} {r0 : Nat} {x1 : Int} {M : Nat → Nat → Int} {P : Int → (Nat → Nat → Int) → Prop} (h : zS (lT_contractsOf r0 x1 M) (fun x => P x M)) : zCi sc 75 [.inr (.inr r0), .inl x1] M P := by
  have ea : zarg (zml 75) [.inr (.inr r0), .inl x1] = [some (.inr (.inr r0)), some (.inl x1), none, none] := by rw [zm_75]; rfl
  unfold zCi zCw
  rw [ea, zr_75]
  have hq : 0 ≤ 0 := Nat.le_refl _
  unfold lT_contractsOf at h
  have h := zS_mono h (fun x hx => (⟨x, rfl, hx⟩ : ∃ y, (some (.inl x) : Option zV) = some (.inl y) ∧ P y M))
  obtain ⟨hr0, h⟩ := zS_c h
  skip
  refine E_iconst (pc := 0) (zDk zD_75_ok 0 rfl) (by decide +kernel) ?_
  refine W_istore_n (pc := 1) (L' := [some (.inr (.inr r0)), some (.inl x1), some (.inl (0 : Int)), none]) (zDk zD_75_ok 1 rfl) zm_75 (by decide) rfl ?_
  refine E_iconst (pc := 2) (zDk zD_75_ok 2 rfl) (by decide +kernel) ?_
  refine W_istore_n (pc := 3) (L' := [some (.inr (.inr r0)), some (.inl x1), some (.inl (0 : Int)), some (.inl (0 : Int))]) (zDk zD_75_ok 3 rfl) zm_75 (by decide) rfl ?_
  exact ok_lT_contractsOf_c4 hq r0 x1 hr0 M zN (0 : Int) (0 : Int) h
def zD_78 : List (Nat × Instr × Nat) := [(0, .iload_n (1), 1), (1, .ifCond .lt (14), 3), (4, .iload_n (1), 1), (5, .aload_n (0), 1), (6, .getfield (10), 3), (9, .getfield (63), 3), (12, .if_icmp .le (5), 3), (15, .iconst (-1), 1), (16, .ireturn, 1), (17, .aload_n (0), 1), (18, .getfield (10), 3), (21, .iload_n (1), 1), (22, .putfield (63), 3), (25, .iload_n (1), 1), (26, .ireturn, 1)]
set_option maxRecDepth 100000 in
theorem zD_78_ok : zDo 78 zD_78 = true := by decide +kernel
theorem zc_78 : zcls 78 = 7 := by decide +kernel
theorem zm_78 : zml 78 = 2 := by decide +kernel
theorem zt_78 : zrt 78 = (some (.int)) := by decide +kernel
theorem zk_78 : zkd 78 = 1 ∧ znp 78 + 1 = 2 := by decide +kernel
theorem zr_78 (as : List zV) : zrk 78 as = 0 := by unfold zrk; rw [if_neg (by decide)]; decide +kernel
def lX_end (x1 : Int) (M : Nat → Nat → Int) : Option (Int × (Nat → Nat → Int)) :=
    (if x1 < 0 then
    (some ((-1 : Int), M))
    else
    (if (M 1 1) < x1 then
    (some ((-1 : Int), M))
    else
    ((some (zup M 1 1 x1)).bind (fun M22 =>
    (some (x1, M22))))))
set_option maxRecDepth 100000 in
theorem ok_lX_end {sc : zSc} {x1 : Int} {M : Nat → Nat → Int} {P : Int → (Nat → Nat → Int) → Prop} (h : zS (lX_end x1 M) (fun r => P r.1 r.2)) : zCi sc 78 [.inr (.inr 0), .inl x1] M P := by
  have ea : zarg (zml 78) [.inr (.inr 0), .inl x1] = [some (.inr (.inr 0)), some (.inl x1)] := by rw [zm_78]; rfl
  unfold zCi zCw
  rw [ea, zr_78]
  have hq : 0 ≤ 0 := Nat.le_refl _
  unfold lX_end at h
  have h := zS_mono h (fun x hx => (⟨x.1, rfl, hx⟩ : ∃ y, (some (.inl x.1) : Option zV) = some (.inl y) ∧ P y x.2))
  skip
  refine E_iload_n (pc := 0) (zDk zD_78_ok 0 rfl) rfl ?_
  refine E_if (pc := 1) (t := 15) (zDk zD_78_ok 1 rfl) rfl (fun hz => ?_) (fun hz => ?_)
  · have h := zS_t h (T_lt hz)
    refine E_iconst (pc := 15) (zDk zD_78_ok 7 rfl) (by decide +kernel) ?_
    have h := zS_some h
    exact E_ireturn (pc := 16) (zDk zD_78_ok 8 rfl) zt_78 h
  · have h := zS_f h (Int.not_lt.mpr (F_lt hz))
    refine E_iload_n (pc := 4) (zDk zD_78_ok 2 rfl) rfl ?_
    refine E_aload_n (pc := 5) (zDk zD_78_ok 3 rfl) rfl ?_
    refine E_getR (pc := 6) (ci := 7) (f := 0) (r := 1) (zDk zD_78_ok 4 rfl) zc_78 (by decide +kernel) (by decide) zis_7_0 (by decide +kernel) (by decide) ?_
    refine E_getI (pc := 9) (ci := 4) (f := 1) (zDk zD_78_ok 5 rfl) zc_78 (by decide +kernel) (by decide) zis_4_1 ?_
    refine E_icmp (pc := 12) (t := 17) (zDk zD_78_ok 6 rfl) rfl (fun hz => ?_) (fun hz => ?_)
    · have h := zS_f h (Int.not_lt.mpr (T_le hz))
      refine E_aload_n (pc := 17) (zDk zD_78_ok 9 rfl) rfl ?_
      refine E_getR (pc := 18) (ci := 7) (f := 0) (r := 1) (zDk zD_78_ok 10 rfl) zc_78 (by decide +kernel) (by decide) zis_7_0 (by decide +kernel) (by decide) ?_
      refine E_iload_n (pc := 21) (zDk zD_78_ok 11 rfl) rfl ?_
      obtain ⟨M22, e22, h⟩ := zS_bind h
      refine W_putI (pc := 22) (ci := 4) (f := 1) (zDk zD_78_ok 12 rfl) zc_78 (by decide +kernel) (by decide) zis_4_1 (Option.some.inj e22) ?_
      refine E_iload_n (pc := 25) (zDk zD_78_ok 13 rfl) rfl ?_
      have h := zS_some h
      exact E_ireturn (pc := 26) (zDk zD_78_ok 14 rfl) zt_78 h
    · have h := zS_t h (F_le hz)
      refine E_iconst (pc := 15) (zDk zD_78_ok 7 rfl) (by decide +kernel) ?_
      have h := zS_some h
      exact E_ireturn (pc := 16) (zDk zD_78_ok 8 rfl) zt_78 h
def zD_80 : List (Nat × Instr × Nat) := [(0, .iload_n (1), 1), (1, .ifCond .ne (11), 3), (4, .aload_n (0), 1), (5, .getfield (10), 3), (8, .getfield (75), 3), (11, .ireturn, 1), (12, .iload_n (1), 1), (13, .iconst (1), 1), (14, .if_icmp .ne (13), 3), (17, .aload_n (0), 1), (18, .getfield (10), 3), (21, .getfield (90), 3), (24, .goto (4), 3), (27, .iconst (-1), 1), (28, .ireturn, 1)]
set_option maxRecDepth 100000 in
theorem zD_80_ok : zDo 80 zD_80 = true := by decide +kernel
theorem zc_80 : zcls 80 = 7 := by decide +kernel
theorem zm_80 : zml 80 = 2 := by decide +kernel
theorem zt_80 : zrt 80 = (some (.int)) := by decide +kernel
theorem zk_80 : zkd 80 = 1 ∧ znp 80 + 1 = 2 := by decide +kernel
theorem zr_80 (as : List zV) : zrk 80 as = 0 := by unfold zrk; rw [if_neg (by decide)]; decide +kernel
def lX_fault (x1 : Int) (M : Nat → Nat → Int) : Option Int :=
    (if x1 = 0 then
    (some (M 1 2))
    else
    (if x1 = (1 : Int) then
    (some (M 1 3))
    else
    (some (-1 : Int))))
set_option maxRecDepth 100000 in
theorem ok_lX_fault {sc : zSc} {x1 : Int} {M : Nat → Nat → Int} {P : Int → (Nat → Nat → Int) → Prop} (h : zS (lX_fault x1 M) (fun x => P x M)) : zCi sc 80 [.inr (.inr 0), .inl x1] M P := by
  have ea : zarg (zml 80) [.inr (.inr 0), .inl x1] = [some (.inr (.inr 0)), some (.inl x1)] := by rw [zm_80]; rfl
  unfold zCi zCw
  rw [ea, zr_80]
  have hq : 0 ≤ 0 := Nat.le_refl _
  unfold lX_fault at h
  have h := zS_mono h (fun x hx => (⟨x, rfl, hx⟩ : ∃ y, (some (.inl x) : Option zV) = some (.inl y) ∧ P y M))
  skip
  refine E_iload_n (pc := 0) (zDk zD_80_ok 0 rfl) rfl ?_
  refine E_if (pc := 1) (t := 12) (zDk zD_80_ok 1 rfl) rfl (fun hz => ?_) (fun hz => ?_)
  · have h := zS_f h (T_ne hz)
    refine E_iload_n (pc := 12) (zDk zD_80_ok 6 rfl) rfl ?_
    refine E_iconst (pc := 13) (zDk zD_80_ok 7 rfl) (by decide +kernel) ?_
    refine E_icmp (pc := 14) (t := 27) (zDk zD_80_ok 8 rfl) rfl (fun hz => ?_) (fun hz => ?_)
    · have h := zS_f h (T_ne hz)
      refine E_iconst (pc := 27) (zDk zD_80_ok 13 rfl) (by decide +kernel) ?_
      have h := zS_some h
      exact E_ireturn (pc := 28) (zDk zD_80_ok 14 rfl) zt_80 h
    · have h := zS_t h (F_ne hz)
      refine E_aload_n (pc := 17) (zDk zD_80_ok 9 rfl) rfl ?_
      refine E_getR (pc := 18) (ci := 7) (f := 0) (r := 1) (zDk zD_80_ok 10 rfl) zc_80 (by decide +kernel) (by decide) zis_7_0 (by decide +kernel) (by decide) ?_
      refine E_getI (pc := 21) (ci := 4) (f := 3) (zDk zD_80_ok 11 rfl) zc_80 (by decide +kernel) (by decide) zis_4_1 ?_
      refine E_goto (pc := 24) (t := 28) (zDk zD_80_ok 12 rfl) rfl ?_
      have h := zS_some h
      exact E_ireturn (pc := 28) (zDk zD_80_ok 14 rfl) zt_80 h
  · have h := zS_t h (F_ne hz)
    refine E_aload_n (pc := 4) (zDk zD_80_ok 2 rfl) rfl ?_
    refine E_getR (pc := 5) (ci := 7) (f := 0) (r := 1) (zDk zD_80_ok 3 rfl) zc_80 (by decide +kernel) (by decide) zis_7_0 (by decide +kernel) (by decide) ?_
    refine E_getI (pc := 8) (ci := 4) (f := 2) (zDk zD_80_ok 4 rfl) zc_80 (by decide +kernel) (by decide) zis_4_1 ?_
    have h := zS_some h
    exact E_ireturn (pc := 11) (zDk zD_80_ok 5 rfl) zt_80 h
def zD_146 : List (Nat × Instr × Nat) := [(0, .iconst (0), 1), (1, .istore_n (1), 1), (2, .iload_n (1), 1), (3, .bipush (31), 2), (5, .if_icmp .ge (19), 3), (8, .iload_n (0), 1), (9, .iload_n (1), 1), (10, .ishr, 1), (11, .iconst (1), 1), (12, .iand, 1), (13, .ifCond .eq (5), 3), (16, .iload_n (1), 1), (17, .ireturn, 1), (18, .iinc (1) (1), 3), (21, .goto (-19), 3), (24, .iconst (-1), 1), (25, .ireturn, 1)]
set_option maxRecDepth 100000 in
theorem zD_146_ok : zDo 146 zD_146 = true := by decide +kernel
theorem zc_146 : zcls 146 = 7 := by decide +kernel
theorem zm_146 : zml 146 = 2 := by decide +kernel
theorem zt_146 : zrt 146 = (some (.int)) := by decide +kernel
theorem zk_146 : zkd 146 = 0 ∧ znp 146 = 1 := by decide +kernel
theorem zr_146 (as : List zV) : zrk 146 as = 0 := by unfold zrk; rw [if_neg (by decide)]; decide +kernel
def lX_leastOf_c2 (x0 : Int) (M : Nat → Nat → Int) : Nat → Int → Option Int
  | 0, _ => none
  | n + 1, y1 =>
    (if y1 < (31 : Int) then
    (if (zand (zshr x0 y1) (1 : Int)) = 0 then
    ((lX_leastOf_c2 x0 M n) (w32 (y1 + 1)))
    else
    (some y1))
    else
    (some (-1 : Int)))
set_option maxRecDepth 100000 in
theorem ok_lX_leastOf_c2 {sc : zSc} {q : Nat} {P : Option zV → (Nat → Nat → Int) → Prop} (hq : 0 ≤ q) (x0 : Int) (M : Nat → Nat → Int) : ∀ (n : Nat) (y1 : Int), zS (lX_leastOf_c2 x0 M n y1) (fun x => P (some (.inl x)) M) → zWp sc q 146 2 [some (.inl x0), some (.inl y1)] [] M P := by
  intro n
  induction n with
  | zero => intro y1 h; exact (zS_none h).elim
  | succ n ih =>
    intro y1 h
    rw [lX_leastOf_c2] at h
    refine E_iload_n (pc := 2) (zDk zD_146_ok 2 rfl) rfl ?_
    refine E_bipush (pc := 3) (zDk zD_146_ok 3 rfl) (by decide +kernel) ?_
    refine E_icmp (pc := 5) (t := 24) (zDk zD_146_ok 4 rfl) rfl (fun hz => ?_) (fun hz => ?_)
    · have h := zS_f h (Int.not_lt.mpr (T_ge hz))
      refine E_iconst (pc := 24) (zDk zD_146_ok 15 rfl) (by decide +kernel) ?_
      have h := zS_some h
      exact E_ireturn (pc := 25) (zDk zD_146_ok 16 rfl) zt_146 h
    · have h := zS_t h (F_ge hz)
      refine E_iload_n (pc := 8) (zDk zD_146_ok 5 rfl) rfl ?_
      refine E_iload_n (pc := 9) (zDk zD_146_ok 6 rfl) rfl ?_
      refine E_ishr (pc := 10) (zDk zD_146_ok 7 rfl) ?_
      refine E_iconst (pc := 11) (zDk zD_146_ok 8 rfl) (by decide +kernel) ?_
      refine E_iand (pc := 12) (zDk zD_146_ok 9 rfl) ?_
      refine E_if (pc := 13) (t := 18) (zDk zD_146_ok 10 rfl) rfl (fun hz => ?_) (fun hz => ?_)
      · have h := zS_t h (T_eq hz)
        refine W_iinc (pc := 18) (L' := [some (.inl x0), some (.inl (w32 (y1 + 1)))]) (zDk zD_146_ok 13 rfl) rfl zm_146 (by decide) rfl ?_
        refine E_goto (pc := 21) (t := 2) (zDk zD_146_ok 14 rfl) rfl ?_
        exact (ih) (w32 (y1 + 1)) h
      · have h := zS_f h (F_eq hz)
        refine E_iload_n (pc := 16) (zDk zD_146_ok 11 rfl) rfl ?_
        have h := zS_some h
        exact E_ireturn (pc := 17) (zDk zD_146_ok 12 rfl) zt_146 h
def lX_leastOf (x0 : Int) (M : Nat → Nat → Int) : Option Int :=
    (lX_leastOf_c2 x0 M zN (0 : Int))
set_option maxRecDepth 100000 in
theorem ok_lX_leastOf {sc : zSc} {x0 : Int} {M : Nat → Nat → Int} {P : Int → (Nat → Nat → Int) → Prop} (h : zS (lX_leastOf x0 M) (fun x => P x M)) : zCi sc 146 [.inl x0] M P := by
  have ea : zarg (zml 146) [.inl x0] = [some (.inl x0), none] := by rw [zm_146]; rfl
  unfold zCi zCw
  rw [ea, zr_146]
  have hq : 0 ≤ 0 := Nat.le_refl _
  unfold lX_leastOf at h
  have h := zS_mono h (fun x hx => (⟨x, rfl, hx⟩ : ∃ y, (some (.inl x) : Option zV) = some (.inl y) ∧ P y M))
  skip
  refine E_iconst (pc := 0) (zDk zD_146_ok 0 rfl) (by decide +kernel) ?_
  refine W_istore_n (pc := 1) (L' := [some (.inl x0), some (.inl (0 : Int))]) (zDk zD_146_ok 1 rfl) zm_146 (by decide) rfl ?_
  exact ok_lX_leastOf_c2 hq x0 M zN (0 : Int) h
def zD_157 : List (Nat × Instr × Nat) := [(0, .iconst (0), 1), (1, .istore_n (3), 1), (2, .iload_n (3), 1), (3, .aload_n (0), 1), (4, .getfield (19), 3), (7, .getfield (177), 3), (10, .if_icmp .gt (33), 3), (13, .aload_n (0), 1), (14, .getfield (59), 3), (17, .iload_n (2), 1), (18, .bipush (21), 2), (20, .imul, 1), (21, .iload_n (3), 1), (22, .iadd, 1), (23, .aload_n (0), 1), (24, .getfield (42), 3), (27, .getfield (139), 3), (30, .iload_n (3), 1), (31, .iconst (5), 1), (32, .imul, 1), (33, .iload_n (1), 1), (34, .iadd, 1), (35, .iaload, 1), (36, .iastore, 1), (37, .iinc (3) (1), 3), (40, .goto (-38), 3), (43, .return_, 1)]
set_option maxRecDepth 100000 in
theorem zD_157_ok : zDo 157 zD_157 = true := by decide +kernel
theorem zc_157 : zcls 157 = 7 := by decide +kernel
theorem zm_157 : zml 157 = 4 := by decide +kernel
theorem zt_157 : zrt 157 = none := by decide +kernel
theorem zk_157 : zkd 157 = 1 ∧ znp 157 + 1 = 3 := by decide +kernel
theorem zr_157 (as : List zV) : zrk 157 as = 0 := by unfold zrk; rw [if_neg (by decide)]; decide +kernel
def lX_keepTrace_c2 (x1 : Int) (x2 : Int) : Nat → Int → (Nat → Nat → Int) → Option (Nat → Nat → Int)
  | 0, _, _ => none
  | n + 1, y3, M =>
    (if (M 3 1) < y3 then
    (some M)
    else
    ((rdI 42 (w32 ((w32 (y3 * (5 : Int))) + x1)) M).bind (fun v35 =>
    ((wrI 105 (w32 ((w32 (x2 * (21 : Int))) + y3)) v35 M).bind (fun M36 =>
    ((lX_keepTrace_c2 x1 x2 n) (w32 (y3 + 1)) M36))))))
set_option maxRecDepth 100000 in
theorem ok_lX_keepTrace_c2 {sc : zSc} {q : Nat} {P : Option zV → (Nat → Nat → Int) → Prop} (hq : 0 ≤ q) (x1 : Int) (x2 : Int) : ∀ (n : Nat) (y3 : Int) (M : Nat → Nat → Int), zS (lX_keepTrace_c2 x1 x2 n y3 M) (fun M0 => P none M0) → zWp sc q 157 2 [some (.inr (.inr 0)), some (.inl x1), some (.inl x2), some (.inl y3)] [] M P := by
  intro n
  induction n with
  | zero => intro y3 M h; exact (zS_none h).elim
  | succ n ih =>
    intro y3 M h
    rw [lX_keepTrace_c2] at h
    refine E_iload_n (pc := 2) (zDk zD_157_ok 2 rfl) rfl ?_
    refine E_aload_n (pc := 3) (zDk zD_157_ok 3 rfl) rfl ?_
    refine E_getR (pc := 4) (ci := 7) (f := 1) (r := 3) (zDk zD_157_ok 4 rfl) zc_157 (by decide +kernel) (by decide) zis_7_0 (by decide +kernel) (by decide) ?_
    refine E_getI (pc := 7) (ci := 6) (f := 1) (zDk zD_157_ok 5 rfl) zc_157 (by decide +kernel) (by decide) zis_6_3 ?_
    refine E_icmp (pc := 10) (t := 43) (zDk zD_157_ok 6 rfl) rfl (fun hz => ?_) (fun hz => ?_)
    · have h := zS_t h (T_gt hz)
      have h := zS_some h
      exact E_return (x := ()) (pc := 43) (zDk zD_157_ok 26 rfl) zt_157 h
    · have h := zS_f h (Int.not_lt.mpr (F_gt hz))
      refine E_aload_n (pc := 13) (zDk zD_157_ok 7 rfl) rfl ?_
      refine E_getR (pc := 14) (ci := 7) (f := 8) (r := 105) (zDk zD_157_ok 8 rfl) zc_157 (by decide +kernel) (by decide) zis_7_0 (by decide +kernel) (by decide) ?_
      refine E_iload_n (pc := 17) (zDk zD_157_ok 9 rfl) rfl ?_
      refine E_bipush (pc := 18) (zDk zD_157_ok 10 rfl) (by decide +kernel) ?_
      refine W_imul (pc := 20) (zDk zD_157_ok 11 rfl) ?_
      refine E_iload_n (pc := 21) (zDk zD_157_ok 12 rfl) rfl ?_
      refine W_iadd (pc := 22) (zDk zD_157_ok 13 rfl) ?_
      refine E_aload_n (pc := 23) (zDk zD_157_ok 14 rfl) rfl ?_
      refine E_getR (pc := 24) (ci := 7) (f := 5) (r := 37) (zDk zD_157_ok 15 rfl) zc_157 (by decide +kernel) (by decide) zis_7_0 (by decide +kernel) (by decide) ?_
      refine E_getR (pc := 27) (ci := 1) (f := 5) (r := 42) (zDk zD_157_ok 16 rfl) zc_157 (by decide +kernel) (by decide) zis_1_37 (by decide +kernel) (by decide) ?_
      refine E_iload_n (pc := 30) (zDk zD_157_ok 17 rfl) rfl ?_
      refine E_iconst (pc := 31) (zDk zD_157_ok 18 rfl) (by decide +kernel) ?_
      refine W_imul (pc := 32) (zDk zD_157_ok 19 rfl) ?_
      refine E_iload_n (pc := 33) (zDk zD_157_ok 20 rfl) rfl ?_
      refine W_iadd (pc := 34) (zDk zD_157_ok 21 rfl) ?_
      obtain ⟨v35, e35, h⟩ := zS_bind h
      refine E_iaload (pc := 35) (zDk zD_157_ok 22 rfl) e35 ?_
      obtain ⟨M36, e36, h⟩ := zS_bind h
      refine E_iastore (pc := 36) (zDk zD_157_ok 23 rfl) e36 ?_
      refine W_iinc (pc := 37) (L' := [some (.inr (.inr 0)), some (.inl x1), some (.inl x2), some (.inl (w32 (y3 + 1)))]) (zDk zD_157_ok 24 rfl) rfl zm_157 (by decide) rfl ?_
      refine E_goto (pc := 40) (t := 2) (zDk zD_157_ok 25 rfl) rfl ?_
      exact (ih) (w32 (y3 + 1)) M36 h
def lX_keepTrace (x1 : Int) (x2 : Int) (M : Nat → Nat → Int) : Option (Nat → Nat → Int) :=
    (lX_keepTrace_c2 x1 x2 zN (0 : Int) M)
set_option maxRecDepth 100000 in
theorem ok_lX_keepTrace {sc : zSc} {x1 : Int} {x2 : Int} {M : Nat → Nat → Int} {P : (Nat → Nat → Int) → Prop} (h : zS (lX_keepTrace x1 x2 M) P) : zCv sc 157 [.inr (.inr 0), .inl x1, .inl x2] M P := by
  have ea : zarg (zml 157) [.inr (.inr 0), .inl x1, .inl x2] = [some (.inr (.inr 0)), some (.inl x1), some (.inl x2), none] := by rw [zm_157]; rfl
  unfold zCv zCw
  rw [ea, zr_157]
  have hq : 0 ≤ 0 := Nat.le_refl _
  unfold lX_keepTrace at h
  have h := zS_mono h (fun x hx => (⟨rfl, hx⟩ : (none : Option zV) = none ∧ P x))
  skip
  refine E_iconst (pc := 0) (zDk zD_157_ok 0 rfl) (by decide +kernel) ?_
  refine W_istore_n (pc := 1) (L' := [some (.inr (.inr 0)), some (.inl x1), some (.inl x2), some (.inl (0 : Int))]) (zDk zD_157_ok 1 rfl) zm_157 (by decide) rfl ?_
  exact ok_lX_keepTrace_c2 hq x1 x2 zN (0 : Int) M h
def zD_158 : List (Nat × Instr × Nat) := [(0, .aload_n (0), 1), (1, .getfield (59), 3), (4, .iload_n (1), 1), (5, .bipush (21), 2), (7, .imul, 1), (8, .iload_n (2), 1), (9, .iadd, 1), (10, .iaload, 1), (11, .ireturn, 1)]
set_option maxRecDepth 100000 in
theorem zD_158_ok : zDo 158 zD_158 = true := by decide +kernel
theorem zc_158 : zcls 158 = 7 := by decide +kernel
theorem zm_158 : zml 158 = 3 := by decide +kernel
theorem zt_158 : zrt 158 = (some (.int)) := by decide +kernel
theorem zk_158 : zkd 158 = 1 ∧ znp 158 + 1 = 3 := by decide +kernel
theorem zr_158 (as : List zV) : zrk 158 as = 0 := by unfold zrk; rw [if_neg (by decide)]; decide +kernel
def lX_traced (x1 : Int) (x2 : Int) (M : Nat → Nat → Int) : Option Int :=
    ((rdI 105 (w32 ((w32 (x1 * (21 : Int))) + x2)) M).bind (fun v10 =>
    (some v10)))
set_option maxRecDepth 100000 in
theorem ok_lX_traced {sc : zSc} {x1 : Int} {x2 : Int} {M : Nat → Nat → Int} {P : Int → (Nat → Nat → Int) → Prop} (h : zS (lX_traced x1 x2 M) (fun x => P x M)) : zCi sc 158 [.inr (.inr 0), .inl x1, .inl x2] M P := by
  have ea : zarg (zml 158) [.inr (.inr 0), .inl x1, .inl x2] = [some (.inr (.inr 0)), some (.inl x1), some (.inl x2)] := by rw [zm_158]; rfl
  unfold zCi zCw
  rw [ea, zr_158]
  have hq : 0 ≤ 0 := Nat.le_refl _
  unfold lX_traced at h
  have h := zS_mono h (fun x hx => (⟨x, rfl, hx⟩ : ∃ y, (some (.inl x) : Option zV) = some (.inl y) ∧ P y M))
  skip
  refine E_aload_n (pc := 0) (zDk zD_158_ok 0 rfl) rfl ?_
  refine E_getR (pc := 1) (ci := 7) (f := 8) (r := 105) (zDk zD_158_ok 1 rfl) zc_158 (by decide +kernel) (by decide) zis_7_0 (by decide +kernel) (by decide) ?_
  refine E_iload_n (pc := 4) (zDk zD_158_ok 2 rfl) rfl ?_
  refine E_bipush (pc := 5) (zDk zD_158_ok 3 rfl) (by decide +kernel) ?_
  refine W_imul (pc := 7) (zDk zD_158_ok 4 rfl) ?_
  refine E_iload_n (pc := 8) (zDk zD_158_ok 5 rfl) rfl ?_
  refine W_iadd (pc := 9) (zDk zD_158_ok 6 rfl) ?_
  obtain ⟨v10, e10, h⟩ := zS_bind h
  refine E_iaload (pc := 10) (zDk zD_158_ok 7 rfl) e10 ?_
  have h := zS_some h
  exact E_ireturn (pc := 11) (zDk zD_158_ok 8 rfl) zt_158 h
def zD_163 : List (Nat × Instr × Nat) := [(0, .iconst (0), 1), (1, .istore_n (3), 1), (2, .iload_n (3), 1), (3, .iconst (1), 1), (4, .iadd, 1), (5, .aload_n (0), 1), (6, .getfield (55), 3), (9, .getfield (363), 3), (12, .iload_n (1), 1), (13, .iaload, 1), (14, .if_icmp .ge (53), 3), (17, .aload_n (0), 1), (18, .getfield (55), 3), (21, .getfield (366), 3), (24, .iload_n (1), 1), (25, .aaload, 1), (26, .iload_n (3), 1), (27, .laload, 1), (28, .lstore (4), 2), (30, .lload (4), 2), (32, .lconst (0), 1), (33, .lcmp, 1), (34, .ifCond .le (25), 3), (37, .iload_n (2), 1), (38, .i2l, 1), (39, .lload (4), 2), (41, .lrem, 1), (42, .aload_n (0), 1), (43, .getfield (55), 3), (46, .getfield (366), 3), (49, .iload_n (1), 1), (50, .aaload, 1), (51, .iload_n (3), 1), (52, .iconst (1), 1), (53, .iadd, 1), (54, .laload, 1), (55, .lcmp, 1), (56, .ifCond .eq (5), 3), (59, .iconst (0), 1), (60, .ireturn, 1), (61, .iinc (3) (2), 3), (64, .goto (-62), 3), (67, .iconst (1), 1), (68, .ireturn, 1)]
set_option maxRecDepth 100000 in
theorem zD_163_ok : zDo 163 zD_163 = true := by decide +kernel
theorem zc_163 : zcls 163 = 7 := by decide +kernel
theorem zm_163 : zml 163 = 6 := by decide +kernel
theorem zt_163 : zrt 163 = (some (.boolean)) := by decide +kernel
theorem zk_163 : zkd 163 = 1 ∧ znp 163 + 1 = 3 := by decide +kernel
theorem zr_163 (as : List zV) : zrk 163 as = 0 := by unfold zrk; rw [if_neg (by decide)]; decide +kernel
def lX_agreesWithSniffs_c2 (x1 : Int) (x2 : Int) (M : Nat → Nat → Int) : Nat → Int → Option Int
  | 0, _ => none
  | n + 1, y3 =>
    ((rdI 99 x1 M).bind (fun v13 =>
    (if (w32 (y3 + (1 : Int))) < v13 then
    ((rdA 100 x1).bind (fun v25 =>
    ((rdL v25 y3 M).bind (fun v27 =>
    (if (0 : Int) < v27 then
    (if v27 = 0 then none else ((rdA 100 x1).bind (fun v50 =>
    ((rdL v50 (w32 (y3 + (1 : Int))) M).bind (fun v54 =>
    (if (zremL x2 v27) = v54 then
    ((lX_agreesWithSniffs_c2 x1 x2 M n) (w32 (y3 + 2)))
    else
    (some (0 : Int))))))))
    else
    (some (0 : Int)))))))
    else
    (some (1 : Int)))))
set_option maxRecDepth 100000 in
theorem ok_lX_agreesWithSniffs_c2 {sc : zSc} {q : Nat} {P : Option zV → (Nat → Nat → Int) → Prop} (hq : 0 ≤ q) (x1 : Int) (x2 : Int) (M : Nat → Nat → Int) : ∀ (n : Nat) (y3 : Int) (d4 d5 : Option zV), zS (lX_agreesWithSniffs_c2 x1 x2 M n y3) (fun x => P (some (.inl x)) M) → zWp sc q 163 2 [some (.inr (.inr 0)), some (.inl x1), some (.inl x2), some (.inl y3), d4, d5] [] M P := by
  intro n
  induction n with
  | zero => intro y3 d4 d5 h; exact (zS_none h).elim
  | succ n ih =>
    intro y3 d4 d5 h
    rw [lX_agreesWithSniffs_c2] at h
    refine E_iload_n (pc := 2) (zDk zD_163_ok 2 rfl) rfl ?_
    refine E_iconst (pc := 3) (zDk zD_163_ok 3 rfl) (by decide +kernel) ?_
    refine W_iadd (pc := 4) (zDk zD_163_ok 4 rfl) ?_
    refine E_aload_n (pc := 5) (zDk zD_163_ok 5 rfl) rfl ?_
    refine E_getR (pc := 6) (ci := 7) (f := 7) (r := 97) (zDk zD_163_ok 6 rfl) zc_163 (by decide +kernel) (by decide) zis_7_0 (by decide +kernel) (by decide) ?_
    refine E_getR (pc := 9) (ci := 5) (f := 1) (r := 99) (zDk zD_163_ok 7 rfl) zc_163 (by decide +kernel) (by decide) zis_5_97 (by decide +kernel) (by decide) ?_
    refine E_iload_n (pc := 12) (zDk zD_163_ok 8 rfl) rfl ?_
    obtain ⟨v13, e13, h⟩ := zS_bind h
    refine E_iaload (pc := 13) (zDk zD_163_ok 9 rfl) e13 ?_
    refine E_icmp (pc := 14) (t := 67) (zDk zD_163_ok 10 rfl) rfl (fun hz => ?_) (fun hz => ?_)
    · have h := zS_f h (Int.not_lt.mpr (T_ge hz))
      refine E_iconst (pc := 67) (zDk zD_163_ok 42 rfl) (by decide +kernel) ?_
      have h := zS_some h
      exact E_ireturnZ (pc := 68) (zDk zD_163_ok 43 rfl) zt_163 (by decide) h
    · have h := zS_t h (F_ge hz)
      refine E_aload_n (pc := 17) (zDk zD_163_ok 11 rfl) rfl ?_
      refine E_getR (pc := 18) (ci := 7) (f := 7) (r := 97) (zDk zD_163_ok 12 rfl) zc_163 (by decide +kernel) (by decide) zis_7_0 (by decide +kernel) (by decide) ?_
      refine E_getR (pc := 21) (ci := 5) (f := 2) (r := 100) (zDk zD_163_ok 13 rfl) zc_163 (by decide +kernel) (by decide) zis_5_97 (by decide +kernel) (by decide) ?_
      refine E_iload_n (pc := 24) (zDk zD_163_ok 14 rfl) rfl ?_
      obtain ⟨v25, e25, h⟩ := zS_bind h
      refine E_aaload (pc := 25) (zDk zD_163_ok 15 rfl) e25 ?_
      refine E_iload_n (pc := 26) (zDk zD_163_ok 16 rfl) rfl ?_
      obtain ⟨v27, e27, h⟩ := zS_bind h
      refine E_laload (pc := 27) (zDk zD_163_ok 17 rfl) e27 ?_
      refine W_lstore (pc := 28) (L' := [some (.inr (.inr 0)), some (.inl x1), some (.inl x2), some (.inl y3), some (.inr (.inl v27)), none]) (zDk zD_163_ok 18 rfl) zm_163 (by decide) rfl ?_
      refine E_lload (pc := 30) (zDk zD_163_ok 19 rfl) rfl ?_
      refine E_lconst (pc := 32) (v := 0) (zDk zD_163_ok 20 rfl) (by decide +kernel) ?_
      refine W_lcmp (pc := 33) (zDk zD_163_ok 21 rfl) ?_
      refine E_if (pc := 34) (t := 59) (zDk zD_163_ok 22 rfl) rfl (fun hz => ?_) (fun hz => ?_)
      · have h := zS_f h (Int.not_lt.mpr (zlc_le (T_le hz)))
        refine E_iconst (pc := 59) (zDk zD_163_ok 38 rfl) (by decide +kernel) ?_
        have h := zS_some h
        exact E_ireturnZ (pc := 60) (zDk zD_163_ok 39 rfl) zt_163 (by decide) h
      · have h := zS_t h (zlc_gt (F_le hz))
        refine E_iload_n (pc := 37) (zDk zD_163_ok 23 rfl) rfl ?_
        refine E_i2l (pc := 38) (zDk zD_163_ok 24 rfl) ?_
        refine E_lload (pc := 39) (zDk zD_163_ok 25 rfl) rfl ?_
        have hn41 : ¬ (v27 = 0) := fun e => by rw [if_pos e] at h; exact zS_none h
        have h := zS_f h hn41
        refine E_lrem (pc := 41) (zDk zD_163_ok 26 rfl) hn41 ?_
        refine E_aload_n (pc := 42) (zDk zD_163_ok 27 rfl) rfl ?_
        refine E_getR (pc := 43) (ci := 7) (f := 7) (r := 97) (zDk zD_163_ok 28 rfl) zc_163 (by decide +kernel) (by decide) zis_7_0 (by decide +kernel) (by decide) ?_
        refine E_getR (pc := 46) (ci := 5) (f := 2) (r := 100) (zDk zD_163_ok 29 rfl) zc_163 (by decide +kernel) (by decide) zis_5_97 (by decide +kernel) (by decide) ?_
        refine E_iload_n (pc := 49) (zDk zD_163_ok 30 rfl) rfl ?_
        obtain ⟨v50, e50, h⟩ := zS_bind h
        refine E_aaload (pc := 50) (zDk zD_163_ok 31 rfl) e50 ?_
        refine E_iload_n (pc := 51) (zDk zD_163_ok 32 rfl) rfl ?_
        refine E_iconst (pc := 52) (zDk zD_163_ok 33 rfl) (by decide +kernel) ?_
        refine W_iadd (pc := 53) (zDk zD_163_ok 34 rfl) ?_
        obtain ⟨v54, e54, h⟩ := zS_bind h
        refine E_laload (pc := 54) (zDk zD_163_ok 35 rfl) e54 ?_
        refine W_lcmp (pc := 55) (zDk zD_163_ok 36 rfl) ?_
        refine E_if (pc := 56) (t := 61) (zDk zD_163_ok 37 rfl) rfl (fun hz => ?_) (fun hz => ?_)
        · have h := zS_t h (zlc_eq (T_eq hz))
          refine W_iinc (pc := 61) (L' := [some (.inr (.inr 0)), some (.inl x1), some (.inl x2), some (.inl (w32 (y3 + 2))), some (.inr (.inl v27)), none]) (zDk zD_163_ok 40 rfl) rfl zm_163 (by decide) rfl ?_
          refine E_goto (pc := 64) (t := 2) (zDk zD_163_ok 41 rfl) rfl ?_
          exact (ih) (w32 (y3 + 2)) (some (.inr (.inl v27))) none h
        · have h := zS_f h (zlc_ne (F_eq hz))
          refine E_iconst (pc := 59) (zDk zD_163_ok 38 rfl) (by decide +kernel) ?_
          have h := zS_some h
          exact E_ireturnZ (pc := 60) (zDk zD_163_ok 39 rfl) zt_163 (by decide) h
def lX_agreesWithSniffs (x1 : Int) (x2 : Int) (M : Nat → Nat → Int) : Option Int :=
    (lX_agreesWithSniffs_c2 x1 x2 M zN (0 : Int))
set_option maxRecDepth 100000 in
theorem ok_lX_agreesWithSniffs {sc : zSc} {x1 : Int} {x2 : Int} {M : Nat → Nat → Int} {P : Int → (Nat → Nat → Int) → Prop} (h : zS (lX_agreesWithSniffs x1 x2 M) (fun x => P x M)) : zCi sc 163 [.inr (.inr 0), .inl x1, .inl x2] M P := by
  have ea : zarg (zml 163) [.inr (.inr 0), .inl x1, .inl x2] = [some (.inr (.inr 0)), some (.inl x1), some (.inl x2), none, none, none] := by rw [zm_163]; rfl
  unfold zCi zCw
  rw [ea, zr_163]
  have hq : 0 ≤ 0 := Nat.le_refl _
  unfold lX_agreesWithSniffs at h
  have h := zS_mono h (fun x hx => (⟨x, rfl, hx⟩ : ∃ y, (some (.inl x) : Option zV) = some (.inl y) ∧ P y M))
  skip
  refine E_iconst (pc := 0) (zDk zD_163_ok 0 rfl) (by decide +kernel) ?_
  refine W_istore_n (pc := 1) (L' := [some (.inr (.inr 0)), some (.inl x1), some (.inl x2), some (.inl (0 : Int)), none, none]) (zDk zD_163_ok 1 rfl) zm_163 (by decide) rfl ?_
  exact ok_lX_agreesWithSniffs_c2 hq x1 x2 M zN (0 : Int) none none h
def zD_171 : List (Nat × Instr × Nat) := [(0, .lload_n (2), 1), (1, .lstore (4), 2), (3, .lload_n (0), 1), (4, .lstore (6), 2), (6, .iconst (0), 1), (7, .istore (8), 2), (9, .iload (8), 2), (11, .sipush (200), 3), (14, .if_icmp .ge (31), 3), (17, .lload (6), 2), (19, .lconst (0), 1), (20, .lcmp, 1), (21, .ifCond .le (24), 3), (24, .lload (4), 2), (26, .lload (6), 2), (28, .lrem, 1), (29, .lstore (9), 2), (31, .lload (6), 2), (33, .lstore (4), 2), (35, .lload (9), 2), (37, .lstore (6), 2), (39, .iinc (8) (1), 3), (42, .goto (-33), 3), (45, .lload (4), 2), (47, .lreturn, 1)]
set_option maxRecDepth 100000 in
theorem zD_171_ok : zDo 171 zD_171 = true := by decide +kernel
theorem zc_171 : zcls 171 = 7 := by decide +kernel
theorem zm_171 : zml 171 = 11 := by decide +kernel
theorem zt_171 : zrt 171 = (some (.long)) := by decide +kernel
theorem zk_171 : zkd 171 = 0 ∧ znp 171 = 2 := by decide +kernel
theorem zr_171 (as : List zV) : zrk 171 as = 0 := by unfold zrk; rw [if_neg (by decide)]; decide +kernel
def lX_commonMeasure_c9 (x0 : Int) (x2 : Int) (M : Nat → Nat → Int) : Nat → Int → Int → Int → Option Int
  | 0, _, _, _ => none
  | n + 1, y4, y6, y8 =>
    (if y8 < (200 : Int) then
    (if (0 : Int) < y6 then
    (if y6 = 0 then none else ((lX_commonMeasure_c9 x0 x2 M n) y6 (zremL y4 y6) (w32 (y8 + 1))))
    else
    (some y4))
    else
    (some y4))
set_option maxRecDepth 100000 in
theorem ok_lX_commonMeasure_c9 {sc : zSc} {q : Nat} {P : Option zV → (Nat → Nat → Int) → Prop} (hq : 0 ≤ q) (x0 : Int) (x2 : Int) (M : Nat → Nat → Int) : ∀ (n : Nat) (y4 : Int) (y6 : Int) (y8 : Int) (d9 d10 : Option zV), zS (lX_commonMeasure_c9 x0 x2 M n y4 y6 y8) (fun x => P (some (.inr (.inl x))) M) → zWp sc q 171 9 [some (.inr (.inl x0)), none, some (.inr (.inl x2)), none, some (.inr (.inl y4)), none, some (.inr (.inl y6)), none, some (.inl y8), d9, d10] [] M P := by
  intro n
  induction n with
  | zero => intro y4 y6 y8 d9 d10 h; exact (zS_none h).elim
  | succ n ih =>
    intro y4 y6 y8 d9 d10 h
    rw [lX_commonMeasure_c9] at h
    refine E_iload (pc := 9) (zDk zD_171_ok 6 rfl) rfl ?_
    refine E_sipush (pc := 11) (zDk zD_171_ok 7 rfl) (by decide +kernel) ?_
    refine E_icmp (pc := 14) (t := 45) (zDk zD_171_ok 8 rfl) rfl (fun hz => ?_) (fun hz => ?_)
    · have h := zS_f h (Int.not_lt.mpr (T_ge hz))
      refine E_lload (pc := 45) (zDk zD_171_ok 23 rfl) rfl ?_
      have h := zS_some h
      exact E_lreturn (pc := 47) (zDk zD_171_ok 24 rfl) zt_171 h
    · have h := zS_t h (F_ge hz)
      refine E_lload (pc := 17) (zDk zD_171_ok 9 rfl) rfl ?_
      refine E_lconst (pc := 19) (v := 0) (zDk zD_171_ok 10 rfl) (by decide +kernel) ?_
      refine W_lcmp (pc := 20) (zDk zD_171_ok 11 rfl) ?_
      refine E_if (pc := 21) (t := 45) (zDk zD_171_ok 12 rfl) rfl (fun hz => ?_) (fun hz => ?_)
      · have h := zS_f h (Int.not_lt.mpr (zlc_le (T_le hz)))
        refine E_lload (pc := 45) (zDk zD_171_ok 23 rfl) rfl ?_
        have h := zS_some h
        exact E_lreturn (pc := 47) (zDk zD_171_ok 24 rfl) zt_171 h
      · have h := zS_t h (zlc_gt (F_le hz))
        refine E_lload (pc := 24) (zDk zD_171_ok 13 rfl) rfl ?_
        refine E_lload (pc := 26) (zDk zD_171_ok 14 rfl) rfl ?_
        have hn28 : ¬ (y6 = 0) := fun e => by rw [if_pos e] at h; exact zS_none h
        have h := zS_f h hn28
        refine E_lrem (pc := 28) (zDk zD_171_ok 15 rfl) hn28 ?_
        refine W_lstore (pc := 29) (L' := [some (.inr (.inl x0)), none, some (.inr (.inl x2)), none, some (.inr (.inl y4)), none, some (.inr (.inl y6)), none, some (.inl y8), some (.inr (.inl (zremL y4 y6))), none]) (zDk zD_171_ok 16 rfl) zm_171 (by decide) rfl ?_
        refine E_lload (pc := 31) (zDk zD_171_ok 17 rfl) rfl ?_
        refine W_lstore (pc := 33) (L' := [some (.inr (.inl x0)), none, some (.inr (.inl x2)), none, some (.inr (.inl y6)), none, some (.inr (.inl y6)), none, some (.inl y8), some (.inr (.inl (zremL y4 y6))), none]) (zDk zD_171_ok 18 rfl) zm_171 (by decide) rfl ?_
        refine E_lload (pc := 35) (zDk zD_171_ok 19 rfl) rfl ?_
        refine W_lstore (pc := 37) (L' := [some (.inr (.inl x0)), none, some (.inr (.inl x2)), none, some (.inr (.inl y6)), none, some (.inr (.inl (zremL y4 y6))), none, some (.inl y8), some (.inr (.inl (zremL y4 y6))), none]) (zDk zD_171_ok 20 rfl) zm_171 (by decide) rfl ?_
        refine W_iinc (pc := 39) (L' := [some (.inr (.inl x0)), none, some (.inr (.inl x2)), none, some (.inr (.inl y6)), none, some (.inr (.inl (zremL y4 y6))), none, some (.inl (w32 (y8 + 1))), some (.inr (.inl (zremL y4 y6))), none]) (zDk zD_171_ok 21 rfl) rfl zm_171 (by decide) rfl ?_
        refine E_goto (pc := 42) (t := 9) (zDk zD_171_ok 22 rfl) rfl ?_
        exact (ih) y6 (zremL y4 y6) (w32 (y8 + 1)) (some (.inr (.inl (zremL y4 y6)))) none h
def lX_commonMeasure (x0 : Int) (x2 : Int) (M : Nat → Nat → Int) : Option Int :=
    (lX_commonMeasure_c9 x0 x2 M zN x2 x0 (0 : Int))
set_option maxRecDepth 100000 in
theorem ok_lX_commonMeasure {sc : zSc} {x0 : Int} {x2 : Int} {M : Nat → Nat → Int} {P : Int → (Nat → Nat → Int) → Prop} (h : zS (lX_commonMeasure x0 x2 M) (fun x => P x M)) : zCl sc 171 [.inr (.inl x0), .inr (.inl x2)] M P := by
  have ea : zarg (zml 171) [.inr (.inl x0), .inr (.inl x2)] = [some (.inr (.inl x0)), none, some (.inr (.inl x2)), none, none, none, none, none, none, none, none] := by rw [zm_171]; rfl
  unfold zCl zCw
  rw [ea, zr_171]
  have hq : 0 ≤ 0 := Nat.le_refl _
  unfold lX_commonMeasure at h
  have h := zS_mono h (fun x hx => (⟨x, rfl, hx⟩ : ∃ y, (some (.inr (.inl x)) : Option zV) = some (.inr (.inl y)) ∧ P y M))
  skip
  refine E_lload_n (pc := 0) (zDk zD_171_ok 0 rfl) rfl ?_
  refine W_lstore (pc := 1) (L' := [some (.inr (.inl x0)), none, some (.inr (.inl x2)), none, some (.inr (.inl x2)), none, none, none, none, none, none]) (zDk zD_171_ok 1 rfl) zm_171 (by decide) rfl ?_
  refine E_lload_n (pc := 3) (zDk zD_171_ok 2 rfl) rfl ?_
  refine W_lstore (pc := 4) (L' := [some (.inr (.inl x0)), none, some (.inr (.inl x2)), none, some (.inr (.inl x2)), none, some (.inr (.inl x0)), none, none, none, none]) (zDk zD_171_ok 3 rfl) zm_171 (by decide) rfl ?_
  refine E_iconst (pc := 6) (zDk zD_171_ok 4 rfl) (by decide +kernel) ?_
  refine W_istore (pc := 7) (L' := [some (.inr (.inl x0)), none, some (.inr (.inl x2)), none, some (.inr (.inl x2)), none, some (.inr (.inl x0)), none, some (.inl (0 : Int)), none, none]) (zDk zD_171_ok 5 rfl) zm_171 (by decide) rfl ?_
  exact ok_lX_commonMeasure_c9 hq x0 x2 M zN x2 x0 (0 : Int) none none h
def zD_172 : List (Nat × Instr × Nat) := [(0, .iload_n (0), 1), (1, .ifCond .lt (14), 3), (4, .iload_n (0), 1), (5, .ldc_w (446), 3), (8, .if_icmp .gt (7), 3), (11, .iconst (1), 1), (12, .goto (4), 3), (15, .iconst (0), 1), (16, .ireturn, 1)]
set_option maxRecDepth 100000 in
theorem zD_172_ok : zDo 172 zD_172 = true := by decide +kernel
theorem zc_172 : zcls 172 = 7 := by decide +kernel
theorem zm_172 : zml 172 = 1 := by decide +kernel
theorem zt_172 : zrt 172 = (some (.boolean)) := by decide +kernel
theorem zk_172 : zkd 172 = 0 ∧ znp 172 = 1 := by decide +kernel
theorem zr_172 (as : List zV) : zrk 172 as = 0 := by unfold zrk; rw [if_neg (by decide)]; decide +kernel
def lX_isSeed (x0 : Int) (M : Nat → Nat → Int) : Option Int :=
    (if x0 < 0 then
    (some (0 : Int))
    else
    (if (2000000000 : Int) < x0 then
    (some (0 : Int))
    else
    (some (1 : Int))))
set_option maxRecDepth 100000 in
theorem ok_lX_isSeed {sc : zSc} {x0 : Int} {M : Nat → Nat → Int} {P : Int → (Nat → Nat → Int) → Prop} (h : zS (lX_isSeed x0 M) (fun x => P x M)) : zCi sc 172 [.inl x0] M P := by
  have ea : zarg (zml 172) [.inl x0] = [some (.inl x0)] := by rw [zm_172]; rfl
  unfold zCi zCw
  rw [ea, zr_172]
  have hq : 0 ≤ 0 := Nat.le_refl _
  unfold lX_isSeed at h
  have h := zS_mono h (fun x hx => (⟨x, rfl, hx⟩ : ∃ y, (some (.inl x) : Option zV) = some (.inl y) ∧ P y M))
  skip
  refine E_iload_n (pc := 0) (zDk zD_172_ok 0 rfl) rfl ?_
  refine E_if (pc := 1) (t := 15) (zDk zD_172_ok 1 rfl) rfl (fun hz => ?_) (fun hz => ?_)
  · have h := zS_t h (T_lt hz)
    refine E_iconst (pc := 15) (zDk zD_172_ok 7 rfl) (by decide +kernel) ?_
    have h := zS_some h
    exact E_ireturnZ (pc := 16) (zDk zD_172_ok 8 rfl) zt_172 (by decide) h
  · have h := zS_f h (Int.not_lt.mpr (F_lt hz))
    refine E_iload_n (pc := 4) (zDk zD_172_ok 2 rfl) rfl ?_
    refine E_ldc_w (pc := 5) (v := .inl (2000000000 : Int)) (zDk zD_172_ok 3 rfl) zc_172 (by decide +kernel) ?_
    refine E_icmp (pc := 8) (t := 15) (zDk zD_172_ok 4 rfl) rfl (fun hz => ?_) (fun hz => ?_)
    · have h := zS_t h (T_gt hz)
      refine E_iconst (pc := 15) (zDk zD_172_ok 7 rfl) (by decide +kernel) ?_
      have h := zS_some h
      exact E_ireturnZ (pc := 16) (zDk zD_172_ok 8 rfl) zt_172 (by decide) h
    · have h := zS_f h (Int.not_lt.mpr (F_gt hz))
      refine E_iconst (pc := 11) (zDk zD_172_ok 5 rfl) (by decide +kernel) ?_
      refine E_goto (pc := 12) (t := 16) (zDk zD_172_ok 6 rfl) rfl ?_
      have h := zS_some h
      exact E_ireturnZ (pc := 16) (zDk zD_172_ok 8 rfl) zt_172 (by decide) h
def zD_173 : List (Nat × Instr × Nat) := [(0, .iload_n (1), 1), (1, .i2l, 1), (2, .lstore_n (2), 1), (3, .iconst (0), 1), (4, .istore (4), 2), (6, .iconst (0), 1), (7, .istore (5), 2), (9, .iload (5), 2), (11, .aload_n (0), 1), (12, .getfield (19), 3), (15, .getfield (177), 3), (18, .if_icmp .ge (53), 3), (21, .ldc2_w (447), 3), (24, .lload_n (2), 1), (25, .lmul, 1), (26, .ldc2_w (449), 3), (29, .ladd, 1), (30, .ldc2_w (451), 3), (33, .lrem, 1), (34, .lstore_n (2), 1), (35, .lload_n (2), 1), (36, .ldc2_w (453), 3), (39, .ldiv, 1), (40, .ldc2_w (431), 3), (43, .lrem, 1), (44, .aload_n (0), 1), (45, .getfield (19), 3), (48, .getfield (335), 3), (51, .i2l, 1), (52, .lcmp, 1), (53, .ifCond .ge (12), 3), (56, .iload (4), 2), (58, .iconst (1), 1), (59, .iload (5), 2), (61, .ishl, 1), (62, .ior, 1), (63, .istore (4), 2), (65, .iinc (5) (1), 3), (68, .goto (-59), 3), (71, .iload (4), 2), (73, .ireturn, 1)]
set_option maxRecDepth 100000 in
theorem zD_173_ok : zDo 173 zD_173 = true := by decide +kernel
theorem zc_173 : zcls 173 = 7 := by decide +kernel
theorem zm_173 : zml 173 = 6 := by decide +kernel
theorem zt_173 : zrt 173 = (some (.int)) := by decide +kernel
theorem zk_173 : zkd 173 = 1 ∧ znp 173 + 1 = 2 := by decide +kernel
theorem zr_173 (as : List zV) : zrk 173 as = 0 := by unfold zrk; rw [if_neg (by decide)]; decide +kernel
def lX_rainDrawn_c9 (x1 : Int) (M : Nat → Nat → Int) : Nat → Int → Int → Int → Option Int
  | 0, _, _, _ => none
  | n + 1, y2, y4, y5 =>
    (if y5 < (M 3 1) then
    (if (zremL (zdivL (zremL (w64 ((w64 ((1103515245 : Int) * y2)) + (12345 : Int))) (2147483648 : Int)) (65536 : Int)) (10 : Int)) < (M 3 3) then
    ((lX_rainDrawn_c9 x1 M n) (zremL (w64 ((w64 ((1103515245 : Int) * y2)) + (12345 : Int))) (2147483648 : Int)) (zor y4 (zshl (1 : Int) y5)) (w32 (y5 + 1)))
    else
    ((lX_rainDrawn_c9 x1 M n) (zremL (w64 ((w64 ((1103515245 : Int) * y2)) + (12345 : Int))) (2147483648 : Int)) y4 (w32 (y5 + 1))))
    else
    (some y4))
set_option maxRecDepth 100000 in
theorem ok_lX_rainDrawn_c9 {sc : zSc} {q : Nat} {P : Option zV → (Nat → Nat → Int) → Prop} (hq : 0 ≤ q) (x1 : Int) (M : Nat → Nat → Int) : ∀ (n : Nat) (y2 : Int) (y4 : Int) (y5 : Int), zS (lX_rainDrawn_c9 x1 M n y2 y4 y5) (fun x => P (some (.inl x)) M) → zWp sc q 173 9 [some (.inr (.inr 0)), some (.inl x1), some (.inr (.inl y2)), none, some (.inl y4), some (.inl y5)] [] M P := by
  intro n
  induction n with
  | zero => intro y2 y4 y5 h; exact (zS_none h).elim
  | succ n ih =>
    intro y2 y4 y5 h
    rw [lX_rainDrawn_c9] at h
    refine E_iload (pc := 9) (zDk zD_173_ok 7 rfl) rfl ?_
    refine E_aload_n (pc := 11) (zDk zD_173_ok 8 rfl) rfl ?_
    refine E_getR (pc := 12) (ci := 7) (f := 1) (r := 3) (zDk zD_173_ok 9 rfl) zc_173 (by decide +kernel) (by decide) zis_7_0 (by decide +kernel) (by decide) ?_
    refine E_getI (pc := 15) (ci := 6) (f := 1) (zDk zD_173_ok 10 rfl) zc_173 (by decide +kernel) (by decide) zis_6_3 ?_
    refine E_icmp (pc := 18) (t := 71) (zDk zD_173_ok 11 rfl) rfl (fun hz => ?_) (fun hz => ?_)
    · have h := zS_f h (Int.not_lt.mpr (T_ge hz))
      refine E_iload (pc := 71) (zDk zD_173_ok 39 rfl) rfl ?_
      have h := zS_some h
      exact E_ireturn (pc := 73) (zDk zD_173_ok 40 rfl) zt_173 h
    · have h := zS_t h (F_ge hz)
      refine E_ldc2_w (pc := 21) (v := .inr (.inl (1103515245 : Int))) (zDk zD_173_ok 12 rfl) zc_173 (by decide +kernel) ?_
      refine E_lload_n (pc := 24) (zDk zD_173_ok 13 rfl) rfl ?_
      refine W_lmul (pc := 25) (zDk zD_173_ok 14 rfl) ?_
      refine E_ldc2_w (pc := 26) (v := .inr (.inl (12345 : Int))) (zDk zD_173_ok 15 rfl) zc_173 (by decide +kernel) ?_
      refine W_ladd (pc := 29) (zDk zD_173_ok 16 rfl) ?_
      refine E_ldc2_w (pc := 30) (v := .inr (.inl (2147483648 : Int))) (zDk zD_173_ok 17 rfl) zc_173 (by decide +kernel) ?_
      refine E_lrem (pc := 33) (zDk zD_173_ok 18 rfl) (by decide) ?_
      refine W_lstore_n (pc := 34) (L' := [some (.inr (.inr 0)), some (.inl x1), some (.inr (.inl (zremL (w64 ((w64 ((1103515245 : Int) * y2)) + (12345 : Int))) (2147483648 : Int)))), none, some (.inl y4), some (.inl y5)]) (zDk zD_173_ok 19 rfl) zm_173 (by decide) rfl ?_
      refine E_lload_n (pc := 35) (zDk zD_173_ok 20 rfl) rfl ?_
      refine E_ldc2_w (pc := 36) (v := .inr (.inl (65536 : Int))) (zDk zD_173_ok 21 rfl) zc_173 (by decide +kernel) ?_
      refine E_ldiv (pc := 39) (zDk zD_173_ok 22 rfl) (by decide) ?_
      refine E_ldc2_w (pc := 40) (v := .inr (.inl (10 : Int))) (zDk zD_173_ok 23 rfl) zc_173 (by decide +kernel) ?_
      refine E_lrem (pc := 43) (zDk zD_173_ok 24 rfl) (by decide) ?_
      refine E_aload_n (pc := 44) (zDk zD_173_ok 25 rfl) rfl ?_
      refine E_getR (pc := 45) (ci := 7) (f := 1) (r := 3) (zDk zD_173_ok 26 rfl) zc_173 (by decide +kernel) (by decide) zis_7_0 (by decide +kernel) (by decide) ?_
      refine E_getI (pc := 48) (ci := 6) (f := 3) (zDk zD_173_ok 27 rfl) zc_173 (by decide +kernel) (by decide) zis_6_3 ?_
      refine E_i2l (pc := 51) (zDk zD_173_ok 28 rfl) ?_
      refine W_lcmp (pc := 52) (zDk zD_173_ok 29 rfl) ?_
      refine E_if (pc := 53) (t := 65) (zDk zD_173_ok 30 rfl) rfl (fun hz => ?_) (fun hz => ?_)
      · have h := zS_f h (Int.not_lt.mpr (zlc_ge (T_ge hz)))
        refine W_iinc (pc := 65) (L' := [some (.inr (.inr 0)), some (.inl x1), some (.inr (.inl (zremL (w64 ((w64 ((1103515245 : Int) * y2)) + (12345 : Int))) (2147483648 : Int)))), none, some (.inl y4), some (.inl (w32 (y5 + 1)))]) (zDk zD_173_ok 37 rfl) rfl zm_173 (by decide) rfl ?_
        refine E_goto (pc := 68) (t := 9) (zDk zD_173_ok 38 rfl) rfl ?_
        exact (ih) (zremL (w64 ((w64 ((1103515245 : Int) * y2)) + (12345 : Int))) (2147483648 : Int)) y4 (w32 (y5 + 1)) h
      · have h := zS_t h (zlc_lt (F_ge hz))
        refine E_iload (pc := 56) (zDk zD_173_ok 31 rfl) rfl ?_
        refine E_iconst (pc := 58) (zDk zD_173_ok 32 rfl) (by decide +kernel) ?_
        refine E_iload (pc := 59) (zDk zD_173_ok 33 rfl) rfl ?_
        refine E_ishl (pc := 61) (zDk zD_173_ok 34 rfl) ?_
        refine E_ior (pc := 62) (zDk zD_173_ok 35 rfl) ?_
        refine W_istore (pc := 63) (L' := [some (.inr (.inr 0)), some (.inl x1), some (.inr (.inl (zremL (w64 ((w64 ((1103515245 : Int) * y2)) + (12345 : Int))) (2147483648 : Int)))), none, some (.inl (zor y4 (zshl (1 : Int) y5))), some (.inl y5)]) (zDk zD_173_ok 36 rfl) zm_173 (by decide) rfl ?_
        refine W_iinc (pc := 65) (L' := [some (.inr (.inr 0)), some (.inl x1), some (.inr (.inl (zremL (w64 ((w64 ((1103515245 : Int) * y2)) + (12345 : Int))) (2147483648 : Int)))), none, some (.inl (zor y4 (zshl (1 : Int) y5))), some (.inl (w32 (y5 + 1)))]) (zDk zD_173_ok 37 rfl) rfl zm_173 (by decide) rfl ?_
        refine E_goto (pc := 68) (t := 9) (zDk zD_173_ok 38 rfl) rfl ?_
        exact (ih) (zremL (w64 ((w64 ((1103515245 : Int) * y2)) + (12345 : Int))) (2147483648 : Int)) (zor y4 (zshl (1 : Int) y5)) (w32 (y5 + 1)) h
def lX_rainDrawn (x1 : Int) (M : Nat → Nat → Int) : Option Int :=
    (lX_rainDrawn_c9 x1 M zN x1 (0 : Int) (0 : Int))
set_option maxRecDepth 100000 in
theorem ok_lX_rainDrawn {sc : zSc} {x1 : Int} {M : Nat → Nat → Int} {P : Int → (Nat → Nat → Int) → Prop} (h : zS (lX_rainDrawn x1 M) (fun x => P x M)) : zCi sc 173 [.inr (.inr 0), .inl x1] M P := by
  have ea : zarg (zml 173) [.inr (.inr 0), .inl x1] = [some (.inr (.inr 0)), some (.inl x1), none, none, none, none] := by rw [zm_173]; rfl
  unfold zCi zCw
  rw [ea, zr_173]
  have hq : 0 ≤ 0 := Nat.le_refl _
  unfold lX_rainDrawn at h
  have h := zS_mono h (fun x hx => (⟨x, rfl, hx⟩ : ∃ y, (some (.inl x) : Option zV) = some (.inl y) ∧ P y M))
  skip
  refine E_iload_n (pc := 0) (zDk zD_173_ok 0 rfl) rfl ?_
  refine E_i2l (pc := 1) (zDk zD_173_ok 1 rfl) ?_
  refine W_lstore_n (pc := 2) (L' := [some (.inr (.inr 0)), some (.inl x1), some (.inr (.inl x1)), none, none, none]) (zDk zD_173_ok 2 rfl) zm_173 (by decide) rfl ?_
  refine E_iconst (pc := 3) (zDk zD_173_ok 3 rfl) (by decide +kernel) ?_
  refine W_istore (pc := 4) (L' := [some (.inr (.inr 0)), some (.inl x1), some (.inr (.inl x1)), none, some (.inl (0 : Int)), none]) (zDk zD_173_ok 4 rfl) zm_173 (by decide) rfl ?_
  refine E_iconst (pc := 6) (zDk zD_173_ok 5 rfl) (by decide +kernel) ?_
  refine W_istore (pc := 7) (L' := [some (.inr (.inr 0)), some (.inl x1), some (.inr (.inl x1)), none, some (.inl (0 : Int)), some (.inl (0 : Int))]) (zDk zD_173_ok 6 rfl) zm_173 (by decide) rfl ?_
  exact ok_lX_rainDrawn_c9 hq x1 M zN x1 (0 : Int) (0 : Int) h
def zD_176 : List (Nat × Instr × Nat) := [(0, .lload_n (0), 1), (1, .lload_n (2), 1), (2, .lcmp, 1), (3, .ifCond .lt (14), 3), (6, .lload_n (0), 1), (7, .lload (4), 2), (9, .lcmp, 1), (10, .ifCond .gt (7), 3), (13, .iconst (1), 1), (14, .goto (4), 3), (17, .iconst (0), 1), (18, .ireturn, 1)]
set_option maxRecDepth 100000 in
theorem zD_176_ok : zDo 176 zD_176 = true := by decide +kernel
theorem zc_176 : zcls 176 = 8 := by decide +kernel
theorem zm_176 : zml 176 = 6 := by decide +kernel
theorem zt_176 : zrt 176 = (some (.boolean)) := by decide +kernel
theorem zk_176 : zkd 176 = 0 ∧ znp 176 = 3 := by decide +kernel
theorem zr_176 (as : List zV) : zrk 176 as = 0 := by unfold zrk; rw [if_neg (by decide)]; decide +kernel
def lm_in (x0 : Int) (x2 : Int) (x4 : Int) (M : Nat → Nat → Int) : Option Int :=
    (if x0 < x2 then
    (some (0 : Int))
    else
    (if x4 < x0 then
    (some (0 : Int))
    else
    (some (1 : Int))))
set_option maxRecDepth 100000 in
theorem ok_lm_in {sc : zSc} {x0 : Int} {x2 : Int} {x4 : Int} {M : Nat → Nat → Int} {P : Int → (Nat → Nat → Int) → Prop} (h : zS (lm_in x0 x2 x4 M) (fun x => P x M)) : zCi sc 176 [.inr (.inl x0), .inr (.inl x2), .inr (.inl x4)] M P := by
  have ea : zarg (zml 176) [.inr (.inl x0), .inr (.inl x2), .inr (.inl x4)] = [some (.inr (.inl x0)), none, some (.inr (.inl x2)), none, some (.inr (.inl x4)), none] := by rw [zm_176]; rfl
  unfold zCi zCw
  rw [ea, zr_176]
  have hq : 0 ≤ 0 := Nat.le_refl _
  unfold lm_in at h
  have h := zS_mono h (fun x hx => (⟨x, rfl, hx⟩ : ∃ y, (some (.inl x) : Option zV) = some (.inl y) ∧ P y M))
  skip
  refine E_lload_n (pc := 0) (zDk zD_176_ok 0 rfl) rfl ?_
  refine E_lload_n (pc := 1) (zDk zD_176_ok 1 rfl) rfl ?_
  refine W_lcmp (pc := 2) (zDk zD_176_ok 2 rfl) ?_
  refine E_if (pc := 3) (t := 17) (zDk zD_176_ok 3 rfl) rfl (fun hz => ?_) (fun hz => ?_)
  · have h := zS_t h (zlc_lt (T_lt hz))
    refine E_iconst (pc := 17) (zDk zD_176_ok 10 rfl) (by decide +kernel) ?_
    have h := zS_some h
    exact E_ireturnZ (pc := 18) (zDk zD_176_ok 11 rfl) zt_176 (by decide) h
  · have h := zS_f h (Int.not_lt.mpr (zlc_ge (F_lt hz)))
    refine E_lload_n (pc := 6) (zDk zD_176_ok 4 rfl) rfl ?_
    refine E_lload (pc := 7) (zDk zD_176_ok 5 rfl) rfl ?_
    refine W_lcmp (pc := 9) (zDk zD_176_ok 6 rfl) ?_
    refine E_if (pc := 10) (t := 17) (zDk zD_176_ok 7 rfl) rfl (fun hz => ?_) (fun hz => ?_)
    · have h := zS_t h (zlc_gt (T_gt hz))
      refine E_iconst (pc := 17) (zDk zD_176_ok 10 rfl) (by decide +kernel) ?_
      have h := zS_some h
      exact E_ireturnZ (pc := 18) (zDk zD_176_ok 11 rfl) zt_176 (by decide) h
    · have h := zS_f h (Int.not_lt.mpr (zlc_le (F_gt hz)))
      refine E_iconst (pc := 13) (zDk zD_176_ok 8 rfl) (by decide +kernel) ?_
      refine E_goto (pc := 14) (t := 18) (zDk zD_176_ok 9 rfl) rfl ?_
      have h := zS_some h
      exact E_ireturnZ (pc := 18) (zDk zD_176_ok 11 rfl) zt_176 (by decide) h
def zD_177 : List (Nat × Instr × Nat) := [(0, .iconst (0), 1), (1, .istore_n (1), 1), (2, .iconst (0), 1), (3, .istore_n (2), 1), (4, .iload_n (2), 1), (5, .bipush (20), 2), (7, .if_icmp .ge (17), 3), (10, .iload_n (1), 1), (11, .iload_n (0), 1), (12, .iload_n (2), 1), (13, .ishr, 1), (14, .iconst (1), 1), (15, .iand, 1), (16, .iadd, 1), (17, .istore_n (1), 1), (18, .iinc (2) (1), 3), (21, .goto (-17), 3), (24, .iload_n (1), 1), (25, .ireturn, 1)]
set_option maxRecDepth 100000 in
theorem zD_177_ok : zDo 177 zD_177 = true := by decide +kernel
theorem zc_177 : zcls 177 = 8 := by decide +kernel
theorem zm_177 : zml 177 = 3 := by decide +kernel
theorem zt_177 : zrt 177 = (some (.int)) := by decide +kernel
theorem zk_177 : zkd 177 = 0 ∧ znp 177 = 1 := by decide +kernel
theorem zr_177 (as : List zV) : zrk 177 as = 0 := by unfold zrk; rw [if_neg (by decide)]; decide +kernel
def lm_bits_c4 (x0 : Int) (M : Nat → Nat → Int) : Nat → Int → Int → Option Int
  | 0, _, _ => none
  | n + 1, y1, y2 =>
    (if y2 < (20 : Int) then
    ((lm_bits_c4 x0 M n) (w32 (y1 + (zand (zshr x0 y2) (1 : Int)))) (w32 (y2 + 1)))
    else
    (some y1))
set_option maxRecDepth 100000 in
theorem ok_lm_bits_c4 {sc : zSc} {q : Nat} {P : Option zV → (Nat → Nat → Int) → Prop} (hq : 0 ≤ q) (x0 : Int) (M : Nat → Nat → Int) : ∀ (n : Nat) (y1 : Int) (y2 : Int), zS (lm_bits_c4 x0 M n y1 y2) (fun x => P (some (.inl x)) M) → zWp sc q 177 4 [some (.inl x0), some (.inl y1), some (.inl y2)] [] M P := by
  intro n
  induction n with
  | zero => intro y1 y2 h; exact (zS_none h).elim
  | succ n ih =>
    intro y1 y2 h
    rw [lm_bits_c4] at h
    refine E_iload_n (pc := 4) (zDk zD_177_ok 4 rfl) rfl ?_
    refine E_bipush (pc := 5) (zDk zD_177_ok 5 rfl) (by decide +kernel) ?_
    refine E_icmp (pc := 7) (t := 24) (zDk zD_177_ok 6 rfl) rfl (fun hz => ?_) (fun hz => ?_)
    · have h := zS_f h (Int.not_lt.mpr (T_ge hz))
      refine E_iload_n (pc := 24) (zDk zD_177_ok 17 rfl) rfl ?_
      have h := zS_some h
      exact E_ireturn (pc := 25) (zDk zD_177_ok 18 rfl) zt_177 h
    · have h := zS_t h (F_ge hz)
      refine E_iload_n (pc := 10) (zDk zD_177_ok 7 rfl) rfl ?_
      refine E_iload_n (pc := 11) (zDk zD_177_ok 8 rfl) rfl ?_
      refine E_iload_n (pc := 12) (zDk zD_177_ok 9 rfl) rfl ?_
      refine E_ishr (pc := 13) (zDk zD_177_ok 10 rfl) ?_
      refine E_iconst (pc := 14) (zDk zD_177_ok 11 rfl) (by decide +kernel) ?_
      refine E_iand (pc := 15) (zDk zD_177_ok 12 rfl) ?_
      refine W_iadd (pc := 16) (zDk zD_177_ok 13 rfl) ?_
      refine W_istore_n (pc := 17) (L' := [some (.inl x0), some (.inl (w32 (y1 + (zand (zshr x0 y2) (1 : Int))))), some (.inl y2)]) (zDk zD_177_ok 14 rfl) zm_177 (by decide) rfl ?_
      refine W_iinc (pc := 18) (L' := [some (.inl x0), some (.inl (w32 (y1 + (zand (zshr x0 y2) (1 : Int))))), some (.inl (w32 (y2 + 1)))]) (zDk zD_177_ok 15 rfl) rfl zm_177 (by decide) rfl ?_
      refine E_goto (pc := 21) (t := 4) (zDk zD_177_ok 16 rfl) rfl ?_
      exact (ih) (w32 (y1 + (zand (zshr x0 y2) (1 : Int)))) (w32 (y2 + 1)) h
def lm_bits (x0 : Int) (M : Nat → Nat → Int) : Option Int :=
    (lm_bits_c4 x0 M zN (0 : Int) (0 : Int))
set_option maxRecDepth 100000 in
theorem ok_lm_bits {sc : zSc} {x0 : Int} {M : Nat → Nat → Int} {P : Int → (Nat → Nat → Int) → Prop} (h : zS (lm_bits x0 M) (fun x => P x M)) : zCi sc 177 [.inl x0] M P := by
  have ea : zarg (zml 177) [.inl x0] = [some (.inl x0), none, none] := by rw [zm_177]; rfl
  unfold zCi zCw
  rw [ea, zr_177]
  have hq : 0 ≤ 0 := Nat.le_refl _
  unfold lm_bits at h
  have h := zS_mono h (fun x hx => (⟨x, rfl, hx⟩ : ∃ y, (some (.inl x) : Option zV) = some (.inl y) ∧ P y M))
  skip
  refine E_iconst (pc := 0) (zDk zD_177_ok 0 rfl) (by decide +kernel) ?_
  refine W_istore_n (pc := 1) (L' := [some (.inl x0), some (.inl (0 : Int)), none]) (zDk zD_177_ok 1 rfl) zm_177 (by decide) rfl ?_
  refine E_iconst (pc := 2) (zDk zD_177_ok 2 rfl) (by decide +kernel) ?_
  refine W_istore_n (pc := 3) (L' := [some (.inl x0), some (.inl (0 : Int)), some (.inl (0 : Int))]) (zDk zD_177_ok 3 rfl) zm_177 (by decide) rfl ?_
  exact ok_lm_bits_c4 hq x0 M zN (0 : Int) (0 : Int) h
def zD_178 : List (Nat × Instr × Nat) := [(0, .iload_n (0), 1), (1, .iload_n (1), 1), (2, .ishr, 1), (3, .iconst (1), 1), (4, .iand, 1), (5, .ireturn, 1)]
set_option maxRecDepth 100000 in
theorem zD_178_ok : zDo 178 zD_178 = true := by decide +kernel
theorem zc_178 : zcls 178 = 8 := by decide +kernel
theorem zm_178 : zml 178 = 2 := by decide +kernel
theorem zt_178 : zrt 178 = (some (.int)) := by decide +kernel
theorem zk_178 : zkd 178 = 0 ∧ znp 178 = 2 := by decide +kernel
theorem zr_178 (as : List zV) : zrk 178 as = 0 := by unfold zrk; rw [if_neg (by decide)]; decide +kernel
def lm_bit (x0 : Int) (x1 : Int) (M : Nat → Nat → Int) : Option Int :=
    (some (zand (zshr x0 x1) (1 : Int)))
set_option maxRecDepth 100000 in
theorem ok_lm_bit {sc : zSc} {x0 : Int} {x1 : Int} {M : Nat → Nat → Int} {P : Int → (Nat → Nat → Int) → Prop} (h : zS (lm_bit x0 x1 M) (fun x => P x M)) : zCi sc 178 [.inl x0, .inl x1] M P := by
  have ea : zarg (zml 178) [.inl x0, .inl x1] = [some (.inl x0), some (.inl x1)] := by rw [zm_178]; rfl
  unfold zCi zCw
  rw [ea, zr_178]
  have hq : 0 ≤ 0 := Nat.le_refl _
  unfold lm_bit at h
  have h := zS_mono h (fun x hx => (⟨x, rfl, hx⟩ : ∃ y, (some (.inl x) : Option zV) = some (.inl y) ∧ P y M))
  skip
  refine E_iload_n (pc := 0) (zDk zD_178_ok 0 rfl) rfl ?_
  refine E_iload_n (pc := 1) (zDk zD_178_ok 1 rfl) rfl ?_
  refine E_ishr (pc := 2) (zDk zD_178_ok 2 rfl) ?_
  refine E_iconst (pc := 3) (zDk zD_178_ok 3 rfl) (by decide +kernel) ?_
  refine E_iand (pc := 4) (zDk zD_178_ok 4 rfl) ?_
  have h := zS_some h
  exact E_ireturn (pc := 5) (zDk zD_178_ok 5 rfl) zt_178 h
def zD_181 : List (Nat × Instr × Nat) := [(0, .aload_n (0), 1), (1, .getfield (9), 3), (4, .bipush (9), 2), (6, .iaload, 1), (7, .ifCond .le (7), 3), (10, .iconst (1), 1), (11, .goto (4), 3), (14, .iconst (0), 1), (15, .ireturn, 1)]
set_option maxRecDepth 100000 in
theorem zD_181_ok : zDo 181 zD_181 = true := by decide +kernel
theorem zc_181 : zcls 181 = 8 := by decide +kernel
theorem zm_181 : zml 181 = 1 := by decide +kernel
theorem zt_181 : zrt 181 = (some (.boolean)) := by decide +kernel
theorem zk_181 : zkd 181 = 1 ∧ znp 181 + 1 = 1 := by decide +kernel
theorem zr_181 (as : List zV) : zrk 181 as = 0 := by unfold zrk; rw [if_neg (by decide)]; decide +kernel
def lm_isState (M : Nat → Nat → Int) : Option Int :=
    ((rdI 107 (9 : Int) M).bind (fun v6 =>
    (if 0 < v6 then
    (some (1 : Int))
    else
    (some (0 : Int)))))
set_option maxRecDepth 100000 in
theorem ok_lm_isState {sc : zSc} {M : Nat → Nat → Int} {P : Int → (Nat → Nat → Int) → Prop} (h : zS (lm_isState M) (fun x => P x M)) : zCi sc 181 [.inr (.inr 106)] M P := by
  have ea : zarg (zml 181) [.inr (.inr 106)] = [some (.inr (.inr 106))] := by rw [zm_181]; rfl
  unfold zCi zCw
  rw [ea, zr_181]
  have hq : 0 ≤ 0 := Nat.le_refl _
  unfold lm_isState at h
  have h := zS_mono h (fun x hx => (⟨x, rfl, hx⟩ : ∃ y, (some (.inl x) : Option zV) = some (.inl y) ∧ P y M))
  skip
  refine E_aload_n (pc := 0) (zDk zD_181_ok 0 rfl) rfl ?_
  refine E_getR (pc := 1) (ci := 8) (f := 1) (r := 107) (zDk zD_181_ok 1 rfl) zc_181 (by decide +kernel) (by decide) zis_8_106 (by decide +kernel) (by decide) ?_
  refine E_bipush (pc := 4) (zDk zD_181_ok 2 rfl) (by decide +kernel) ?_
  obtain ⟨v6, e6, h⟩ := zS_bind h
  refine E_iaload (pc := 6) (zDk zD_181_ok 3 rfl) e6 ?_
  refine E_if (pc := 7) (t := 14) (zDk zD_181_ok 4 rfl) rfl (fun hz => ?_) (fun hz => ?_)
  · have h := zS_f h (Int.not_lt.mpr (T_le hz))
    refine E_iconst (pc := 14) (zDk zD_181_ok 7 rfl) (by decide +kernel) ?_
    have h := zS_some h
    exact E_ireturnZ (pc := 15) (zDk zD_181_ok 8 rfl) zt_181 (by decide) h
  · have h := zS_t h (F_le hz)
    refine E_iconst (pc := 10) (zDk zD_181_ok 5 rfl) (by decide +kernel) ?_
    refine E_goto (pc := 11) (t := 15) (zDk zD_181_ok 6 rfl) rfl ?_
    have h := zS_some h
    exact E_ireturnZ (pc := 15) (zDk zD_181_ok 8 rfl) zt_181 (by decide) h
def zD_182 : List (Nat × Instr × Nat) := [(0, .aload_n (0), 1), (1, .getfield (9), 3), (4, .iconst (1), 1), (5, .iaload, 1), (6, .ireturn, 1)]
set_option maxRecDepth 100000 in
theorem zD_182_ok : zDo 182 zD_182 = true := by decide +kernel
theorem zc_182 : zcls 182 = 8 := by decide +kernel
theorem zm_182 : zml 182 = 1 := by decide +kernel
theorem zt_182 : zrt 182 = (some (.int)) := by decide +kernel
theorem zk_182 : zkd 182 = 1 ∧ znp 182 + 1 = 1 := by decide +kernel
theorem zr_182 (as : List zV) : zrk 182 as = 0 := by unfold zrk; rw [if_neg (by decide)]; decide +kernel
def lm_last (M : Nat → Nat → Int) : Option Int :=
    ((rdI 107 (1 : Int) M).bind (fun v5 =>
    (some v5)))
set_option maxRecDepth 100000 in
theorem ok_lm_last {sc : zSc} {M : Nat → Nat → Int} {P : Int → (Nat → Nat → Int) → Prop} (h : zS (lm_last M) (fun x => P x M)) : zCi sc 182 [.inr (.inr 106)] M P := by
  have ea : zarg (zml 182) [.inr (.inr 106)] = [some (.inr (.inr 106))] := by rw [zm_182]; rfl
  unfold zCi zCw
  rw [ea, zr_182]
  have hq : 0 ≤ 0 := Nat.le_refl _
  unfold lm_last at h
  have h := zS_mono h (fun x hx => (⟨x, rfl, hx⟩ : ∃ y, (some (.inl x) : Option zV) = some (.inl y) ∧ P y M))
  skip
  refine E_aload_n (pc := 0) (zDk zD_182_ok 0 rfl) rfl ?_
  refine E_getR (pc := 1) (ci := 8) (f := 1) (r := 107) (zDk zD_182_ok 1 rfl) zc_182 (by decide +kernel) (by decide) zis_8_106 (by decide +kernel) (by decide) ?_
  refine E_iconst (pc := 4) (zDk zD_182_ok 2 rfl) (by decide +kernel) ?_
  obtain ⟨v5, e5, h⟩ := zS_bind h
  refine E_iaload (pc := 5) (zDk zD_182_ok 3 rfl) e5 ?_
  have h := zS_some h
  exact E_ireturn (pc := 6) (zDk zD_182_ok 4 rfl) zt_182 h
