/-! Lifted methods 2 (written by wip/whole/lift.py): decode rows, functions, proofs. -/
def zD_39 : List (Nat × Instr × Nat) := [(0, .iconst (1), 1), (1, .iload_n (1), 1), (2, .ishl, 1), (3, .istore_n (3), 1), (4, .iconst (0), 1), (5, .istore (4), 2), (7, .iload (4), 2), (9, .iload_n (2), 1), (10, .if_icmp .ge (27), 3), (13, .aload_n (0), 1), (14, .iload_n (3), 1), (15, .invokevirtual (33), 3), (18, .istore (5), 2), (20, .iload (5), 2), (22, .iload_n (3), 1), (23, .if_icmp .ne (5), 3), (26, .iload_n (3), 1), (27, .ireturn, 1), (28, .iload (5), 2), (30, .istore_n (3), 1), (31, .iinc (4) (1), 3), (34, .goto (-27), 3), (37, .iload_n (3), 1), (38, .ireturn, 1)]
set_option maxRecDepth 100000 in
theorem zD_39_ok : zDo 39 zD_39 = true := by decide +kernel
theorem zc_39 : zcls 39 = 3 := by decide +kernel
theorem zm_39 : zml 39 = 6 := by decide +kernel
theorem zt_39 : zrt 39 = (some (.int)) := by decide +kernel
theorem zk_39 : zkd 39 = 1 ∧ znp 39 + 1 = 3 := by decide +kernel
theorem zr_39 (as : List zV) : zrk 39 as = 1 := by unfold zrk; rw [if_neg (by decide)]; decide +kernel
def lN_within_c7 (r0 : Nat) (x1 : Int) (x2 : Int) (M : Nat → Nat → Int) : Nat → Int → Int → Option Int
  | 0, _, _ => none
  | n + 1, y3, y4 =>
    (if y4 < x2 then
    ((lN_spread r0 y3 M).bind (fun v15 =>
    (if v15 = y3 then
    (some y3)
    else
    ((lN_within_c7 r0 x1 x2 M n) v15 (w32 (y4 + 1))))))
    else
    (some y3))
set_option maxRecDepth 100000 in
theorem ok_lN_within_c7 {sc : zSc} {q : Nat} {P : Option zV → (Nat → Nat → Int) → Prop} (hq : 1 ≤ q) (r0 : Nat) (x1 : Int) (x2 : Int) (hr0 : zis 3 r0 = true) (M : Nat → Nat → Int) : ∀ (n : Nat) (y3 : Int) (y4 : Int) (d5 : Option zV), zS (lN_within_c7 r0 x1 x2 M n y3 y4) (fun x => P (some (.inl x)) M) → zWp sc q 39 7 [some (.inr (.inr r0)), some (.inl x1), some (.inl x2), some (.inl y3), some (.inl y4), d5] [] M P := by
  intro n
  induction n with
  | zero => intro y3 y4 d5 h; exact (zS_none h).elim
  | succ n ih =>
    intro y3 y4 d5 h
    rw [lN_within_c7] at h
    refine E_iload (pc := 7) (zDk zD_39_ok 6 rfl) rfl ?_
    refine E_iload_n (pc := 9) (zDk zD_39_ok 7 rfl) rfl ?_
    refine E_icmp (pc := 10) (t := 37) (zDk zD_39_ok 8 rfl) rfl (fun hz => ?_) (fun hz => ?_)
    · have h := zS_f h (Int.not_lt.mpr (T_ge hz))
      refine E_iload_n (pc := 37) (zDk zD_39_ok 22 rfl) rfl ?_
      have h := zS_some h
      exact E_ireturn (pc := 38) (zDk zD_39_ok 23 rfl) zt_39 h
    · have h := zS_t h (F_ge hz)
      refine E_aload_n (pc := 13) (zDk zD_39_ok 9 rfl) rfl ?_
      refine E_iload_n (pc := 14) (zDk zD_39_ok 10 rfl) rfl ?_
      obtain ⟨v15, e15, h⟩ := zS_bind h
      refine E_virI (pc := 15) (c := 38) (r := r0) (as := [.inl y3]) (rest := []) (zDk zD_39_ok 11 rfl) zc_39 (by decide +kernel) zk_38 ⟨(Nat.le_of_ble_eq_true rfl), rfl, rfl⟩ (Nat.le_of_ble_eq_true rfl) (zr_38 _) (Nat.lt_of_lt_of_le (by decide) hq) (by rw [zm_38]; exact (Nat.le_of_ble_eq_true rfl)) ⟨zc_38, by decide⟩ hr0 (ok_lN_spread ⟨v15, e15, ?_⟩)
      refine W_istore (pc := 18) (L' := [some (.inr (.inr r0)), some (.inl x1), some (.inl x2), some (.inl y3), some (.inl y4), some (.inl v15)]) (zDk zD_39_ok 12 rfl) zm_39 (by decide) rfl ?_
      refine E_iload (pc := 20) (zDk zD_39_ok 13 rfl) rfl ?_
      refine E_iload_n (pc := 22) (zDk zD_39_ok 14 rfl) rfl ?_
      refine E_icmp (pc := 23) (t := 28) (zDk zD_39_ok 15 rfl) rfl (fun hz => ?_) (fun hz => ?_)
      · have h := zS_f h (T_ne hz)
        refine E_iload (pc := 28) (zDk zD_39_ok 18 rfl) rfl ?_
        refine W_istore_n (pc := 30) (L' := [some (.inr (.inr r0)), some (.inl x1), some (.inl x2), some (.inl v15), some (.inl y4), some (.inl v15)]) (zDk zD_39_ok 19 rfl) zm_39 (by decide) rfl ?_
        refine W_iinc (pc := 31) (L' := [some (.inr (.inr r0)), some (.inl x1), some (.inl x2), some (.inl v15), some (.inl (w32 (y4 + 1))), some (.inl v15)]) (zDk zD_39_ok 20 rfl) rfl zm_39 (by decide) rfl ?_
        refine E_goto (pc := 34) (t := 7) (zDk zD_39_ok 21 rfl) rfl ?_
        exact (ih) v15 (w32 (y4 + 1)) (some (.inl v15)) h
      · have h := zS_t h (F_ne hz)
        refine E_iload_n (pc := 26) (zDk zD_39_ok 16 rfl) rfl ?_
        have h := zS_some h
        exact E_ireturn (pc := 27) (zDk zD_39_ok 17 rfl) zt_39 h
def lN_within (r0 : Nat) (x1 : Int) (x2 : Int) (M : Nat → Nat → Int) : Option Int :=
    (if zis 3 r0 = true then
    (lN_within_c7 r0 x1 x2 M zN (zshl (1 : Int) x1) (0 : Int))
    else none)
set_option maxRecDepth 100000 in
theorem ok_lN_within {sc : zSc} {r0 : Nat} {x1 : Int} {x2 : Int} {M : Nat → Nat → Int} {P : Int → (Nat → Nat → Int) → Prop} (h : zS (lN_within r0 x1 x2 M) (fun x => P x M)) : zCi sc 39 [.inr (.inr r0), .inl x1, .inl x2] M P := by
  have ea : zarg (zml 39) [.inr (.inr r0), .inl x1, .inl x2] = [some (.inr (.inr r0)), some (.inl x1), some (.inl x2), none, none, none] := by rw [zm_39]; rfl
  unfold zCi zCw
  rw [ea, zr_39]
  have hq : 1 ≤ 1 := Nat.le_refl _
  unfold lN_within at h
  have h := zS_mono h (fun x hx => (⟨x, rfl, hx⟩ : ∃ y, (some (.inl x) : Option zV) = some (.inl y) ∧ P y M))
  obtain ⟨hr0, h⟩ := zS_c h
  skip
  refine E_iconst (pc := 0) (zDk zD_39_ok 0 rfl) (by decide +kernel) ?_
  refine E_iload_n (pc := 1) (zDk zD_39_ok 1 rfl) rfl ?_
  refine E_ishl (pc := 2) (zDk zD_39_ok 2 rfl) ?_
  refine W_istore_n (pc := 3) (L' := [some (.inr (.inr r0)), some (.inl x1), some (.inl x2), some (.inl (zshl (1 : Int) x1)), none, none]) (zDk zD_39_ok 3 rfl) zm_39 (by decide) rfl ?_
  refine E_iconst (pc := 4) (zDk zD_39_ok 4 rfl) (by decide +kernel) ?_
  refine W_istore (pc := 5) (L' := [some (.inr (.inr r0)), some (.inl x1), some (.inl x2), some (.inl (zshl (1 : Int) x1)), some (.inl (0 : Int)), none]) (zDk zD_39_ok 5 rfl) zm_39 (by decide) rfl ?_
  exact ok_lN_within_c7 hq r0 x1 x2 hr0 M zN (zshl (1 : Int) x1) (0 : Int) none h
def zD_40 : List (Nat × Instr × Nat) := [(0, .iconst (1), 1), (1, .iload_n (1), 1), (2, .ishl, 1), (3, .istore_n (3), 1), (4, .iconst (0), 1), (5, .istore (4), 2), (7, .iload (4), 2), (9, .bipush (8), 2), (11, .if_icmp .ge (26), 3), (14, .iload_n (3), 1), (15, .iload_n (2), 1), (16, .ishr, 1), (17, .iconst (1), 1), (18, .iand, 1), (19, .ifCond .eq (6), 3), (22, .iload (4), 2), (24, .ireturn, 1), (25, .aload_n (0), 1), (26, .iload_n (3), 1), (27, .invokevirtual (33), 3), (30, .istore_n (3), 1), (31, .iinc (4) (1), 3), (34, .goto (-27), 3), (37, .iconst (-1), 1), (38, .ireturn, 1)]
set_option maxRecDepth 100000 in
theorem zD_40_ok : zDo 40 zD_40 = true := by decide +kernel
theorem zc_40 : zcls 40 = 3 := by decide +kernel
theorem zm_40 : zml 40 = 5 := by decide +kernel
theorem zt_40 : zrt 40 = (some (.int)) := by decide +kernel
theorem zk_40 : zkd 40 = 1 ∧ znp 40 + 1 = 3 := by decide +kernel
theorem zr_40 (as : List zV) : zrk 40 as = 1 := by unfold zrk; rw [if_neg (by decide)]; decide +kernel
def lN_distance_c7 (r0 : Nat) (x1 : Int) (x2 : Int) (M : Nat → Nat → Int) : Nat → Int → Int → Option Int
  | 0, _, _ => none
  | n + 1, y3, y4 =>
    (if y4 < (8 : Int) then
    (if (zand (zshr y3 x2) (1 : Int)) = 0 then
    ((lN_spread r0 y3 M).bind (fun v27 =>
    ((lN_distance_c7 r0 x1 x2 M n) v27 (w32 (y4 + 1)))))
    else
    (some y4))
    else
    (some (-1 : Int)))
set_option maxRecDepth 100000 in
theorem ok_lN_distance_c7 {sc : zSc} {q : Nat} {P : Option zV → (Nat → Nat → Int) → Prop} (hq : 1 ≤ q) (r0 : Nat) (x1 : Int) (x2 : Int) (hr0 : zis 3 r0 = true) (M : Nat → Nat → Int) : ∀ (n : Nat) (y3 : Int) (y4 : Int), zS (lN_distance_c7 r0 x1 x2 M n y3 y4) (fun x => P (some (.inl x)) M) → zWp sc q 40 7 [some (.inr (.inr r0)), some (.inl x1), some (.inl x2), some (.inl y3), some (.inl y4)] [] M P := by
  intro n
  induction n with
  | zero => intro y3 y4 h; exact (zS_none h).elim
  | succ n ih =>
    intro y3 y4 h
    rw [lN_distance_c7] at h
    refine E_iload (pc := 7) (zDk zD_40_ok 6 rfl) rfl ?_
    refine E_bipush (pc := 9) (zDk zD_40_ok 7 rfl) (by decide +kernel) ?_
    refine E_icmp (pc := 11) (t := 37) (zDk zD_40_ok 8 rfl) rfl (fun hz => ?_) (fun hz => ?_)
    · have h := zS_f h (Int.not_lt.mpr (T_ge hz))
      refine E_iconst (pc := 37) (zDk zD_40_ok 23 rfl) (by decide +kernel) ?_
      have h := zS_some h
      exact E_ireturn (pc := 38) (zDk zD_40_ok 24 rfl) zt_40 h
    · have h := zS_t h (F_ge hz)
      refine E_iload_n (pc := 14) (zDk zD_40_ok 9 rfl) rfl ?_
      refine E_iload_n (pc := 15) (zDk zD_40_ok 10 rfl) rfl ?_
      refine E_ishr (pc := 16) (zDk zD_40_ok 11 rfl) ?_
      refine E_iconst (pc := 17) (zDk zD_40_ok 12 rfl) (by decide +kernel) ?_
      refine E_iand (pc := 18) (zDk zD_40_ok 13 rfl) ?_
      refine E_if (pc := 19) (t := 25) (zDk zD_40_ok 14 rfl) rfl (fun hz => ?_) (fun hz => ?_)
      · have h := zS_t h (T_eq hz)
        refine E_aload_n (pc := 25) (zDk zD_40_ok 17 rfl) rfl ?_
        refine E_iload_n (pc := 26) (zDk zD_40_ok 18 rfl) rfl ?_
        obtain ⟨v27, e27, h⟩ := zS_bind h
        refine E_virI (pc := 27) (c := 38) (r := r0) (as := [.inl y3]) (rest := []) (zDk zD_40_ok 19 rfl) zc_40 (by decide +kernel) zk_38 ⟨(Nat.le_of_ble_eq_true rfl), rfl, rfl⟩ (Nat.le_of_ble_eq_true rfl) (zr_38 _) (Nat.lt_of_lt_of_le (by decide) hq) (by rw [zm_38]; exact (Nat.le_of_ble_eq_true rfl)) ⟨zc_38, by decide⟩ hr0 (ok_lN_spread ⟨v27, e27, ?_⟩)
        refine W_istore_n (pc := 30) (L' := [some (.inr (.inr r0)), some (.inl x1), some (.inl x2), some (.inl v27), some (.inl y4)]) (zDk zD_40_ok 20 rfl) zm_40 (by decide) rfl ?_
        refine W_iinc (pc := 31) (L' := [some (.inr (.inr r0)), some (.inl x1), some (.inl x2), some (.inl v27), some (.inl (w32 (y4 + 1)))]) (zDk zD_40_ok 21 rfl) rfl zm_40 (by decide) rfl ?_
        refine E_goto (pc := 34) (t := 7) (zDk zD_40_ok 22 rfl) rfl ?_
        exact (ih) v27 (w32 (y4 + 1)) h
      · have h := zS_f h (F_eq hz)
        refine E_iload (pc := 22) (zDk zD_40_ok 15 rfl) rfl ?_
        have h := zS_some h
        exact E_ireturn (pc := 24) (zDk zD_40_ok 16 rfl) zt_40 h
def lN_distance (r0 : Nat) (x1 : Int) (x2 : Int) (M : Nat → Nat → Int) : Option Int :=
    (if zis 3 r0 = true then
    (lN_distance_c7 r0 x1 x2 M zN (zshl (1 : Int) x1) (0 : Int))
    else none)
set_option maxRecDepth 100000 in
theorem ok_lN_distance {sc : zSc} {r0 : Nat} {x1 : Int} {x2 : Int} {M : Nat → Nat → Int} {P : Int → (Nat → Nat → Int) → Prop} (h : zS (lN_distance r0 x1 x2 M) (fun x => P x M)) : zCi sc 40 [.inr (.inr r0), .inl x1, .inl x2] M P := by
  have ea : zarg (zml 40) [.inr (.inr r0), .inl x1, .inl x2] = [some (.inr (.inr r0)), some (.inl x1), some (.inl x2), none, none] := by rw [zm_40]; rfl
  unfold zCi zCw
  rw [ea, zr_40]
  have hq : 1 ≤ 1 := Nat.le_refl _
  unfold lN_distance at h
  have h := zS_mono h (fun x hx => (⟨x, rfl, hx⟩ : ∃ y, (some (.inl x) : Option zV) = some (.inl y) ∧ P y M))
  obtain ⟨hr0, h⟩ := zS_c h
  skip
  refine E_iconst (pc := 0) (zDk zD_40_ok 0 rfl) (by decide +kernel) ?_
  refine E_iload_n (pc := 1) (zDk zD_40_ok 1 rfl) rfl ?_
  refine E_ishl (pc := 2) (zDk zD_40_ok 2 rfl) ?_
  refine W_istore_n (pc := 3) (L' := [some (.inr (.inr r0)), some (.inl x1), some (.inl x2), some (.inl (zshl (1 : Int) x1)), none]) (zDk zD_40_ok 3 rfl) zm_40 (by decide) rfl ?_
  refine E_iconst (pc := 4) (zDk zD_40_ok 4 rfl) (by decide +kernel) ?_
  refine W_istore (pc := 5) (L' := [some (.inr (.inr r0)), some (.inl x1), some (.inl x2), some (.inl (zshl (1 : Int) x1)), some (.inl (0 : Int))]) (zDk zD_40_ok 5 rfl) zm_40 (by decide) rfl ?_
  exact ok_lN_distance_c7 hq r0 x1 x2 hr0 M zN (zshl (1 : Int) x1) (0 : Int) h
def zD_56 : List (Nat × Instr × Nat) := [(0, .aload_n (0), 1), (1, .aload_n (0), 1), (2, .getfield (30), 3), (5, .putfield (159), 3), (8, .aload_n (0), 1), (9, .getfield (159), 3), (12, .aload_n (0), 1), (13, .getfield (19), 3), (16, .if_icmp .ge (44), 3), (19, .aload_n (0), 1), (20, .getfield (11), 3), (23, .aload_n (0), 1), (24, .getfield (159), 3), (27, .iaload, 1), (28, .bipush (32), 2), (30, .if_icmp .eq (17), 3), (33, .aload_n (0), 1), (34, .getfield (11), 3), (37, .aload_n (0), 1), (38, .getfield (159), 3), (41, .iaload, 1), (42, .bipush (10), 2), (44, .if_icmp .ne (16), 3), (47, .aload_n (0), 1), (48, .dup, 1), (49, .getfield (159), 3), (52, .iconst (1), 1), (53, .iadd, 1), (54, .putfield (159), 3), (57, .goto (-49), 3), (60, .aload_n (0), 1), (61, .aload_n (0), 1), (62, .getfield (159), 3), (65, .aload_n (0), 1), (66, .getfield (19), 3), (69, .if_icmp .ge (18), 3), (72, .aload_n (0), 1), (73, .getfield (11), 3), (76, .aload_n (0), 1), (77, .getfield (159), 3), (80, .iaload, 1), (81, .invokestatic (175), 3), (84, .goto (4), 3), (87, .iconst (0), 1), (88, .putfield (36), 3), (91, .aload_n (0), 1), (92, .aload_n (0), 1), (93, .getfield (159), 3), (96, .aload_n (0), 1), (97, .getfield (19), 3), (100, .if_icmp .ge (12), 3), (103, .aload_n (0), 1), (104, .getfield (159), 3), (107, .iconst (1), 1), (108, .iadd, 1), (109, .goto (7), 3), (112, .aload_n (0), 1), (113, .getfield (159), 3), (116, .putfield (30), 3), (119, .aload_n (0), 1), (120, .getfield (36), 3), (123, .iconst (1), 1), (124, .if_icmp .eq (11), 3), (127, .aload_n (0), 1), (128, .getfield (36), 3), (131, .iconst (2), 1), (132, .if_icmp .ne (46), 3), (135, .aload_n (0), 1), (136, .getfield (30), 3), (139, .aload_n (0), 1), (140, .getfield (19), 3), (143, .if_icmp .ge (35), 3), (146, .aload_n (0), 1), (147, .getfield (11), 3), (150, .aload_n (0), 1), (151, .getfield (30), 3), (154, .iaload, 1), (155, .invokestatic (175), 3), (158, .aload_n (0), 1), (159, .getfield (36), 3), (162, .if_icmp .ne (16), 3), (165, .aload_n (0), 1), (166, .dup, 1), (167, .getfield (30), 3), (170, .iconst (1), 1), (171, .iadd, 1), (172, .putfield (30), 3), (175, .goto (-40), 3), (178, .aload_n (0), 1), (179, .iconst (0), 1), (180, .putfield (162), 3), (183, .aload_n (0), 1), (184, .getfield (159), 3), (187, .istore_n (1), 1), (188, .iload_n (1), 1), (189, .aload_n (0), 1), (190, .getfield (30), 3), (193, .if_icmp .ge (43), 3), (196, .aload_n (0), 1), (197, .getfield (36), 3), (200, .iconst (2), 1), (201, .if_icmp .ne (35), 3), (204, .aload_n (0), 1), (205, .ldc (179), 2), (207, .aload_n (0), 1), (208, .getfield (162), 3), (211, .bipush (10), 2), (213, .imul, 1), (214, .aload_n (0), 1), (215, .getfield (11), 3), (218, .iload_n (1), 1), (219, .iaload, 1), (220, .iadd, 1), (221, .bipush (48), 2), (223, .isub, 1), (224, .invokestatic (180), 3), (227, .putfield (162), 3), (230, .iinc (1) (1), 3), (233, .goto (-45), 3), (236, .return_, 1)]
set_option maxRecDepth 100000 in
theorem zD_56_ok : zDo 56 zD_56 = true := by decide +kernel
theorem zc_56 : zcls 56 = 4 := by decide +kernel
theorem zm_56 : zml 56 = 2 := by decide +kernel
theorem zt_56 : zrt 56 = none := by decide +kernel
theorem zk_56 : zkd 56 = 1 ∧ znp 56 + 1 = 1 := by decide +kernel
theorem zr_56 (as : List zV) : zrk 56 as = 1 := by unfold zrk; rw [if_neg (by decide)]; decide +kernel
def lR_takeToken_c188 : Nat → Int → (Nat → Nat → Int) → Option (Nat → Nat → Int)
  | 0, _, _ => none
  | n + 1, y1, M =>
    (if y1 < (M 1 6) then
    (if (M 1 4) = (2 : Int) then
    ((rdI 2 y1 M).bind (fun v219 =>
    ((some (zup M 1 7 (zmin (1000000 : Int) (w32 ((w32 ((w32 ((M 1 7) * (10 : Int))) + v219)) - (48 : Int)))))).bind (fun M227 =>
    ((lR_takeToken_c188 n) (w32 (y1 + 1)) M227)))))
    else
    (some M))
    else
    (some M))
set_option maxRecDepth 100000 in
theorem ok_lR_takeToken_c188 {sc : zSc} {q : Nat} {P : Option zV → (Nat → Nat → Int) → Prop} (hq : 1 ≤ q) : ∀ (n : Nat) (y1 : Int) (M : Nat → Nat → Int), zS (lR_takeToken_c188 n y1 M) (fun M0 => P none M0) → zWp sc q 56 188 [some (.inr (.inr 1)), some (.inl y1)] [] M P := by
  intro n
  induction n with
  | zero => intro y1 M h; exact (zS_none h).elim
  | succ n ih =>
    intro y1 M h
    rw [lR_takeToken_c188] at h
    refine E_iload_n (pc := 188) (zDk zD_56_ok 94 rfl) rfl ?_
    refine E_aload_n (pc := 189) (zDk zD_56_ok 95 rfl) rfl ?_
    refine E_getI (pc := 190) (ci := 4) (f := 6) (zDk zD_56_ok 96 rfl) zc_56 (by decide +kernel) (by decide) zis_4_1 ?_
    refine E_icmp (pc := 193) (t := 236) (zDk zD_56_ok 97 rfl) rfl (fun hz => ?_) (fun hz => ?_)
    · have h := zS_f h (Int.not_lt.mpr (T_ge hz))
      have h := zS_some h
      exact E_return (x := ()) (pc := 236) (zDk zD_56_ok 119 rfl) zt_56 h
    · have h := zS_t h (F_ge hz)
      refine E_aload_n (pc := 196) (zDk zD_56_ok 98 rfl) rfl ?_
      refine E_getI (pc := 197) (ci := 4) (f := 4) (zDk zD_56_ok 99 rfl) zc_56 (by decide +kernel) (by decide) zis_4_1 ?_
      refine E_iconst (pc := 200) (zDk zD_56_ok 100 rfl) (by decide +kernel) ?_
      refine E_icmp (pc := 201) (t := 236) (zDk zD_56_ok 101 rfl) rfl (fun hz => ?_) (fun hz => ?_)
      · have h := zS_f h (T_ne hz)
        have h := zS_some h
        exact E_return (x := ()) (pc := 236) (zDk zD_56_ok 119 rfl) zt_56 h
      · have h := zS_t h (F_ne hz)
        refine E_aload_n (pc := 204) (zDk zD_56_ok 102 rfl) rfl ?_
        refine E_ldc (pc := 205) (v := .inl (1000000 : Int)) (zDk zD_56_ok 103 rfl) zc_56 (by decide +kernel) ?_
        refine E_aload_n (pc := 207) (zDk zD_56_ok 104 rfl) rfl ?_
        refine E_getI (pc := 208) (ci := 4) (f := 7) (zDk zD_56_ok 105 rfl) zc_56 (by decide +kernel) (by decide) zis_4_1 ?_
        refine E_bipush (pc := 211) (zDk zD_56_ok 106 rfl) (by decide +kernel) ?_
        refine W_imul (pc := 213) (zDk zD_56_ok 107 rfl) ?_
        refine E_aload_n (pc := 214) (zDk zD_56_ok 108 rfl) rfl ?_
        refine E_getR (pc := 215) (ci := 4) (f := 0) (r := 2) (zDk zD_56_ok 109 rfl) zc_56 (by decide +kernel) (by decide) zis_4_1 (by decide +kernel) (by decide) ?_
        refine E_iload_n (pc := 218) (zDk zD_56_ok 110 rfl) rfl ?_
        obtain ⟨v219, e219, h⟩ := zS_bind h
        refine E_iaload (pc := 219) (zDk zD_56_ok 111 rfl) e219 ?_
        refine W_iadd (pc := 220) (zDk zD_56_ok 112 rfl) ?_
        refine E_bipush (pc := 221) (zDk zD_56_ok 113 rfl) (by decide +kernel) ?_
        refine W_isub (pc := 223) (zDk zD_56_ok 114 rfl) ?_
        refine W_min (pc := 224) (zDk zD_56_ok 115 rfl) zc_56 (by decide +kernel) (Nat.le_of_ble_eq_true rfl) (Nat.lt_of_lt_of_le (by decide) hq) ?_
        obtain ⟨M227, e227, h⟩ := zS_bind h
        refine W_putI (pc := 227) (ci := 4) (f := 7) (zDk zD_56_ok 116 rfl) zc_56 (by decide +kernel) (by decide) zis_4_1 (Option.some.inj e227) ?_
        refine W_iinc (pc := 230) (L' := [some (.inr (.inr 1)), some (.inl (w32 (y1 + 1)))]) (zDk zD_56_ok 117 rfl) rfl zm_56 (by decide) rfl ?_
        refine E_goto (pc := 233) (t := 188) (zDk zD_56_ok 118 rfl) rfl ?_
        exact (ih) (w32 (y1 + 1)) M227 h
def lR_takeToken_c135 : Nat → (Nat → Nat → Int) → Option (Nat → Nat → Int)
  | 0, _ => none
  | n + 1, M =>
    (if (M 1 6) < (M 1 1) then
    ((rdI 2 (M 1 6) M).bind (fun v154 =>
    ((lR_kindOf v154 M).bind (fun v155 =>
    (if v155 = (M 1 4) then
    ((some (zup M 1 6 (w32 ((M 1 6) + (1 : Int))))).bind (fun M172 =>
    ((lR_takeToken_c135 n) M172)))
    else
    ((some (zup M 1 7 (0 : Int))).bind (fun M180 =>
    (lR_takeToken_c188 zN (M180 1 5) M180))))))))
    else
    ((some (zup M 1 7 (0 : Int))).bind (fun M180 =>
    (lR_takeToken_c188 zN (M180 1 5) M180))))
set_option maxRecDepth 100000 in
theorem ok_lR_takeToken_c135 {sc : zSc} {q : Nat} {P : Option zV → (Nat → Nat → Int) → Prop} (hq : 1 ≤ q) : ∀ (n : Nat) (M : Nat → Nat → Int) (d1 : Option zV), zS (lR_takeToken_c135 n M) (fun M0 => P none M0) → zWp sc q 56 135 [some (.inr (.inr 1)), d1] [] M P := by
  intro n
  induction n with
  | zero => intro M d1 h; exact (zS_none h).elim
  | succ n ih =>
    intro M d1 h
    rw [lR_takeToken_c135] at h
    refine E_aload_n (pc := 135) (zDk zD_56_ok 67 rfl) rfl ?_
    refine E_getI (pc := 136) (ci := 4) (f := 6) (zDk zD_56_ok 68 rfl) zc_56 (by decide +kernel) (by decide) zis_4_1 ?_
    refine E_aload_n (pc := 139) (zDk zD_56_ok 69 rfl) rfl ?_
    refine E_getI (pc := 140) (ci := 4) (f := 1) (zDk zD_56_ok 70 rfl) zc_56 (by decide +kernel) (by decide) zis_4_1 ?_
    refine E_icmp (pc := 143) (t := 178) (zDk zD_56_ok 71 rfl) rfl (fun hz => ?_) (fun hz => ?_)
    · have h := zS_f h (Int.not_lt.mpr (T_ge hz))
      refine E_aload_n (pc := 178) (zDk zD_56_ok 88 rfl) rfl ?_
      refine E_iconst (pc := 179) (zDk zD_56_ok 89 rfl) (by decide +kernel) ?_
      obtain ⟨M180, e180, h⟩ := zS_bind h
      refine W_putI (pc := 180) (ci := 4) (f := 7) (zDk zD_56_ok 90 rfl) zc_56 (by decide +kernel) (by decide) zis_4_1 (Option.some.inj e180) ?_
      refine E_aload_n (pc := 183) (zDk zD_56_ok 91 rfl) rfl ?_
      refine E_getI (pc := 184) (ci := 4) (f := 5) (zDk zD_56_ok 92 rfl) zc_56 (by decide +kernel) (by decide) zis_4_1 ?_
      refine W_istore_n (pc := 187) (L' := [some (.inr (.inr 1)), some (.inl (M180 1 5))]) (zDk zD_56_ok 93 rfl) zm_56 (by decide) rfl ?_
      exact ok_lR_takeToken_c188 hq zN (M180 1 5) M180 h
    · have h := zS_t h (F_ge hz)
      refine E_aload_n (pc := 146) (zDk zD_56_ok 72 rfl) rfl ?_
      refine E_getR (pc := 147) (ci := 4) (f := 0) (r := 2) (zDk zD_56_ok 73 rfl) zc_56 (by decide +kernel) (by decide) zis_4_1 (by decide +kernel) (by decide) ?_
      refine E_aload_n (pc := 150) (zDk zD_56_ok 74 rfl) rfl ?_
      refine E_getI (pc := 151) (ci := 4) (f := 6) (zDk zD_56_ok 75 rfl) zc_56 (by decide +kernel) (by decide) zis_4_1 ?_
      obtain ⟨v154, e154, h⟩ := zS_bind h
      refine E_iaload (pc := 154) (zDk zD_56_ok 76 rfl) e154 ?_
      obtain ⟨v155, e155, h⟩ := zS_bind h
      refine E_staI (pc := 155) (c := 57) (as := [.inl v154]) (rest := []) (zDk zD_56_ok 77 rfl) zc_56 (by decide +kernel) (by decide +kernel) zk_57 ⟨(Nat.le_of_ble_eq_true rfl), rfl, rfl⟩ (Nat.le_of_ble_eq_true rfl) (zr_57 _) (Nat.lt_of_lt_of_le (by decide) hq) (by rw [zm_57]; exact (Nat.le_of_ble_eq_true rfl)) (ok_lR_kindOf ⟨v155, e155, ?_⟩)
      refine E_aload_n (pc := 158) (zDk zD_56_ok 78 rfl) rfl ?_
      refine E_getI (pc := 159) (ci := 4) (f := 4) (zDk zD_56_ok 79 rfl) zc_56 (by decide +kernel) (by decide) zis_4_1 ?_
      refine E_icmp (pc := 162) (t := 178) (zDk zD_56_ok 80 rfl) rfl (fun hz => ?_) (fun hz => ?_)
      · have h := zS_f h (T_ne hz)
        refine E_aload_n (pc := 178) (zDk zD_56_ok 88 rfl) rfl ?_
        refine E_iconst (pc := 179) (zDk zD_56_ok 89 rfl) (by decide +kernel) ?_
        obtain ⟨M180, e180, h⟩ := zS_bind h
        refine W_putI (pc := 180) (ci := 4) (f := 7) (zDk zD_56_ok 90 rfl) zc_56 (by decide +kernel) (by decide) zis_4_1 (Option.some.inj e180) ?_
        refine E_aload_n (pc := 183) (zDk zD_56_ok 91 rfl) rfl ?_
        refine E_getI (pc := 184) (ci := 4) (f := 5) (zDk zD_56_ok 92 rfl) zc_56 (by decide +kernel) (by decide) zis_4_1 ?_
        refine W_istore_n (pc := 187) (L' := [some (.inr (.inr 1)), some (.inl (M180 1 5))]) (zDk zD_56_ok 93 rfl) zm_56 (by decide) rfl ?_
        exact ok_lR_takeToken_c188 hq zN (M180 1 5) M180 h
      · have h := zS_t h (F_ne hz)
        refine E_aload_n (pc := 165) (zDk zD_56_ok 81 rfl) rfl ?_
        refine E_dup (pc := 166) (zDk zD_56_ok 82 rfl) rfl ?_
        refine E_getI (pc := 167) (ci := 4) (f := 6) (zDk zD_56_ok 83 rfl) zc_56 (by decide +kernel) (by decide) zis_4_1 ?_
        refine E_iconst (pc := 170) (zDk zD_56_ok 84 rfl) (by decide +kernel) ?_
        refine W_iadd (pc := 171) (zDk zD_56_ok 85 rfl) ?_
        obtain ⟨M172, e172, h⟩ := zS_bind h
        refine W_putI (pc := 172) (ci := 4) (f := 6) (zDk zD_56_ok 86 rfl) zc_56 (by decide +kernel) (by decide) zis_4_1 (Option.some.inj e172) ?_
        refine E_goto (pc := 175) (t := 135) (zDk zD_56_ok 87 rfl) rfl ?_
        exact (ih) M172 d1 h
def lR_takeToken_c116 (s0 : Nat) (s1 : Int) (M : Nat → Nat → Int) : Option (Nat → Nat → Int) :=
    (if zis 4 s0 = true then
    ((some (zup M s0 6 s1)).bind (fun M116 =>
    (if (M116 1 4) = (1 : Int) then
    (lR_takeToken_c135 zN M116)
    else
    (if (M116 1 4) = (2 : Int) then
    (lR_takeToken_c135 zN M116)
    else
    ((some (zup M116 1 7 (0 : Int))).bind (fun M180 =>
    (lR_takeToken_c188 zN (M180 1 5) M180)))))))
    else none)
set_option maxRecDepth 100000 in
theorem ok_lR_takeToken_c116 {sc : zSc} {q : Nat} {P : Option zV → (Nat → Nat → Int) → Prop} (hq : 1 ≤ q) : ∀ (s0 : Nat) (s1 : Int) (M : Nat → Nat → Int) (d1 : Option zV), zS (lR_takeToken_c116 s0 s1 M) (fun M0 => P none M0) → zWp sc q 56 116 [some (.inr (.inr 1)), d1] [(.inl s1 : zV), .inr (.inr s0)] M P := by
  intro s0 s1 M d1 h
  unfold lR_takeToken_c116 at h
  obtain ⟨hz116, h⟩ := zS_c h
  obtain ⟨M116, e116, h⟩ := zS_bind h
  refine W_putI (pc := 116) (ci := 4) (f := 6) (zDk zD_56_ok 58 rfl) zc_56 (by decide +kernel) (by decide) hz116 (Option.some.inj e116) ?_
  refine E_aload_n (pc := 119) (zDk zD_56_ok 59 rfl) rfl ?_
  refine E_getI (pc := 120) (ci := 4) (f := 4) (zDk zD_56_ok 60 rfl) zc_56 (by decide +kernel) (by decide) zis_4_1 ?_
  refine E_iconst (pc := 123) (zDk zD_56_ok 61 rfl) (by decide +kernel) ?_
  refine E_icmp (pc := 124) (t := 135) (zDk zD_56_ok 62 rfl) rfl (fun hz => ?_) (fun hz => ?_)
  · have h := zS_t h (T_eq hz)
    exact ok_lR_takeToken_c135 hq zN M116 d1 h
  · have h := zS_f h (F_eq hz)
    refine E_aload_n (pc := 127) (zDk zD_56_ok 63 rfl) rfl ?_
    refine E_getI (pc := 128) (ci := 4) (f := 4) (zDk zD_56_ok 64 rfl) zc_56 (by decide +kernel) (by decide) zis_4_1 ?_
    refine E_iconst (pc := 131) (zDk zD_56_ok 65 rfl) (by decide +kernel) ?_
    refine E_icmp (pc := 132) (t := 178) (zDk zD_56_ok 66 rfl) rfl (fun hz => ?_) (fun hz => ?_)
    · have h := zS_f h (T_ne hz)
      refine E_aload_n (pc := 178) (zDk zD_56_ok 88 rfl) rfl ?_
      refine E_iconst (pc := 179) (zDk zD_56_ok 89 rfl) (by decide +kernel) ?_
      obtain ⟨M180, e180, h⟩ := zS_bind h
      refine W_putI (pc := 180) (ci := 4) (f := 7) (zDk zD_56_ok 90 rfl) zc_56 (by decide +kernel) (by decide) zis_4_1 (Option.some.inj e180) ?_
      refine E_aload_n (pc := 183) (zDk zD_56_ok 91 rfl) rfl ?_
      refine E_getI (pc := 184) (ci := 4) (f := 5) (zDk zD_56_ok 92 rfl) zc_56 (by decide +kernel) (by decide) zis_4_1 ?_
      refine W_istore_n (pc := 187) (L' := [some (.inr (.inr 1)), some (.inl (M180 1 5))]) (zDk zD_56_ok 93 rfl) zm_56 (by decide) rfl ?_
      exact ok_lR_takeToken_c188 hq zN (M180 1 5) M180 h
    · have h := zS_t h (F_ne hz)
      exact ok_lR_takeToken_c135 hq zN M116 d1 h
def lR_takeToken_c88 (s0 : Nat) (s1 : Int) (M : Nat → Nat → Int) : Option (Nat → Nat → Int) :=
    (if zis 4 s0 = true then
    ((some (zup M s0 4 s1)).bind (fun M88 =>
    (if (M88 1 5) < (M88 1 1) then
    (lR_takeToken_c116 1 (w32 ((M88 1 5) + (1 : Int))) M88)
    else
    (lR_takeToken_c116 1 (M88 1 5) M88))))
    else none)
set_option maxRecDepth 100000 in
theorem ok_lR_takeToken_c88 {sc : zSc} {q : Nat} {P : Option zV → (Nat → Nat → Int) → Prop} (hq : 1 ≤ q) : ∀ (s0 : Nat) (s1 : Int) (M : Nat → Nat → Int) (d1 : Option zV), zS (lR_takeToken_c88 s0 s1 M) (fun M0 => P none M0) → zWp sc q 56 88 [some (.inr (.inr 1)), d1] [(.inl s1 : zV), .inr (.inr s0)] M P := by
  intro s0 s1 M d1 h
  unfold lR_takeToken_c88 at h
  obtain ⟨hz88, h⟩ := zS_c h
  obtain ⟨M88, e88, h⟩ := zS_bind h
  refine W_putI (pc := 88) (ci := 4) (f := 4) (zDk zD_56_ok 44 rfl) zc_56 (by decide +kernel) (by decide) hz88 (Option.some.inj e88) ?_
  refine E_aload_n (pc := 91) (zDk zD_56_ok 45 rfl) rfl ?_
  refine E_aload_n (pc := 92) (zDk zD_56_ok 46 rfl) rfl ?_
  refine E_getI (pc := 93) (ci := 4) (f := 5) (zDk zD_56_ok 47 rfl) zc_56 (by decide +kernel) (by decide) zis_4_1 ?_
  refine E_aload_n (pc := 96) (zDk zD_56_ok 48 rfl) rfl ?_
  refine E_getI (pc := 97) (ci := 4) (f := 1) (zDk zD_56_ok 49 rfl) zc_56 (by decide +kernel) (by decide) zis_4_1 ?_
  refine E_icmp (pc := 100) (t := 112) (zDk zD_56_ok 50 rfl) rfl (fun hz => ?_) (fun hz => ?_)
  · have h := zS_f h (Int.not_lt.mpr (T_ge hz))
    refine E_aload_n (pc := 112) (zDk zD_56_ok 56 rfl) rfl ?_
    refine E_getI (pc := 113) (ci := 4) (f := 5) (zDk zD_56_ok 57 rfl) zc_56 (by decide +kernel) (by decide) zis_4_1 ?_
    exact ok_lR_takeToken_c116 hq 1 (M88 1 5) M88 d1 h
  · have h := zS_t h (F_ge hz)
    refine E_aload_n (pc := 103) (zDk zD_56_ok 51 rfl) rfl ?_
    refine E_getI (pc := 104) (ci := 4) (f := 5) (zDk zD_56_ok 52 rfl) zc_56 (by decide +kernel) (by decide) zis_4_1 ?_
    refine E_iconst (pc := 107) (zDk zD_56_ok 53 rfl) (by decide +kernel) ?_
    refine W_iadd (pc := 108) (zDk zD_56_ok 54 rfl) ?_
    refine E_goto (pc := 109) (t := 116) (zDk zD_56_ok 55 rfl) rfl ?_
    exact ok_lR_takeToken_c116 hq 1 (w32 ((M88 1 5) + (1 : Int))) M88 d1 h
def lR_takeToken_c60 (M : Nat → Nat → Int) : Option (Nat → Nat → Int) :=
    (if (M 1 5) < (M 1 1) then
    ((rdI 2 (M 1 5) M).bind (fun v80 =>
    ((lR_kindOf v80 M).bind (fun v81 =>
    (lR_takeToken_c88 1 v81 M)))))
    else
    (lR_takeToken_c88 1 (0 : Int) M))
set_option maxRecDepth 100000 in
theorem ok_lR_takeToken_c60 {sc : zSc} {q : Nat} {P : Option zV → (Nat → Nat → Int) → Prop} (hq : 1 ≤ q) : ∀ (M : Nat → Nat → Int) (d1 : Option zV), zS (lR_takeToken_c60 M) (fun M0 => P none M0) → zWp sc q 56 60 [some (.inr (.inr 1)), d1] [] M P := by
  intro M d1 h
  unfold lR_takeToken_c60 at h
  refine E_aload_n (pc := 60) (zDk zD_56_ok 30 rfl) rfl ?_
  refine E_aload_n (pc := 61) (zDk zD_56_ok 31 rfl) rfl ?_
  refine E_getI (pc := 62) (ci := 4) (f := 5) (zDk zD_56_ok 32 rfl) zc_56 (by decide +kernel) (by decide) zis_4_1 ?_
  refine E_aload_n (pc := 65) (zDk zD_56_ok 33 rfl) rfl ?_
  refine E_getI (pc := 66) (ci := 4) (f := 1) (zDk zD_56_ok 34 rfl) zc_56 (by decide +kernel) (by decide) zis_4_1 ?_
  refine E_icmp (pc := 69) (t := 87) (zDk zD_56_ok 35 rfl) rfl (fun hz => ?_) (fun hz => ?_)
  · have h := zS_f h (Int.not_lt.mpr (T_ge hz))
    refine E_iconst (pc := 87) (zDk zD_56_ok 43 rfl) (by decide +kernel) ?_
    exact ok_lR_takeToken_c88 hq 1 (0 : Int) M d1 h
  · have h := zS_t h (F_ge hz)
    refine E_aload_n (pc := 72) (zDk zD_56_ok 36 rfl) rfl ?_
    refine E_getR (pc := 73) (ci := 4) (f := 0) (r := 2) (zDk zD_56_ok 37 rfl) zc_56 (by decide +kernel) (by decide) zis_4_1 (by decide +kernel) (by decide) ?_
    refine E_aload_n (pc := 76) (zDk zD_56_ok 38 rfl) rfl ?_
    refine E_getI (pc := 77) (ci := 4) (f := 5) (zDk zD_56_ok 39 rfl) zc_56 (by decide +kernel) (by decide) zis_4_1 ?_
    obtain ⟨v80, e80, h⟩ := zS_bind h
    refine E_iaload (pc := 80) (zDk zD_56_ok 40 rfl) e80 ?_
    obtain ⟨v81, e81, h⟩ := zS_bind h
    refine E_staI (pc := 81) (c := 57) (as := [.inl v80]) (rest := [.inr (.inr 1)]) (zDk zD_56_ok 41 rfl) zc_56 (by decide +kernel) (by decide +kernel) zk_57 ⟨(Nat.le_of_ble_eq_true rfl), rfl, rfl⟩ (Nat.le_of_ble_eq_true rfl) (zr_57 _) (Nat.lt_of_lt_of_le (by decide) hq) (by rw [zm_57]; exact (Nat.le_of_ble_eq_true rfl)) (ok_lR_kindOf ⟨v81, e81, ?_⟩)
    refine E_goto (pc := 84) (t := 88) (zDk zD_56_ok 42 rfl) rfl ?_
    exact ok_lR_takeToken_c88 hq 1 v81 M d1 h
def lR_takeToken_c8 : Nat → (Nat → Nat → Int) → Option (Nat → Nat → Int)
  | 0, _ => none
  | n + 1, M =>
    (if (M 1 5) < (M 1 1) then
    ((rdI 2 (M 1 5) M).bind (fun v27 =>
    (if v27 = (32 : Int) then
    ((some (zup M 1 5 (w32 ((M 1 5) + (1 : Int))))).bind (fun M54 =>
    ((lR_takeToken_c8 n) M54)))
    else
    ((rdI 2 (M 1 5) M).bind (fun v41 =>
    (if v41 = (10 : Int) then
    ((some (zup M 1 5 (w32 ((M 1 5) + (1 : Int))))).bind (fun M54 =>
    ((lR_takeToken_c8 n) M54)))
    else
    (lR_takeToken_c60 M)))))))
    else
    (lR_takeToken_c60 M))
set_option maxRecDepth 100000 in
theorem ok_lR_takeToken_c8 {sc : zSc} {q : Nat} {P : Option zV → (Nat → Nat → Int) → Prop} (hq : 1 ≤ q) : ∀ (n : Nat) (M : Nat → Nat → Int) (d1 : Option zV), zS (lR_takeToken_c8 n M) (fun M0 => P none M0) → zWp sc q 56 8 [some (.inr (.inr 1)), d1] [] M P := by
  intro n
  induction n with
  | zero => intro M d1 h; exact (zS_none h).elim
  | succ n ih =>
    intro M d1 h
    rw [lR_takeToken_c8] at h
    refine E_aload_n (pc := 8) (zDk zD_56_ok 4 rfl) rfl ?_
    refine E_getI (pc := 9) (ci := 4) (f := 5) (zDk zD_56_ok 5 rfl) zc_56 (by decide +kernel) (by decide) zis_4_1 ?_
    refine E_aload_n (pc := 12) (zDk zD_56_ok 6 rfl) rfl ?_
    refine E_getI (pc := 13) (ci := 4) (f := 1) (zDk zD_56_ok 7 rfl) zc_56 (by decide +kernel) (by decide) zis_4_1 ?_
    refine E_icmp (pc := 16) (t := 60) (zDk zD_56_ok 8 rfl) rfl (fun hz => ?_) (fun hz => ?_)
    · have h := zS_f h (Int.not_lt.mpr (T_ge hz))
      exact ok_lR_takeToken_c60 hq M d1 h
    · have h := zS_t h (F_ge hz)
      refine E_aload_n (pc := 19) (zDk zD_56_ok 9 rfl) rfl ?_
      refine E_getR (pc := 20) (ci := 4) (f := 0) (r := 2) (zDk zD_56_ok 10 rfl) zc_56 (by decide +kernel) (by decide) zis_4_1 (by decide +kernel) (by decide) ?_
      refine E_aload_n (pc := 23) (zDk zD_56_ok 11 rfl) rfl ?_
      refine E_getI (pc := 24) (ci := 4) (f := 5) (zDk zD_56_ok 12 rfl) zc_56 (by decide +kernel) (by decide) zis_4_1 ?_
      obtain ⟨v27, e27, h⟩ := zS_bind h
      refine E_iaload (pc := 27) (zDk zD_56_ok 13 rfl) e27 ?_
      refine E_bipush (pc := 28) (zDk zD_56_ok 14 rfl) (by decide +kernel) ?_
      refine E_icmp (pc := 30) (t := 47) (zDk zD_56_ok 15 rfl) rfl (fun hz => ?_) (fun hz => ?_)
      · have h := zS_t h (T_eq hz)
        refine E_aload_n (pc := 47) (zDk zD_56_ok 23 rfl) rfl ?_
        refine E_dup (pc := 48) (zDk zD_56_ok 24 rfl) rfl ?_
        refine E_getI (pc := 49) (ci := 4) (f := 5) (zDk zD_56_ok 25 rfl) zc_56 (by decide +kernel) (by decide) zis_4_1 ?_
        refine E_iconst (pc := 52) (zDk zD_56_ok 26 rfl) (by decide +kernel) ?_
        refine W_iadd (pc := 53) (zDk zD_56_ok 27 rfl) ?_
        obtain ⟨M54, e54, h⟩ := zS_bind h
        refine W_putI (pc := 54) (ci := 4) (f := 5) (zDk zD_56_ok 28 rfl) zc_56 (by decide +kernel) (by decide) zis_4_1 (Option.some.inj e54) ?_
        refine E_goto (pc := 57) (t := 8) (zDk zD_56_ok 29 rfl) rfl ?_
        exact (ih) M54 d1 h
      · have h := zS_f h (F_eq hz)
        refine E_aload_n (pc := 33) (zDk zD_56_ok 16 rfl) rfl ?_
        refine E_getR (pc := 34) (ci := 4) (f := 0) (r := 2) (zDk zD_56_ok 17 rfl) zc_56 (by decide +kernel) (by decide) zis_4_1 (by decide +kernel) (by decide) ?_
        refine E_aload_n (pc := 37) (zDk zD_56_ok 18 rfl) rfl ?_
        refine E_getI (pc := 38) (ci := 4) (f := 5) (zDk zD_56_ok 19 rfl) zc_56 (by decide +kernel) (by decide) zis_4_1 ?_
        obtain ⟨v41, e41, h⟩ := zS_bind h
        refine E_iaload (pc := 41) (zDk zD_56_ok 20 rfl) e41 ?_
        refine E_bipush (pc := 42) (zDk zD_56_ok 21 rfl) (by decide +kernel) ?_
        refine E_icmp (pc := 44) (t := 60) (zDk zD_56_ok 22 rfl) rfl (fun hz => ?_) (fun hz => ?_)
        · have h := zS_f h (T_ne hz)
          exact ok_lR_takeToken_c60 hq M d1 h
        · have h := zS_t h (F_ne hz)
          refine E_aload_n (pc := 47) (zDk zD_56_ok 23 rfl) rfl ?_
          refine E_dup (pc := 48) (zDk zD_56_ok 24 rfl) rfl ?_
          refine E_getI (pc := 49) (ci := 4) (f := 5) (zDk zD_56_ok 25 rfl) zc_56 (by decide +kernel) (by decide) zis_4_1 ?_
          refine E_iconst (pc := 52) (zDk zD_56_ok 26 rfl) (by decide +kernel) ?_
          refine W_iadd (pc := 53) (zDk zD_56_ok 27 rfl) ?_
          obtain ⟨M54, e54, h⟩ := zS_bind h
          refine W_putI (pc := 54) (ci := 4) (f := 5) (zDk zD_56_ok 28 rfl) zc_56 (by decide +kernel) (by decide) zis_4_1 (Option.some.inj e54) ?_
          refine E_goto (pc := 57) (t := 8) (zDk zD_56_ok 29 rfl) rfl ?_
          exact (ih) M54 d1 h
def lR_takeToken (M : Nat → Nat → Int) : Option (Nat → Nat → Int) :=
    ((some (zup M 1 5 (M 1 6))).bind (fun M5 =>
    (lR_takeToken_c8 zN M5)))
set_option maxRecDepth 100000 in
theorem ok_lR_takeToken {sc : zSc} {M : Nat → Nat → Int} {P : (Nat → Nat → Int) → Prop} (h : zS (lR_takeToken M) P) : zCv sc 56 [.inr (.inr 1)] M P := by
  have ea : zarg (zml 56) [.inr (.inr 1)] = [some (.inr (.inr 1)), none] := by rw [zm_56]; rfl
  unfold zCv zCw
  rw [ea, zr_56]
  have hq : 1 ≤ 1 := Nat.le_refl _
  unfold lR_takeToken at h
  have h := zS_mono h (fun x hx => (⟨rfl, hx⟩ : (none : Option zV) = none ∧ P x))
  skip
  refine E_aload_n (pc := 0) (zDk zD_56_ok 0 rfl) rfl ?_
  refine E_aload_n (pc := 1) (zDk zD_56_ok 1 rfl) rfl ?_
  refine E_getI (pc := 2) (ci := 4) (f := 6) (zDk zD_56_ok 2 rfl) zc_56 (by decide +kernel) (by decide) zis_4_1 ?_
  obtain ⟨M5, e5, h⟩ := zS_bind h
  refine W_putI (pc := 5) (ci := 4) (f := 5) (zDk zD_56_ok 3 rfl) zc_56 (by decide +kernel) (by decide) zis_4_1 (Option.some.inj e5) ?_
  exact ok_lR_takeToken_c8 hq zN M5 none h
def zD_61 : List (Nat × Instr × Nat) := [(0, .aload_n (0), 1), (1, .getfield (11), 3), (4, .iload_n (1), 1), (5, .iload_n (2), 1), (6, .iastore, 1), (7, .aload_n (0), 1), (8, .getfield (15), 3), (11, .iload_n (1), 1), (12, .iload_n (3), 1), (13, .iastore, 1), (14, .aload_n (0), 1), (15, .getfield (20), 3), (18, .iload_n (1), 1), (19, .aaload, 1), (20, .lconst (0), 1), (21, .invokestatic (29), 3), (24, .return_, 1)]
set_option maxRecDepth 100000 in
theorem zD_61_ok : zDo 61 zD_61 = true := by decide +kernel
theorem zc_61 : zcls 61 = 5 := by decide +kernel
theorem zm_61 : zml 61 = 4 := by decide +kernel
theorem zt_61 : zrt 61 = none := by decide +kernel
theorem zk_61 : zkd 61 = 1 ∧ znp 61 + 1 = 4 := by decide +kernel
theorem zr_61 (as : List zV) : zrk 61 as = 1 := by unfold zrk; rw [if_neg (by decide)]; decide +kernel
def lW_make (x1 : Int) (x2 : Int) (x3 : Int) (M : Nat → Nat → Int) : Option (Nat → Nat → Int) :=
    ((wrI 98 x1 x2 M).bind (fun M6 =>
    ((wrI 99 x1 x3 M6).bind (fun M13 =>
    ((rdA 100 x1).bind (fun v19 =>
    ((lY_fill v19 (0 : Int) M13).bind (fun M21 =>
    (some M21)))))))))
set_option maxRecDepth 100000 in
theorem ok_lW_make {sc : zSc} {x1 : Int} {x2 : Int} {x3 : Int} {M : Nat → Nat → Int} {P : (Nat → Nat → Int) → Prop} (h : zS (lW_make x1 x2 x3 M) P) : zCv sc 61 [.inr (.inr 97), .inl x1, .inl x2, .inl x3] M P := by
  have ea : zarg (zml 61) [.inr (.inr 97), .inl x1, .inl x2, .inl x3] = [some (.inr (.inr 97)), some (.inl x1), some (.inl x2), some (.inl x3)] := by rw [zm_61]; rfl
  unfold zCv zCw
  rw [ea, zr_61]
  have hq : 1 ≤ 1 := Nat.le_refl _
  unfold lW_make at h
  have h := zS_mono h (fun x hx => (⟨rfl, hx⟩ : (none : Option zV) = none ∧ P x))
  skip
  refine E_aload_n (pc := 0) (zDk zD_61_ok 0 rfl) rfl ?_
  refine E_getR (pc := 1) (ci := 5) (f := 0) (r := 98) (zDk zD_61_ok 1 rfl) zc_61 (by decide +kernel) (by decide) zis_5_97 (by decide +kernel) (by decide) ?_
  refine E_iload_n (pc := 4) (zDk zD_61_ok 2 rfl) rfl ?_
  refine E_iload_n (pc := 5) (zDk zD_61_ok 3 rfl) rfl ?_
  obtain ⟨M6, e6, h⟩ := zS_bind h
  refine E_iastore (pc := 6) (zDk zD_61_ok 4 rfl) e6 ?_
  refine E_aload_n (pc := 7) (zDk zD_61_ok 5 rfl) rfl ?_
  refine E_getR (pc := 8) (ci := 5) (f := 1) (r := 99) (zDk zD_61_ok 6 rfl) zc_61 (by decide +kernel) (by decide) zis_5_97 (by decide +kernel) (by decide) ?_
  refine E_iload_n (pc := 11) (zDk zD_61_ok 7 rfl) rfl ?_
  refine E_iload_n (pc := 12) (zDk zD_61_ok 8 rfl) rfl ?_
  obtain ⟨M13, e13, h⟩ := zS_bind h
  refine E_iastore (pc := 13) (zDk zD_61_ok 9 rfl) e13 ?_
  refine E_aload_n (pc := 14) (zDk zD_61_ok 10 rfl) rfl ?_
  refine E_getR (pc := 15) (ci := 5) (f := 2) (r := 100) (zDk zD_61_ok 11 rfl) zc_61 (by decide +kernel) (by decide) zis_5_97 (by decide +kernel) (by decide) ?_
  refine E_iload_n (pc := 18) (zDk zD_61_ok 12 rfl) rfl ?_
  obtain ⟨v19, e19, h⟩ := zS_bind h
  refine E_aaload (pc := 19) (zDk zD_61_ok 13 rfl) e19 ?_
  refine E_lconst (pc := 20) (v := 0) (zDk zD_61_ok 14 rfl) (by decide +kernel) ?_
  obtain ⟨M21, e21, h⟩ := zS_bind h
  refine E_staV (pc := 21) (c := 328) (as := [.inr (.inr v19), .inr (.inl (0 : Int))]) (rest := []) (zDk zD_61_ok 15 rfl) zc_61 (by decide +kernel) (by decide +kernel) zk_328 ⟨(Nat.le_of_ble_eq_true rfl), rfl, rfl⟩ (Nat.le_of_ble_eq_true rfl) (zr_328 _) (Nat.lt_of_lt_of_le (by decide) hq) (by rw [zm_328]; exact (Nat.le_of_ble_eq_true rfl)) (ok_lY_fill ⟨M21, e21, ?_⟩)
  have h := zS_some h
  exact E_return (x := ()) (pc := 24) (zDk zD_61_ok 16 rfl) zt_61 h
def zD_65 : List (Nat × Instr × Nat) := [(0, .iconst (0), 1), (1, .istore_n (1), 1), (2, .iconst (0), 1), (3, .istore_n (2), 1), (4, .iload_n (2), 1), (5, .iconst (4), 1), (6, .if_icmp .ge (20), 3), (9, .aload_n (0), 1), (10, .iload_n (2), 1), (11, .invokevirtual (32), 3), (14, .ifCond .eq (6), 3), (17, .iinc (1) (1), 3), (20, .iinc (2) (1), 3), (23, .goto (-19), 3), (26, .iload_n (1), 1), (27, .ireturn, 1)]
set_option maxRecDepth 100000 in
theorem zD_65_ok : zDo 65 zD_65 = true := by decide +kernel
theorem zc_65 : zcls 65 = 5 := by decide +kernel
theorem zm_65 : zml 65 = 3 := by decide +kernel
theorem zt_65 : zrt 65 = (some (.int)) := by decide +kernel
theorem zk_65 : zkd 65 = 1 ∧ znp 65 + 1 = 1 := by decide +kernel
theorem zr_65 (as : List zV) : zrk 65 as = 1 := by unfold zrk; rw [if_neg (by decide)]; decide +kernel
def lW_howMany_c4 (M : Nat → Nat → Int) : Nat → Int → Int → Option Int
  | 0, _, _ => none
  | n + 1, y1, y2 =>
    (if y2 < (4 : Int) then
    ((lW_isFilled y2 M).bind (fun v11 =>
    (if v11 = 0 then
    ((lW_howMany_c4 M n) y1 (w32 (y2 + 1)))
    else
    ((lW_howMany_c4 M n) (w32 (y1 + 1)) (w32 (y2 + 1))))))
    else
    (some y1))
set_option maxRecDepth 100000 in
theorem ok_lW_howMany_c4 {sc : zSc} {q : Nat} {P : Option zV → (Nat → Nat → Int) → Prop} (hq : 1 ≤ q) (M : Nat → Nat → Int) : ∀ (n : Nat) (y1 : Int) (y2 : Int), zS (lW_howMany_c4 M n y1 y2) (fun x => P (some (.inl x)) M) → zWp sc q 65 4 [some (.inr (.inr 97)), some (.inl y1), some (.inl y2)] [] M P := by
  intro n
  induction n with
  | zero => intro y1 y2 h; exact (zS_none h).elim
  | succ n ih =>
    intro y1 y2 h
    rw [lW_howMany_c4] at h
    refine E_iload_n (pc := 4) (zDk zD_65_ok 4 rfl) rfl ?_
    refine E_iconst (pc := 5) (zDk zD_65_ok 5 rfl) (by decide +kernel) ?_
    refine E_icmp (pc := 6) (t := 26) (zDk zD_65_ok 6 rfl) rfl (fun hz => ?_) (fun hz => ?_)
    · have h := zS_f h (Int.not_lt.mpr (T_ge hz))
      refine E_iload_n (pc := 26) (zDk zD_65_ok 14 rfl) rfl ?_
      have h := zS_some h
      exact E_ireturn (pc := 27) (zDk zD_65_ok 15 rfl) zt_65 h
    · have h := zS_t h (F_ge hz)
      refine E_aload_n (pc := 9) (zDk zD_65_ok 7 rfl) rfl ?_
      refine E_iload_n (pc := 10) (zDk zD_65_ok 8 rfl) rfl ?_
      obtain ⟨v11, e11, h⟩ := zS_bind h
      refine E_virI (pc := 11) (c := 60) (r := 97) (as := [.inl y2]) (rest := []) (zDk zD_65_ok 9 rfl) zc_65 (by decide +kernel) zk_60 ⟨(Nat.le_of_ble_eq_true rfl), rfl, rfl⟩ (Nat.le_of_ble_eq_true rfl) (zr_60 _) (Nat.lt_of_lt_of_le (by decide) hq) (by rw [zm_60]; exact (Nat.le_of_ble_eq_true rfl)) ⟨zc_60, by decide⟩ zis_5_97 (ok_lW_isFilled ⟨v11, e11, ?_⟩)
      refine E_if (pc := 14) (t := 20) (zDk zD_65_ok 10 rfl) rfl (fun hz => ?_) (fun hz => ?_)
      · have h := zS_t h (T_eq hz)
        refine W_iinc (pc := 20) (L' := [some (.inr (.inr 97)), some (.inl y1), some (.inl (w32 (y2 + 1)))]) (zDk zD_65_ok 12 rfl) rfl zm_65 (by decide) rfl ?_
        refine E_goto (pc := 23) (t := 4) (zDk zD_65_ok 13 rfl) rfl ?_
        exact (ih) y1 (w32 (y2 + 1)) h
      · have h := zS_f h (F_eq hz)
        refine W_iinc (pc := 17) (L' := [some (.inr (.inr 97)), some (.inl (w32 (y1 + 1))), some (.inl y2)]) (zDk zD_65_ok 11 rfl) rfl zm_65 (by decide) rfl ?_
        refine W_iinc (pc := 20) (L' := [some (.inr (.inr 97)), some (.inl (w32 (y1 + 1))), some (.inl (w32 (y2 + 1)))]) (zDk zD_65_ok 12 rfl) rfl zm_65 (by decide) rfl ?_
        refine E_goto (pc := 23) (t := 4) (zDk zD_65_ok 13 rfl) rfl ?_
        exact (ih) (w32 (y1 + 1)) (w32 (y2 + 1)) h
def lW_howMany (M : Nat → Nat → Int) : Option Int :=
    (lW_howMany_c4 M zN (0 : Int) (0 : Int))
set_option maxRecDepth 100000 in
theorem ok_lW_howMany {sc : zSc} {M : Nat → Nat → Int} {P : Int → (Nat → Nat → Int) → Prop} (h : zS (lW_howMany M) (fun x => P x M)) : zCi sc 65 [.inr (.inr 97)] M P := by
  have ea : zarg (zml 65) [.inr (.inr 97)] = [some (.inr (.inr 97)), none, none] := by rw [zm_65]; rfl
  unfold zCi zCw
  rw [ea, zr_65]
  have hq : 1 ≤ 1 := Nat.le_refl _
  unfold lW_howMany at h
  have h := zS_mono h (fun x hx => (⟨x, rfl, hx⟩ : ∃ y, (some (.inl x) : Option zV) = some (.inl y) ∧ P y M))
  skip
  refine E_iconst (pc := 0) (zDk zD_65_ok 0 rfl) (by decide +kernel) ?_
  refine W_istore_n (pc := 1) (L' := [some (.inr (.inr 97)), some (.inl (0 : Int)), none]) (zDk zD_65_ok 1 rfl) zm_65 (by decide) rfl ?_
  refine E_iconst (pc := 2) (zDk zD_65_ok 2 rfl) (by decide +kernel) ?_
  refine W_istore_n (pc := 3) (L' := [some (.inr (.inr 97)), some (.inl (0 : Int)), some (.inl (0 : Int))]) (zDk zD_65_ok 3 rfl) zm_65 (by decide) rfl ?_
  exact ok_lW_howMany_c4 hq M zN (0 : Int) (0 : Int) h
def zD_67 : List (Nat × Instr × Nat) := [(0, .aload_n (0), 1), (1, .iconst (0), 1), (2, .putfield (39), 3), (5, .aload_n (0), 1), (6, .iconst (0), 1), (7, .putfield (43), 3), (10, .aload_n (0), 1), (11, .iconst (0), 1), (12, .putfield (46), 3), (15, .aload_n (0), 1), (16, .iconst (0), 1), (17, .putfield (49), 3), (20, .aload_n (0), 1), (21, .iconst (0), 1), (22, .putfield (52), 3), (25, .aload_n (0), 1), (26, .iconst (0), 1), (27, .putfield (55), 3), (30, .aload_n (0), 1), (31, .iconst (0), 1), (32, .putfield (58), 3), (35, .aload_n (0), 1), (36, .iconst (0), 1), (37, .putfield (61), 3), (40, .aload_n (0), 1), (41, .iconst (0), 1), (42, .putfield (64), 3), (45, .aload_n (0), 1), (46, .getfield (18), 3), (49, .iconst (0), 1), (50, .invokestatic (67), 3), (53, .return_, 1)]
set_option maxRecDepth 100000 in
theorem zD_67_ok : zDo 67 zD_67 = true := by decide +kernel
theorem zc_67 : zcls 67 = 6 := by decide +kernel
theorem zm_67 : zml 67 = 1 := by decide +kernel
theorem zt_67 : zrt 67 = none := by decide +kernel
theorem zk_67 : zkd 67 = 1 ∧ znp 67 + 1 = 1 := by decide +kernel
theorem zr_67 (as : List zV) : zrk 67 as = 1 := by unfold zrk; rw [if_neg (by decide)]; decide +kernel
def lT_makeEmpty (r0 : Nat) (M : Nat → Nat → Int) : Option (Nat → Nat → Int) :=
    (if zis 6 r0 = true then
    ((some (zup M r0 0 (0 : Int))).bind (fun M2 =>
    ((some (zup M2 r0 1 (0 : Int))).bind (fun M7 =>
    ((some (zup M7 r0 2 (0 : Int))).bind (fun M12 =>
    ((some (zup M12 r0 3 (0 : Int))).bind (fun M17 =>
    ((some (zup M17 r0 4 (0 : Int))).bind (fun M22 =>
    ((some (zup M22 r0 5 (0 : Int))).bind (fun M27 =>
    ((some (zup M27 r0 6 (0 : Int))).bind (fun M32 =>
    ((some (zup M32 r0 7 (0 : Int))).bind (fun M37 =>
    ((some (zup M37 r0 8 (0 : Int))).bind (fun M42 =>
    ((lY_fill_329 (r0 + 3) (0 : Int) M42).bind (fun M50 =>
    (some M50)))))))))))))))))))))
    else none)
set_option maxRecDepth 100000 in
theorem ok_lT_makeEmpty {sc : zSc} {r0 : Nat} {M : Nat → Nat → Int} {P : (Nat → Nat → Int) → Prop} (h : zS (lT_makeEmpty r0 M) P) : zCv sc 67 [.inr (.inr r0)] M P := by
  have ea : zarg (zml 67) [.inr (.inr r0)] = [some (.inr (.inr r0))] := by rw [zm_67]; rfl
  unfold zCv zCw
  rw [ea, zr_67]
  have hq : 1 ≤ 1 := Nat.le_refl _
  unfold lT_makeEmpty at h
  have h := zS_mono h (fun x hx => (⟨rfl, hx⟩ : (none : Option zV) = none ∧ P x))
  obtain ⟨hr0, h⟩ := zS_c h
  skip
  refine E_aload_n (pc := 0) (zDk zD_67_ok 0 rfl) rfl ?_
  refine E_iconst (pc := 1) (zDk zD_67_ok 1 rfl) (by decide +kernel) ?_
  obtain ⟨M2, e2, h⟩ := zS_bind h
  refine W_putI (pc := 2) (ci := 6) (f := 0) (zDk zD_67_ok 2 rfl) zc_67 (by decide +kernel) (by decide) hr0 (Option.some.inj e2) ?_
  refine E_aload_n (pc := 5) (zDk zD_67_ok 3 rfl) rfl ?_
  refine E_iconst (pc := 6) (zDk zD_67_ok 4 rfl) (by decide +kernel) ?_
  obtain ⟨M7, e7, h⟩ := zS_bind h
  refine W_putI (pc := 7) (ci := 6) (f := 1) (zDk zD_67_ok 5 rfl) zc_67 (by decide +kernel) (by decide) hr0 (Option.some.inj e7) ?_
  refine E_aload_n (pc := 10) (zDk zD_67_ok 6 rfl) rfl ?_
  refine E_iconst (pc := 11) (zDk zD_67_ok 7 rfl) (by decide +kernel) ?_
  obtain ⟨M12, e12, h⟩ := zS_bind h
  refine W_putI (pc := 12) (ci := 6) (f := 2) (zDk zD_67_ok 8 rfl) zc_67 (by decide +kernel) (by decide) hr0 (Option.some.inj e12) ?_
  refine E_aload_n (pc := 15) (zDk zD_67_ok 9 rfl) rfl ?_
  refine E_iconst (pc := 16) (zDk zD_67_ok 10 rfl) (by decide +kernel) ?_
  obtain ⟨M17, e17, h⟩ := zS_bind h
  refine W_putI (pc := 17) (ci := 6) (f := 3) (zDk zD_67_ok 11 rfl) zc_67 (by decide +kernel) (by decide) hr0 (Option.some.inj e17) ?_
  refine E_aload_n (pc := 20) (zDk zD_67_ok 12 rfl) rfl ?_
  refine E_iconst (pc := 21) (zDk zD_67_ok 13 rfl) (by decide +kernel) ?_
  obtain ⟨M22, e22, h⟩ := zS_bind h
  refine W_putI (pc := 22) (ci := 6) (f := 4) (zDk zD_67_ok 14 rfl) zc_67 (by decide +kernel) (by decide) hr0 (Option.some.inj e22) ?_
  refine E_aload_n (pc := 25) (zDk zD_67_ok 15 rfl) rfl ?_
  refine E_iconst (pc := 26) (zDk zD_67_ok 16 rfl) (by decide +kernel) ?_
  obtain ⟨M27, e27, h⟩ := zS_bind h
  refine W_putI (pc := 27) (ci := 6) (f := 5) (zDk zD_67_ok 17 rfl) zc_67 (by decide +kernel) (by decide) hr0 (Option.some.inj e27) ?_
  refine E_aload_n (pc := 30) (zDk zD_67_ok 18 rfl) rfl ?_
  refine E_iconst (pc := 31) (zDk zD_67_ok 19 rfl) (by decide +kernel) ?_
  obtain ⟨M32, e32, h⟩ := zS_bind h
  refine W_putI (pc := 32) (ci := 6) (f := 6) (zDk zD_67_ok 20 rfl) zc_67 (by decide +kernel) (by decide) hr0 (Option.some.inj e32) ?_
  refine E_aload_n (pc := 35) (zDk zD_67_ok 21 rfl) rfl ?_
  refine E_iconst (pc := 36) (zDk zD_67_ok 22 rfl) (by decide +kernel) ?_
  obtain ⟨M37, e37, h⟩ := zS_bind h
  refine W_putI (pc := 37) (ci := 6) (f := 7) (zDk zD_67_ok 23 rfl) zc_67 (by decide +kernel) (by decide) hr0 (Option.some.inj e37) ?_
  refine E_aload_n (pc := 40) (zDk zD_67_ok 24 rfl) rfl ?_
  refine E_iconst (pc := 41) (zDk zD_67_ok 25 rfl) (by decide +kernel) ?_
  obtain ⟨M42, e42, h⟩ := zS_bind h
  refine W_putI (pc := 42) (ci := 6) (f := 8) (zDk zD_67_ok 26 rfl) zc_67 (by decide +kernel) (by decide) hr0 (Option.some.inj e42) ?_
  refine E_aload_n (pc := 45) (zDk zD_67_ok 27 rfl) rfl ?_
  refine E_getR (pc := 46) (ci := 6) (f := 11) (r := (r0 + 3)) (zDk zD_67_ok 28 rfl) zc_67 (by decide +kernel) (by decide) hr0 (zg_6_11 hr0) (zh_6_11 hr0) ?_
  refine E_iconst (pc := 49) (zDk zD_67_ok 29 rfl) (by decide +kernel) ?_
  obtain ⟨M50, e50, h⟩ := zS_bind h
  refine E_staV (pc := 50) (c := 329) (as := [.inr (.inr (r0 + 3)), .inl (0 : Int)]) (rest := []) (zDk zD_67_ok 30 rfl) zc_67 (by decide +kernel) (by decide +kernel) zk_329 ⟨(Nat.le_of_ble_eq_true rfl), rfl, rfl⟩ (Nat.le_of_ble_eq_true rfl) (zr_329 _) (Nat.lt_of_lt_of_le (by decide) hq) (by rw [zm_329]; exact (Nat.le_of_ble_eq_true rfl)) (ok_lY_fill_329 ⟨M50, e50, ?_⟩)
  have h := zS_some h
  exact E_return (x := ()) (pc := 53) (zDk zD_67_ok 31 rfl) zt_67 h
def zD_68 : List (Nat × Instr × Nat) := [(0, .aload_n (0), 1), (1, .aload_n (1), 1), (2, .getfield (39), 3), (5, .putfield (39), 3), (8, .aload_n (0), 1), (9, .aload_n (1), 1), (10, .getfield (43), 3), (13, .putfield (43), 3), (16, .aload_n (0), 1), (17, .aload_n (1), 1), (18, .getfield (46), 3), (21, .putfield (46), 3), (24, .aload_n (0), 1), (25, .aload_n (1), 1), (26, .getfield (49), 3), (29, .putfield (49), 3), (32, .aload_n (0), 1), (33, .aload_n (1), 1), (34, .getfield (52), 3), (37, .putfield (52), 3), (40, .aload_n (0), 1), (41, .aload_n (1), 1), (42, .getfield (55), 3), (45, .putfield (55), 3), (48, .aload_n (0), 1), (49, .aload_n (1), 1), (50, .getfield (58), 3), (53, .putfield (58), 3), (56, .aload_n (0), 1), (57, .aload_n (1), 1), (58, .getfield (61), 3), (61, .putfield (61), 3), (64, .aload_n (0), 1), (65, .aload_n (1), 1), (66, .getfield (64), 3), (69, .putfield (64), 3), (72, .aload_n (1), 1), (73, .getfield (9), 3), (76, .iconst (0), 1), (77, .aload_n (0), 1), (78, .getfield (9), 3), (81, .iconst (0), 1), (82, .bipush (12), 2), (84, .invokestatic (73), 3), (87, .aload_n (1), 1), (88, .getfield (15), 3), (91, .iconst (0), 1), (92, .aload_n (0), 1), (93, .getfield (15), 3), (96, .iconst (0), 1), (97, .bipush (12), 2), (99, .invokestatic (73), 3), (102, .aload_n (1), 1), (103, .getfield (18), 3), (106, .iconst (0), 1), (107, .aload_n (0), 1), (108, .getfield (18), 3), (111, .iconst (0), 1), (112, .bipush (8), 2), (114, .invokestatic (73), 3), (117, .aload_n (1), 1), (118, .getfield (21), 3), (121, .iconst (0), 1), (122, .aload_n (0), 1), (123, .getfield (21), 3), (126, .iconst (0), 1), (127, .iconst (5), 1), (128, .invokestatic (73), 3), (131, .aload_n (1), 1), (132, .getfield (24), 3), (135, .iconst (0), 1), (136, .aload_n (0), 1), (137, .getfield (24), 3), (140, .iconst (0), 1), (141, .iconst (5), 1), (142, .invokestatic (73), 3), (145, .aload_n (1), 1), (146, .getfield (27), 3), (149, .iconst (0), 1), (150, .aload_n (0), 1), (151, .getfield (27), 3), (154, .iconst (0), 1), (155, .iconst (5), 1), (156, .invokestatic (73), 3), (159, .aload_n (1), 1), (160, .getfield (30), 3), (163, .iconst (0), 1), (164, .aload_n (0), 1), (165, .getfield (30), 3), (168, .iconst (0), 1), (169, .iconst (5), 1), (170, .invokestatic (73), 3), (173, .aload_n (1), 1), (174, .getfield (33), 3), (177, .iconst (0), 1), (178, .aload_n (0), 1), (179, .getfield (33), 3), (182, .iconst (0), 1), (183, .bipush (40), 2), (185, .invokestatic (73), 3), (188, .aload_n (1), 1), (189, .getfield (36), 3), (192, .iconst (0), 1), (193, .aload_n (0), 1), (194, .getfield (36), 3), (197, .iconst (0), 1), (198, .bipush (6), 2), (200, .invokestatic (73), 3), (203, .return_, 1)]
set_option maxRecDepth 100000 in
theorem zD_68_ok : zDo 68 zD_68 = true := by decide +kernel
theorem zc_68 : zcls 68 = 6 := by decide +kernel
theorem zm_68 : zml 68 = 2 := by decide +kernel
theorem zt_68 : zrt 68 = none := by decide +kernel
theorem zk_68 : zkd 68 = 1 ∧ znp 68 + 1 = 2 := by decide +kernel
theorem zr_68 (as : List zV) : zrk 68 as = 1 := by unfold zrk; rw [if_neg (by decide)]; decide +kernel
def lT_takeFrom (r0 : Nat) (r1 : Nat) (M : Nat → Nat → Int) : Option (Nat → Nat → Int) :=
    (if zis 6 r0 = true then
    (if zis 6 r1 = true then
    ((some (zup M r0 0 (M r1 0))).bind (fun M5 =>
    ((some (zup M5 r0 1 (M5 r1 1))).bind (fun M13 =>
    ((some (zup M13 r0 2 (M13 r1 2))).bind (fun M21 =>
    ((some (zup M21 r0 3 (M21 r1 3))).bind (fun M29 =>
    ((some (zup M29 r0 4 (M29 r1 4))).bind (fun M37 =>
    ((some (zup M37 r0 5 (M37 r1 5))).bind (fun M45 =>
    ((some (zup M45 r0 6 (M45 r1 6))).bind (fun M53 =>
    ((some (zup M53 r0 7 (M53 r1 7))).bind (fun M61 =>
    ((some (zup M61 r0 8 (M61 r1 8))).bind (fun M69 =>
    ((cpA (r1 + 1) (0 : Int) (r0 + 1) (0 : Int) (12 : Int) M69).bind (fun M84 =>
    ((cpA (r1 + 2) (0 : Int) (r0 + 2) (0 : Int) (12 : Int) M84).bind (fun M99 =>
    ((cpA (r1 + 3) (0 : Int) (r0 + 3) (0 : Int) (8 : Int) M99).bind (fun M114 =>
    ((cpA (r1 + 4) (0 : Int) (r0 + 4) (0 : Int) (5 : Int) M114).bind (fun M128 =>
    ((cpA (r1 + 5) (0 : Int) (r0 + 5) (0 : Int) (5 : Int) M128).bind (fun M142 =>
    ((cpA (r1 + 6) (0 : Int) (r0 + 6) (0 : Int) (5 : Int) M142).bind (fun M156 =>
    ((cpA (r1 + 7) (0 : Int) (r0 + 7) (0 : Int) (5 : Int) M156).bind (fun M170 =>
    ((cpA (r1 + 8) (0 : Int) (r0 + 8) (0 : Int) (40 : Int) M170).bind (fun M185 =>
    ((cpA (r1 + 9) (0 : Int) (r0 + 9) (0 : Int) (6 : Int) M185).bind (fun M200 =>
    (some M200)))))))))))))))))))))))))))))))))))))
    else none)
    else none)
set_option maxRecDepth 100000 in
theorem ok_lT_takeFrom {sc : zSc} {r0 : Nat} {r1 : Nat} {M : Nat → Nat → Int} {P : (Nat → Nat → Int) → Prop} (h : zS (lT_takeFrom r0 r1 M) P) : zCv sc 68 [.inr (.inr r0), .inr (.inr r1)] M P := by
  have ea : zarg (zml 68) [.inr (.inr r0), .inr (.inr r1)] = [some (.inr (.inr r0)), some (.inr (.inr r1))] := by rw [zm_68]; rfl
  unfold zCv zCw
  rw [ea, zr_68]
  have hq : 1 ≤ 1 := Nat.le_refl _
  unfold lT_takeFrom at h
  have h := zS_mono h (fun x hx => (⟨rfl, hx⟩ : (none : Option zV) = none ∧ P x))
  obtain ⟨hr0, h⟩ := zS_c h
  obtain ⟨hr1, h⟩ := zS_c h
  skip
  refine E_aload_n (pc := 0) (zDk zD_68_ok 0 rfl) rfl ?_
  refine E_aload_n (pc := 1) (zDk zD_68_ok 1 rfl) rfl ?_
  refine E_getI (pc := 2) (ci := 6) (f := 0) (zDk zD_68_ok 2 rfl) zc_68 (by decide +kernel) (by decide) hr1 ?_
  obtain ⟨M5, e5, h⟩ := zS_bind h
  refine W_putI (pc := 5) (ci := 6) (f := 0) (zDk zD_68_ok 3 rfl) zc_68 (by decide +kernel) (by decide) hr0 (Option.some.inj e5) ?_
  refine E_aload_n (pc := 8) (zDk zD_68_ok 4 rfl) rfl ?_
  refine E_aload_n (pc := 9) (zDk zD_68_ok 5 rfl) rfl ?_
  refine E_getI (pc := 10) (ci := 6) (f := 1) (zDk zD_68_ok 6 rfl) zc_68 (by decide +kernel) (by decide) hr1 ?_
  obtain ⟨M13, e13, h⟩ := zS_bind h
  refine W_putI (pc := 13) (ci := 6) (f := 1) (zDk zD_68_ok 7 rfl) zc_68 (by decide +kernel) (by decide) hr0 (Option.some.inj e13) ?_
  refine E_aload_n (pc := 16) (zDk zD_68_ok 8 rfl) rfl ?_
  refine E_aload_n (pc := 17) (zDk zD_68_ok 9 rfl) rfl ?_
  refine E_getI (pc := 18) (ci := 6) (f := 2) (zDk zD_68_ok 10 rfl) zc_68 (by decide +kernel) (by decide) hr1 ?_
  obtain ⟨M21, e21, h⟩ := zS_bind h
  refine W_putI (pc := 21) (ci := 6) (f := 2) (zDk zD_68_ok 11 rfl) zc_68 (by decide +kernel) (by decide) hr0 (Option.some.inj e21) ?_
  refine E_aload_n (pc := 24) (zDk zD_68_ok 12 rfl) rfl ?_
  refine E_aload_n (pc := 25) (zDk zD_68_ok 13 rfl) rfl ?_
  refine E_getI (pc := 26) (ci := 6) (f := 3) (zDk zD_68_ok 14 rfl) zc_68 (by decide +kernel) (by decide) hr1 ?_
  obtain ⟨M29, e29, h⟩ := zS_bind h
  refine W_putI (pc := 29) (ci := 6) (f := 3) (zDk zD_68_ok 15 rfl) zc_68 (by decide +kernel) (by decide) hr0 (Option.some.inj e29) ?_
  refine E_aload_n (pc := 32) (zDk zD_68_ok 16 rfl) rfl ?_
  refine E_aload_n (pc := 33) (zDk zD_68_ok 17 rfl) rfl ?_
  refine E_getI (pc := 34) (ci := 6) (f := 4) (zDk zD_68_ok 18 rfl) zc_68 (by decide +kernel) (by decide) hr1 ?_
  obtain ⟨M37, e37, h⟩ := zS_bind h
  refine W_putI (pc := 37) (ci := 6) (f := 4) (zDk zD_68_ok 19 rfl) zc_68 (by decide +kernel) (by decide) hr0 (Option.some.inj e37) ?_
  refine E_aload_n (pc := 40) (zDk zD_68_ok 20 rfl) rfl ?_
  refine E_aload_n (pc := 41) (zDk zD_68_ok 21 rfl) rfl ?_
  refine E_getI (pc := 42) (ci := 6) (f := 5) (zDk zD_68_ok 22 rfl) zc_68 (by decide +kernel) (by decide) hr1 ?_
  obtain ⟨M45, e45, h⟩ := zS_bind h
  refine W_putI (pc := 45) (ci := 6) (f := 5) (zDk zD_68_ok 23 rfl) zc_68 (by decide +kernel) (by decide) hr0 (Option.some.inj e45) ?_
  refine E_aload_n (pc := 48) (zDk zD_68_ok 24 rfl) rfl ?_
  refine E_aload_n (pc := 49) (zDk zD_68_ok 25 rfl) rfl ?_
  refine E_getI (pc := 50) (ci := 6) (f := 6) (zDk zD_68_ok 26 rfl) zc_68 (by decide +kernel) (by decide) hr1 ?_
  obtain ⟨M53, e53, h⟩ := zS_bind h
  refine W_putI (pc := 53) (ci := 6) (f := 6) (zDk zD_68_ok 27 rfl) zc_68 (by decide +kernel) (by decide) hr0 (Option.some.inj e53) ?_
  refine E_aload_n (pc := 56) (zDk zD_68_ok 28 rfl) rfl ?_
  refine E_aload_n (pc := 57) (zDk zD_68_ok 29 rfl) rfl ?_
  refine E_getI (pc := 58) (ci := 6) (f := 7) (zDk zD_68_ok 30 rfl) zc_68 (by decide +kernel) (by decide) hr1 ?_
  obtain ⟨M61, e61, h⟩ := zS_bind h
  refine W_putI (pc := 61) (ci := 6) (f := 7) (zDk zD_68_ok 31 rfl) zc_68 (by decide +kernel) (by decide) hr0 (Option.some.inj e61) ?_
  refine E_aload_n (pc := 64) (zDk zD_68_ok 32 rfl) rfl ?_
  refine E_aload_n (pc := 65) (zDk zD_68_ok 33 rfl) rfl ?_
  refine E_getI (pc := 66) (ci := 6) (f := 8) (zDk zD_68_ok 34 rfl) zc_68 (by decide +kernel) (by decide) hr1 ?_
  obtain ⟨M69, e69, h⟩ := zS_bind h
  refine W_putI (pc := 69) (ci := 6) (f := 8) (zDk zD_68_ok 35 rfl) zc_68 (by decide +kernel) (by decide) hr0 (Option.some.inj e69) ?_
  refine E_aload_n (pc := 72) (zDk zD_68_ok 36 rfl) rfl ?_
  refine E_getR (pc := 73) (ci := 6) (f := 9) (r := (r1 + 1)) (zDk zD_68_ok 37 rfl) zc_68 (by decide +kernel) (by decide) hr1 (zg_6_9 hr1) (zh_6_9 hr1) ?_
  refine E_iconst (pc := 76) (zDk zD_68_ok 38 rfl) (by decide +kernel) ?_
  refine E_aload_n (pc := 77) (zDk zD_68_ok 39 rfl) rfl ?_
  refine E_getR (pc := 78) (ci := 6) (f := 9) (r := (r0 + 1)) (zDk zD_68_ok 40 rfl) zc_68 (by decide +kernel) (by decide) hr0 (zg_6_9 hr0) (zh_6_9 hr0) ?_
  refine E_iconst (pc := 81) (zDk zD_68_ok 41 rfl) (by decide +kernel) ?_
  refine E_bipush (pc := 82) (zDk zD_68_ok 42 rfl) (by decide +kernel) ?_
  obtain ⟨M84, e84, h⟩ := zS_bind h
  refine E_copy (pc := 84) (zDk zD_68_ok 43 rfl) zc_68 (by decide +kernel) e84 (Nat.le_of_ble_eq_true rfl) (Nat.lt_of_lt_of_le (by decide) hq) ?_
  refine E_aload_n (pc := 87) (zDk zD_68_ok 44 rfl) rfl ?_
  refine E_getR (pc := 88) (ci := 6) (f := 10) (r := (r1 + 2)) (zDk zD_68_ok 45 rfl) zc_68 (by decide +kernel) (by decide) hr1 (zg_6_10 hr1) (zh_6_10 hr1) ?_
  refine E_iconst (pc := 91) (zDk zD_68_ok 46 rfl) (by decide +kernel) ?_
  refine E_aload_n (pc := 92) (zDk zD_68_ok 47 rfl) rfl ?_
  refine E_getR (pc := 93) (ci := 6) (f := 10) (r := (r0 + 2)) (zDk zD_68_ok 48 rfl) zc_68 (by decide +kernel) (by decide) hr0 (zg_6_10 hr0) (zh_6_10 hr0) ?_
  refine E_iconst (pc := 96) (zDk zD_68_ok 49 rfl) (by decide +kernel) ?_
  refine E_bipush (pc := 97) (zDk zD_68_ok 50 rfl) (by decide +kernel) ?_
  obtain ⟨M99, e99, h⟩ := zS_bind h
  refine E_copy (pc := 99) (zDk zD_68_ok 51 rfl) zc_68 (by decide +kernel) e99 (Nat.le_of_ble_eq_true rfl) (Nat.lt_of_lt_of_le (by decide) hq) ?_
  refine E_aload_n (pc := 102) (zDk zD_68_ok 52 rfl) rfl ?_
  refine E_getR (pc := 103) (ci := 6) (f := 11) (r := (r1 + 3)) (zDk zD_68_ok 53 rfl) zc_68 (by decide +kernel) (by decide) hr1 (zg_6_11 hr1) (zh_6_11 hr1) ?_
  refine E_iconst (pc := 106) (zDk zD_68_ok 54 rfl) (by decide +kernel) ?_
  refine E_aload_n (pc := 107) (zDk zD_68_ok 55 rfl) rfl ?_
  refine E_getR (pc := 108) (ci := 6) (f := 11) (r := (r0 + 3)) (zDk zD_68_ok 56 rfl) zc_68 (by decide +kernel) (by decide) hr0 (zg_6_11 hr0) (zh_6_11 hr0) ?_
  refine E_iconst (pc := 111) (zDk zD_68_ok 57 rfl) (by decide +kernel) ?_
  refine E_bipush (pc := 112) (zDk zD_68_ok 58 rfl) (by decide +kernel) ?_
  obtain ⟨M114, e114, h⟩ := zS_bind h
  refine E_copy (pc := 114) (zDk zD_68_ok 59 rfl) zc_68 (by decide +kernel) e114 (Nat.le_of_ble_eq_true rfl) (Nat.lt_of_lt_of_le (by decide) hq) ?_
  refine E_aload_n (pc := 117) (zDk zD_68_ok 60 rfl) rfl ?_
  refine E_getR (pc := 118) (ci := 6) (f := 12) (r := (r1 + 4)) (zDk zD_68_ok 61 rfl) zc_68 (by decide +kernel) (by decide) hr1 (zg_6_12 hr1) (zh_6_12 hr1) ?_
  refine E_iconst (pc := 121) (zDk zD_68_ok 62 rfl) (by decide +kernel) ?_
  refine E_aload_n (pc := 122) (zDk zD_68_ok 63 rfl) rfl ?_
  refine E_getR (pc := 123) (ci := 6) (f := 12) (r := (r0 + 4)) (zDk zD_68_ok 64 rfl) zc_68 (by decide +kernel) (by decide) hr0 (zg_6_12 hr0) (zh_6_12 hr0) ?_
  refine E_iconst (pc := 126) (zDk zD_68_ok 65 rfl) (by decide +kernel) ?_
  refine E_iconst (pc := 127) (zDk zD_68_ok 66 rfl) (by decide +kernel) ?_
  obtain ⟨M128, e128, h⟩ := zS_bind h
  refine E_copy (pc := 128) (zDk zD_68_ok 67 rfl) zc_68 (by decide +kernel) e128 (Nat.le_of_ble_eq_true rfl) (Nat.lt_of_lt_of_le (by decide) hq) ?_
  refine E_aload_n (pc := 131) (zDk zD_68_ok 68 rfl) rfl ?_
  refine E_getR (pc := 132) (ci := 6) (f := 13) (r := (r1 + 5)) (zDk zD_68_ok 69 rfl) zc_68 (by decide +kernel) (by decide) hr1 (zg_6_13 hr1) (zh_6_13 hr1) ?_
  refine E_iconst (pc := 135) (zDk zD_68_ok 70 rfl) (by decide +kernel) ?_
  refine E_aload_n (pc := 136) (zDk zD_68_ok 71 rfl) rfl ?_
  refine E_getR (pc := 137) (ci := 6) (f := 13) (r := (r0 + 5)) (zDk zD_68_ok 72 rfl) zc_68 (by decide +kernel) (by decide) hr0 (zg_6_13 hr0) (zh_6_13 hr0) ?_
  refine E_iconst (pc := 140) (zDk zD_68_ok 73 rfl) (by decide +kernel) ?_
  refine E_iconst (pc := 141) (zDk zD_68_ok 74 rfl) (by decide +kernel) ?_
  obtain ⟨M142, e142, h⟩ := zS_bind h
  refine E_copy (pc := 142) (zDk zD_68_ok 75 rfl) zc_68 (by decide +kernel) e142 (Nat.le_of_ble_eq_true rfl) (Nat.lt_of_lt_of_le (by decide) hq) ?_
  refine E_aload_n (pc := 145) (zDk zD_68_ok 76 rfl) rfl ?_
  refine E_getR (pc := 146) (ci := 6) (f := 14) (r := (r1 + 6)) (zDk zD_68_ok 77 rfl) zc_68 (by decide +kernel) (by decide) hr1 (zg_6_14 hr1) (zh_6_14 hr1) ?_
  refine E_iconst (pc := 149) (zDk zD_68_ok 78 rfl) (by decide +kernel) ?_
  refine E_aload_n (pc := 150) (zDk zD_68_ok 79 rfl) rfl ?_
  refine E_getR (pc := 151) (ci := 6) (f := 14) (r := (r0 + 6)) (zDk zD_68_ok 80 rfl) zc_68 (by decide +kernel) (by decide) hr0 (zg_6_14 hr0) (zh_6_14 hr0) ?_
  refine E_iconst (pc := 154) (zDk zD_68_ok 81 rfl) (by decide +kernel) ?_
  refine E_iconst (pc := 155) (zDk zD_68_ok 82 rfl) (by decide +kernel) ?_
  obtain ⟨M156, e156, h⟩ := zS_bind h
  refine E_copy (pc := 156) (zDk zD_68_ok 83 rfl) zc_68 (by decide +kernel) e156 (Nat.le_of_ble_eq_true rfl) (Nat.lt_of_lt_of_le (by decide) hq) ?_
  refine E_aload_n (pc := 159) (zDk zD_68_ok 84 rfl) rfl ?_
  refine E_getR (pc := 160) (ci := 6) (f := 15) (r := (r1 + 7)) (zDk zD_68_ok 85 rfl) zc_68 (by decide +kernel) (by decide) hr1 (zg_6_15 hr1) (zh_6_15 hr1) ?_
  refine E_iconst (pc := 163) (zDk zD_68_ok 86 rfl) (by decide +kernel) ?_
  refine E_aload_n (pc := 164) (zDk zD_68_ok 87 rfl) rfl ?_
  refine E_getR (pc := 165) (ci := 6) (f := 15) (r := (r0 + 7)) (zDk zD_68_ok 88 rfl) zc_68 (by decide +kernel) (by decide) hr0 (zg_6_15 hr0) (zh_6_15 hr0) ?_
  refine E_iconst (pc := 168) (zDk zD_68_ok 89 rfl) (by decide +kernel) ?_
  refine E_iconst (pc := 169) (zDk zD_68_ok 90 rfl) (by decide +kernel) ?_
  obtain ⟨M170, e170, h⟩ := zS_bind h
  refine E_copy (pc := 170) (zDk zD_68_ok 91 rfl) zc_68 (by decide +kernel) e170 (Nat.le_of_ble_eq_true rfl) (Nat.lt_of_lt_of_le (by decide) hq) ?_
  refine E_aload_n (pc := 173) (zDk zD_68_ok 92 rfl) rfl ?_
  refine E_getR (pc := 174) (ci := 6) (f := 16) (r := (r1 + 8)) (zDk zD_68_ok 93 rfl) zc_68 (by decide +kernel) (by decide) hr1 (zg_6_16 hr1) (zh_6_16 hr1) ?_
  refine E_iconst (pc := 177) (zDk zD_68_ok 94 rfl) (by decide +kernel) ?_
  refine E_aload_n (pc := 178) (zDk zD_68_ok 95 rfl) rfl ?_
  refine E_getR (pc := 179) (ci := 6) (f := 16) (r := (r0 + 8)) (zDk zD_68_ok 96 rfl) zc_68 (by decide +kernel) (by decide) hr0 (zg_6_16 hr0) (zh_6_16 hr0) ?_
  refine E_iconst (pc := 182) (zDk zD_68_ok 97 rfl) (by decide +kernel) ?_
  refine E_bipush (pc := 183) (zDk zD_68_ok 98 rfl) (by decide +kernel) ?_
  obtain ⟨M185, e185, h⟩ := zS_bind h
  refine E_copy (pc := 185) (zDk zD_68_ok 99 rfl) zc_68 (by decide +kernel) e185 (Nat.le_of_ble_eq_true rfl) (Nat.lt_of_lt_of_le (by decide) hq) ?_
  refine E_aload_n (pc := 188) (zDk zD_68_ok 100 rfl) rfl ?_
  refine E_getR (pc := 189) (ci := 6) (f := 17) (r := (r1 + 9)) (zDk zD_68_ok 101 rfl) zc_68 (by decide +kernel) (by decide) hr1 (zg_6_17 hr1) (zh_6_17 hr1) ?_
  refine E_iconst (pc := 192) (zDk zD_68_ok 102 rfl) (by decide +kernel) ?_
  refine E_aload_n (pc := 193) (zDk zD_68_ok 103 rfl) rfl ?_
  refine E_getR (pc := 194) (ci := 6) (f := 17) (r := (r0 + 9)) (zDk zD_68_ok 104 rfl) zc_68 (by decide +kernel) (by decide) hr0 (zg_6_17 hr0) (zh_6_17 hr0) ?_
  refine E_iconst (pc := 197) (zDk zD_68_ok 105 rfl) (by decide +kernel) ?_
  refine E_bipush (pc := 198) (zDk zD_68_ok 106 rfl) (by decide +kernel) ?_
  obtain ⟨M200, e200, h⟩ := zS_bind h
  refine E_copy (pc := 200) (zDk zD_68_ok 107 rfl) zc_68 (by decide +kernel) e200 (Nat.le_of_ble_eq_true rfl) (Nat.lt_of_lt_of_le (by decide) hq) ?_
  have h := zS_some h
  exact E_return (x := ()) (pc := 203) (zDk zD_68_ok 108 rfl) zt_68 h
def zD_71 : List (Nat × Instr × Nat) := [(0, .aload_n (0), 1), (1, .invokevirtual (79), 3), (4, .ifCond .eq (19), 3), (7, .iload_n (1), 1), (8, .ifCond .lt (15), 3), (11, .iload_n (1), 1), (12, .aload_n (0), 1), (13, .getfield (43), 3), (16, .if_icmp .gt (7), 3), (19, .iconst (1), 1), (20, .goto (4), 3), (23, .iconst (0), 1), (24, .ireturn, 1)]
set_option maxRecDepth 100000 in
theorem zD_71_ok : zDo 71 zD_71 = true := by decide +kernel
theorem zc_71 : zcls 71 = 6 := by decide +kernel
theorem zm_71 : zml 71 = 2 := by decide +kernel
theorem zt_71 : zrt 71 = (some (.boolean)) := by decide +kernel
theorem zk_71 : zkd 71 = 1 ∧ znp 71 + 1 = 2 := by decide +kernel
theorem zr_71 (as : List zV) : zrk 71 as = 1 := by unfold zrk; rw [if_neg (by decide)]; decide +kernel
def lT_hasStep (r0 : Nat) (x1 : Int) (M : Nat → Nat → Int) : Option Int :=
    (if zis 6 r0 = true then
    ((lT_isThere r0 M).bind (fun v1 =>
    (if v1 = 0 then
    (some (0 : Int))
    else
    (if x1 < 0 then
    (some (0 : Int))
    else
    (if (M r0 1) < x1 then
    (some (0 : Int))
    else
    (some (1 : Int)))))))
    else none)
set_option maxRecDepth 100000 in
theorem ok_lT_hasStep {sc : zSc} {r0 : Nat} {x1 : Int} {M : Nat → Nat → Int} {P : Int → (Nat → Nat → Int) → Prop} (h : zS (lT_hasStep r0 x1 M) (fun x => P x M)) : zCi sc 71 [.inr (.inr r0), .inl x1] M P := by
  have ea : zarg (zml 71) [.inr (.inr r0), .inl x1] = [some (.inr (.inr r0)), some (.inl x1)] := by rw [zm_71]; rfl
  unfold zCi zCw
  rw [ea, zr_71]
  have hq : 1 ≤ 1 := Nat.le_refl _
  unfold lT_hasStep at h
  have h := zS_mono h (fun x hx => (⟨x, rfl, hx⟩ : ∃ y, (some (.inl x) : Option zV) = some (.inl y) ∧ P y M))
  obtain ⟨hr0, h⟩ := zS_c h
  skip
  refine E_aload_n (pc := 0) (zDk zD_71_ok 0 rfl) rfl ?_
  obtain ⟨v1, e1, h⟩ := zS_bind h
  refine E_virI (pc := 1) (c := 69) (r := r0) (as := []) (rest := []) (zDk zD_71_ok 1 rfl) zc_71 (by decide +kernel) zk_69 ⟨(Nat.le_of_ble_eq_true rfl), rfl, rfl⟩ (Nat.le_of_ble_eq_true rfl) (zr_69 _) (Nat.lt_of_lt_of_le (by decide) hq) (by rw [zm_69]; exact (Nat.le_of_ble_eq_true rfl)) ⟨zc_69, by decide⟩ hr0 (ok_lT_isThere ⟨v1, e1, ?_⟩)
  refine E_if (pc := 4) (t := 23) (zDk zD_71_ok 2 rfl) rfl (fun hz => ?_) (fun hz => ?_)
  · have h := zS_t h (T_eq hz)
    refine E_iconst (pc := 23) (zDk zD_71_ok 11 rfl) (by decide +kernel) ?_
    have h := zS_some h
    exact E_ireturnZ (pc := 24) (zDk zD_71_ok 12 rfl) zt_71 (by decide) h
  · have h := zS_f h (F_eq hz)
    refine E_iload_n (pc := 7) (zDk zD_71_ok 3 rfl) rfl ?_
    refine E_if (pc := 8) (t := 23) (zDk zD_71_ok 4 rfl) rfl (fun hz => ?_) (fun hz => ?_)
    · have h := zS_t h (T_lt hz)
      refine E_iconst (pc := 23) (zDk zD_71_ok 11 rfl) (by decide +kernel) ?_
      have h := zS_some h
      exact E_ireturnZ (pc := 24) (zDk zD_71_ok 12 rfl) zt_71 (by decide) h
    · have h := zS_f h (Int.not_lt.mpr (F_lt hz))
      refine E_iload_n (pc := 11) (zDk zD_71_ok 5 rfl) rfl ?_
      refine E_aload_n (pc := 12) (zDk zD_71_ok 6 rfl) rfl ?_
      refine E_getI (pc := 13) (ci := 6) (f := 1) (zDk zD_71_ok 7 rfl) zc_71 (by decide +kernel) (by decide) hr0 ?_
      refine E_icmp (pc := 16) (t := 23) (zDk zD_71_ok 8 rfl) rfl (fun hz => ?_) (fun hz => ?_)
      · have h := zS_t h (T_gt hz)
        refine E_iconst (pc := 23) (zDk zD_71_ok 11 rfl) (by decide +kernel) ?_
        have h := zS_some h
        exact E_ireturnZ (pc := 24) (zDk zD_71_ok 12 rfl) zt_71 (by decide) h
      · have h := zS_f h (Int.not_lt.mpr (F_gt hz))
        refine E_iconst (pc := 19) (zDk zD_71_ok 9 rfl) (by decide +kernel) ?_
        refine E_goto (pc := 20) (t := 24) (zDk zD_71_ok 10 rfl) rfl ?_
        have h := zS_some h
        exact E_ireturnZ (pc := 24) (zDk zD_71_ok 12 rfl) zt_71 (by decide) h
def zD_77 : List (Nat × Instr × Nat) := [(0, .aload_n (0), 1), (1, .getfield (10), 3), (4, .getfield (63), 3), (7, .bipush (20), 2), (9, .iadd, 1), (10, .sipush (900), 3), (13, .if_icmp .le (5), 3), (16, .iconst (-1), 1), (17, .ireturn, 1), (18, .aload_n (0), 1), (19, .getfield (10), 3), (22, .iload_n (1), 1), (23, .invokevirtual (67), 3), (26, .aload_n (0), 1), (27, .getfield (10), 3), (30, .iload_n (2), 1), (31, .invokevirtual (67), 3), (34, .aload_n (0), 1), (35, .getfield (10), 3), (38, .iload_n (3), 1), (39, .invokevirtual (67), 3), (42, .aload_n (0), 1), (43, .getfield (10), 3), (46, .iload (4), 2), (48, .invokevirtual (67), 3), (51, .aload_n (0), 1), (52, .getfield (10), 3), (55, .iload (5), 2), (57, .invokevirtual (67), 3), (60, .aload_n (0), 1), (61, .getfield (10), 3), (64, .getfield (63), 3), (67, .ireturn, 1)]
set_option maxRecDepth 100000 in
theorem zD_77_ok : zDo 77 zD_77 = true := by decide +kernel
theorem zc_77 : zcls 77 = 7 := by decide +kernel
theorem zm_77 : zml 77 = 6 := by decide +kernel
theorem zt_77 : zrt 77 = (some (.int)) := by decide +kernel
theorem zk_77 : zkd 77 = 1 ∧ znp 77 + 1 = 6 := by decide +kernel
theorem zr_77 (as : List zV) : zrk 77 as = 1 := by unfold zrk; rw [if_neg (by decide)]; decide +kernel
def lX_feed (x1 : Int) (x2 : Int) (x3 : Int) (x4 : Int) (x5 : Int) (M : Nat → Nat → Int) : Option (Int × (Nat → Nat → Int)) :=
    (if (900 : Int) < (w32 ((M 1 1) + (20 : Int))) then
    (some ((-1 : Int), M))
    else
    ((lR_addNumber x1 M).bind (fun M23 =>
    ((lR_addNumber x2 M23).bind (fun M31 =>
    ((lR_addNumber x3 M31).bind (fun M39 =>
    ((lR_addNumber x4 M39).bind (fun M48 =>
    ((lR_addNumber x5 M48).bind (fun M57 =>
    (some ((M57 1 1), M57)))))))))))))
set_option maxRecDepth 100000 in
theorem ok_lX_feed {sc : zSc} {x1 : Int} {x2 : Int} {x3 : Int} {x4 : Int} {x5 : Int} {M : Nat → Nat → Int} {P : Int → (Nat → Nat → Int) → Prop} (h : zS (lX_feed x1 x2 x3 x4 x5 M) (fun r => P r.1 r.2)) : zCi sc 77 [.inr (.inr 0), .inl x1, .inl x2, .inl x3, .inl x4, .inl x5] M P := by
  have ea : zarg (zml 77) [.inr (.inr 0), .inl x1, .inl x2, .inl x3, .inl x4, .inl x5] = [some (.inr (.inr 0)), some (.inl x1), some (.inl x2), some (.inl x3), some (.inl x4), some (.inl x5)] := by rw [zm_77]; rfl
  unfold zCi zCw
  rw [ea, zr_77]
  have hq : 1 ≤ 1 := Nat.le_refl _
  unfold lX_feed at h
  have h := zS_mono h (fun x hx => (⟨x.1, rfl, hx⟩ : ∃ y, (some (.inl x.1) : Option zV) = some (.inl y) ∧ P y x.2))
  skip
  refine E_aload_n (pc := 0) (zDk zD_77_ok 0 rfl) rfl ?_
  refine E_getR (pc := 1) (ci := 7) (f := 0) (r := 1) (zDk zD_77_ok 1 rfl) zc_77 (by decide +kernel) (by decide) zis_7_0 (by decide +kernel) (by decide) ?_
  refine E_getI (pc := 4) (ci := 4) (f := 1) (zDk zD_77_ok 2 rfl) zc_77 (by decide +kernel) (by decide) zis_4_1 ?_
  refine E_bipush (pc := 7) (zDk zD_77_ok 3 rfl) (by decide +kernel) ?_
  refine W_iadd (pc := 9) (zDk zD_77_ok 4 rfl) ?_
  refine E_sipush (pc := 10) (zDk zD_77_ok 5 rfl) (by decide +kernel) ?_
  refine E_icmp (pc := 13) (t := 18) (zDk zD_77_ok 6 rfl) rfl (fun hz => ?_) (fun hz => ?_)
  · have h := zS_f h (Int.not_lt.mpr (T_le hz))
    refine E_aload_n (pc := 18) (zDk zD_77_ok 9 rfl) rfl ?_
    refine E_getR (pc := 19) (ci := 7) (f := 0) (r := 1) (zDk zD_77_ok 10 rfl) zc_77 (by decide +kernel) (by decide) zis_7_0 (by decide +kernel) (by decide) ?_
    refine E_iload_n (pc := 22) (zDk zD_77_ok 11 rfl) rfl ?_
    obtain ⟨M23, e23, h⟩ := zS_bind h
    refine E_virV (pc := 23) (c := 42) (r := 1) (as := [.inl x1]) (rest := []) (zDk zD_77_ok 12 rfl) zc_77 (by decide +kernel) zk_42 ⟨(Nat.le_of_ble_eq_true rfl), rfl, rfl⟩ (Nat.le_of_ble_eq_true rfl) (zr_42 _) (Nat.lt_of_lt_of_le (by decide) hq) (by rw [zm_42]; exact (Nat.le_of_ble_eq_true rfl)) ⟨zc_42, by decide⟩ zis_4_1 (ok_lR_addNumber ⟨M23, e23, ?_⟩)
    refine E_aload_n (pc := 26) (zDk zD_77_ok 13 rfl) rfl ?_
    refine E_getR (pc := 27) (ci := 7) (f := 0) (r := 1) (zDk zD_77_ok 14 rfl) zc_77 (by decide +kernel) (by decide) zis_7_0 (by decide +kernel) (by decide) ?_
    refine E_iload_n (pc := 30) (zDk zD_77_ok 15 rfl) rfl ?_
    obtain ⟨M31, e31, h⟩ := zS_bind h
    refine E_virV (pc := 31) (c := 42) (r := 1) (as := [.inl x2]) (rest := []) (zDk zD_77_ok 16 rfl) zc_77 (by decide +kernel) zk_42 ⟨(Nat.le_of_ble_eq_true rfl), rfl, rfl⟩ (Nat.le_of_ble_eq_true rfl) (zr_42 _) (Nat.lt_of_lt_of_le (by decide) hq) (by rw [zm_42]; exact (Nat.le_of_ble_eq_true rfl)) ⟨zc_42, by decide⟩ zis_4_1 (ok_lR_addNumber ⟨M31, e31, ?_⟩)
    refine E_aload_n (pc := 34) (zDk zD_77_ok 17 rfl) rfl ?_
    refine E_getR (pc := 35) (ci := 7) (f := 0) (r := 1) (zDk zD_77_ok 18 rfl) zc_77 (by decide +kernel) (by decide) zis_7_0 (by decide +kernel) (by decide) ?_
    refine E_iload_n (pc := 38) (zDk zD_77_ok 19 rfl) rfl ?_
    obtain ⟨M39, e39, h⟩ := zS_bind h
    refine E_virV (pc := 39) (c := 42) (r := 1) (as := [.inl x3]) (rest := []) (zDk zD_77_ok 20 rfl) zc_77 (by decide +kernel) zk_42 ⟨(Nat.le_of_ble_eq_true rfl), rfl, rfl⟩ (Nat.le_of_ble_eq_true rfl) (zr_42 _) (Nat.lt_of_lt_of_le (by decide) hq) (by rw [zm_42]; exact (Nat.le_of_ble_eq_true rfl)) ⟨zc_42, by decide⟩ zis_4_1 (ok_lR_addNumber ⟨M39, e39, ?_⟩)
    refine E_aload_n (pc := 42) (zDk zD_77_ok 21 rfl) rfl ?_
    refine E_getR (pc := 43) (ci := 7) (f := 0) (r := 1) (zDk zD_77_ok 22 rfl) zc_77 (by decide +kernel) (by decide) zis_7_0 (by decide +kernel) (by decide) ?_
    refine E_iload (pc := 46) (zDk zD_77_ok 23 rfl) rfl ?_
    obtain ⟨M48, e48, h⟩ := zS_bind h
    refine E_virV (pc := 48) (c := 42) (r := 1) (as := [.inl x4]) (rest := []) (zDk zD_77_ok 24 rfl) zc_77 (by decide +kernel) zk_42 ⟨(Nat.le_of_ble_eq_true rfl), rfl, rfl⟩ (Nat.le_of_ble_eq_true rfl) (zr_42 _) (Nat.lt_of_lt_of_le (by decide) hq) (by rw [zm_42]; exact (Nat.le_of_ble_eq_true rfl)) ⟨zc_42, by decide⟩ zis_4_1 (ok_lR_addNumber ⟨M48, e48, ?_⟩)
    refine E_aload_n (pc := 51) (zDk zD_77_ok 25 rfl) rfl ?_
    refine E_getR (pc := 52) (ci := 7) (f := 0) (r := 1) (zDk zD_77_ok 26 rfl) zc_77 (by decide +kernel) (by decide) zis_7_0 (by decide +kernel) (by decide) ?_
    refine E_iload (pc := 55) (zDk zD_77_ok 27 rfl) rfl ?_
    obtain ⟨M57, e57, h⟩ := zS_bind h
    refine E_virV (pc := 57) (c := 42) (r := 1) (as := [.inl x5]) (rest := []) (zDk zD_77_ok 28 rfl) zc_77 (by decide +kernel) zk_42 ⟨(Nat.le_of_ble_eq_true rfl), rfl, rfl⟩ (Nat.le_of_ble_eq_true rfl) (zr_42 _) (Nat.lt_of_lt_of_le (by decide) hq) (by rw [zm_42]; exact (Nat.le_of_ble_eq_true rfl)) ⟨zc_42, by decide⟩ zis_4_1 (ok_lR_addNumber ⟨M57, e57, ?_⟩)
    refine E_aload_n (pc := 60) (zDk zD_77_ok 29 rfl) rfl ?_
    refine E_getR (pc := 61) (ci := 7) (f := 0) (r := 1) (zDk zD_77_ok 30 rfl) zc_77 (by decide +kernel) (by decide) zis_7_0 (by decide +kernel) (by decide) ?_
    refine E_getI (pc := 64) (ci := 4) (f := 1) (zDk zD_77_ok 31 rfl) zc_77 (by decide +kernel) (by decide) zis_4_1 ?_
    have h := zS_some h
    exact E_ireturn (pc := 67) (zDk zD_77_ok 32 rfl) zt_77 h
  · have h := zS_t h (F_le hz)
    refine E_iconst (pc := 16) (zDk zD_77_ok 7 rfl) (by decide +kernel) ?_
    have h := zS_some h
    exact E_ireturn (pc := 17) (zDk zD_77_ok 8 rfl) zt_77 h
def zD_81 : List (Nat × Instr × Nat) := [(0, .aload_n (0), 1), (1, .getfield (19), 3), (4, .iload_n (1), 1), (5, .invokevirtual (93), 3), (8, .ifCond .ne (6), 3), (11, .bipush (-2), 2), (13, .ireturn, 1), (14, .iload_n (2), 1), (15, .tableswitch (57) (0) (2) #[25, 35, 45], 25), (40, .aload_n (0), 1), (41, .getfield (19), 3), (44, .getfield (97), 3), (47, .iload_n (1), 1), (48, .iaload, 1), (49, .ireturn, 1), (50, .aload_n (0), 1), (51, .getfield (19), 3), (54, .getfield (100), 3), (57, .iload_n (1), 1), (58, .iaload, 1), (59, .ireturn, 1), (60, .aload_n (0), 1), (61, .getfield (29), 3), (64, .getfield (103), 3), (67, .iload_n (1), 1), (68, .ishr, 1), (69, .iconst (1), 1), (70, .iand, 1), (71, .ireturn, 1), (72, .bipush (-2), 2), (74, .ireturn, 1)]
set_option maxRecDepth 100000 in
theorem zD_81_ok : zDo 81 zD_81 = true := by decide +kernel
theorem zc_81 : zcls 81 = 7 := by decide +kernel
theorem zm_81 : zml 81 = 3 := by decide +kernel
theorem zt_81 : zrt 81 = (some (.int)) := by decide +kernel
theorem zk_81 : zkd 81 = 1 ∧ znp 81 + 1 = 3 := by decide +kernel
theorem zr_81 (as : List zV) : zrk 81 as = 1 := by unfold zrk; rw [if_neg (by decide)]; decide +kernel
def lX_street (x1 : Int) (x2 : Int) (M : Nat → Nat → Int) : Option Int :=
    ((lT_hasStreet 3 x1 M).bind (fun v5 =>
    (if v5 = 0 then
    (some (-2 : Int))
    else
    (if x2 = 0 then
    ((rdI 4 x1 M).bind (fun v48 =>
    (some v48)))
    else
    (if x2 = 1 then
    ((rdI 5 x1 M).bind (fun v58 =>
    (some v58)))
    else
    (if x2 = 2 then
    (some (zand (zshr (M 23 1) x1) (1 : Int)))
    else
    (some (-2 : Int))))))))
set_option maxRecDepth 100000 in
theorem ok_lX_street {sc : zSc} {x1 : Int} {x2 : Int} {M : Nat → Nat → Int} {P : Int → (Nat → Nat → Int) → Prop} (h : zS (lX_street x1 x2 M) (fun x => P x M)) : zCi sc 81 [.inr (.inr 0), .inl x1, .inl x2] M P := by
  have ea : zarg (zml 81) [.inr (.inr 0), .inl x1, .inl x2] = [some (.inr (.inr 0)), some (.inl x1), some (.inl x2)] := by rw [zm_81]; rfl
  unfold zCi zCw
  rw [ea, zr_81]
  have hq : 1 ≤ 1 := Nat.le_refl _
  unfold lX_street at h
  have h := zS_mono h (fun x hx => (⟨x, rfl, hx⟩ : ∃ y, (some (.inl x) : Option zV) = some (.inl y) ∧ P y M))
  skip
  refine E_aload_n (pc := 0) (zDk zD_81_ok 0 rfl) rfl ?_
  refine E_getR (pc := 1) (ci := 7) (f := 1) (r := 3) (zDk zD_81_ok 1 rfl) zc_81 (by decide +kernel) (by decide) zis_7_0 (by decide +kernel) (by decide) ?_
  refine E_iload_n (pc := 4) (zDk zD_81_ok 2 rfl) rfl ?_
  obtain ⟨v5, e5, h⟩ := zS_bind h
  refine E_virI (pc := 5) (c := 72) (r := 3) (as := [.inl x1]) (rest := []) (zDk zD_81_ok 3 rfl) zc_81 (by decide +kernel) zk_72 ⟨(Nat.le_of_ble_eq_true rfl), rfl, rfl⟩ (Nat.le_of_ble_eq_true rfl) (zr_72 _) (Nat.lt_of_lt_of_le (by decide) hq) (by rw [zm_72]; exact (Nat.le_of_ble_eq_true rfl)) ⟨zc_72, by decide⟩ zis_6_3 (ok_lT_hasStreet ⟨v5, e5, ?_⟩)
  refine E_if (pc := 8) (t := 14) (zDk zD_81_ok 4 rfl) rfl (fun hz => ?_) (fun hz => ?_)
  · have h := zS_f h (T_ne hz)
    refine E_iload_n (pc := 14) (zDk zD_81_ok 7 rfl) rfl ?_
    by_cases hk0 : x2 = 0
    · have h := zS_t h hk0
      refine E_tsw (pc := 15) (o := 25) (t := 40) (zDk zD_81_ok 8 rfl) (by rw [hk0]; decide +kernel) rfl (Or.inr (by rw [hk0]; decide)) ?_
      refine E_aload_n (pc := 40) (zDk zD_81_ok 9 rfl) rfl ?_
      refine E_getR (pc := 41) (ci := 7) (f := 1) (r := 3) (zDk zD_81_ok 10 rfl) zc_81 (by decide +kernel) (by decide) zis_7_0 (by decide +kernel) (by decide) ?_
      refine E_getR (pc := 44) (ci := 6) (f := 9) (r := 4) (zDk zD_81_ok 11 rfl) zc_81 (by decide +kernel) (by decide) zis_6_3 (by decide +kernel) (by decide) ?_
      refine E_iload_n (pc := 47) (zDk zD_81_ok 12 rfl) rfl ?_
      obtain ⟨v48, e48, h⟩ := zS_bind h
      refine E_iaload (pc := 48) (zDk zD_81_ok 13 rfl) e48 ?_
      have h := zS_some h
      exact E_ireturn (pc := 49) (zDk zD_81_ok 14 rfl) zt_81 h
    · have h := zS_f h hk0
      by_cases hk1 : x2 = 1
      · have h := zS_t h hk1
        refine E_tsw (pc := 15) (o := 35) (t := 50) (zDk zD_81_ok 8 rfl) (by rw [hk1]; decide +kernel) rfl (Or.inr (by rw [hk1]; decide)) ?_
        refine E_aload_n (pc := 50) (zDk zD_81_ok 15 rfl) rfl ?_
        refine E_getR (pc := 51) (ci := 7) (f := 1) (r := 3) (zDk zD_81_ok 16 rfl) zc_81 (by decide +kernel) (by decide) zis_7_0 (by decide +kernel) (by decide) ?_
        refine E_getR (pc := 54) (ci := 6) (f := 10) (r := 5) (zDk zD_81_ok 17 rfl) zc_81 (by decide +kernel) (by decide) zis_6_3 (by decide +kernel) (by decide) ?_
        refine E_iload_n (pc := 57) (zDk zD_81_ok 18 rfl) rfl ?_
        obtain ⟨v58, e58, h⟩ := zS_bind h
        refine E_iaload (pc := 58) (zDk zD_81_ok 19 rfl) e58 ?_
        have h := zS_some h
        exact E_ireturn (pc := 59) (zDk zD_81_ok 20 rfl) zt_81 h
      · have h := zS_f h hk1
        by_cases hk2 : x2 = 2
        · have h := zS_t h hk2
          refine E_tsw (pc := 15) (o := 45) (t := 60) (zDk zD_81_ok 8 rfl) (by rw [hk2]; decide +kernel) rfl (Or.inr (by rw [hk2]; decide)) ?_
          refine E_aload_n (pc := 60) (zDk zD_81_ok 21 rfl) rfl ?_
          refine E_getR (pc := 61) (ci := 7) (f := 3) (r := 23) (zDk zD_81_ok 22 rfl) zc_81 (by decide +kernel) (by decide) zis_7_0 (by decide +kernel) (by decide) ?_
          refine E_getI (pc := 64) (ci := 0) (f := 1) (zDk zD_81_ok 23 rfl) zc_81 (by decide +kernel) (by decide) zis_0_23 ?_
          refine E_iload_n (pc := 67) (zDk zD_81_ok 24 rfl) rfl ?_
          refine E_ishr (pc := 68) (zDk zD_81_ok 25 rfl) ?_
          refine E_iconst (pc := 69) (zDk zD_81_ok 26 rfl) (by decide +kernel) ?_
          refine E_iand (pc := 70) (zDk zD_81_ok 27 rfl) ?_
          have h := zS_some h
          exact E_ireturn (pc := 71) (zDk zD_81_ok 28 rfl) zt_81 h
        · have h := zS_f h hk2
          refine E_tsw (pc := 15) (o := 57) (t := 72) (zDk zD_81_ok 8 rfl) (if_pos (by omega)) rfl (Or.inl (by omega)) ?_
          refine E_bipush (pc := 72) (zDk zD_81_ok 29 rfl) (by decide +kernel) ?_
          have h := zS_some h
          exact E_ireturn (pc := 74) (zDk zD_81_ok 30 rfl) zt_81 h
  · have h := zS_t h (F_ne hz)
    refine E_bipush (pc := 11) (zDk zD_81_ok 5 rfl) (by decide +kernel) ?_
    have h := zS_some h
    exact E_ireturn (pc := 13) (zDk zD_81_ok 6 rfl) zt_81 h
def zD_82 : List (Nat × Instr × Nat) := [(0, .aload_n (0), 1), (1, .getfield (19), 3), (4, .iload_n (1), 1), (5, .invokevirtual (106), 3), (8, .ifCond .eq (15), 3), (11, .aload_n (0), 1), (12, .getfield (19), 3), (15, .getfield (109), 3), (18, .iload_n (1), 1), (19, .iaload, 1), (20, .goto (5), 3), (23, .bipush (-2), 2), (25, .ireturn, 1)]
set_option maxRecDepth 100000 in
theorem zD_82_ok : zDo 82 zD_82 = true := by decide +kernel
theorem zc_82 : zcls 82 = 7 := by decide +kernel
theorem zm_82 : zml 82 = 2 := by decide +kernel
theorem zt_82 : zrt 82 = (some (.int)) := by decide +kernel
theorem zk_82 : zkd 82 = 1 ∧ znp 82 + 1 = 2 := by decide +kernel
theorem zr_82 (as : List zV) : zrk 82 as = 1 := by unfold zrk; rw [if_neg (by decide)]; decide +kernel
def lX_well (x1 : Int) (M : Nat → Nat → Int) : Option Int :=
    ((lT_hasCorner 3 x1 M).bind (fun v5 =>
    (if v5 = 0 then
    (some (-2 : Int))
    else
    ((rdI 6 x1 M).bind (fun v19 =>
    (some v19))))))
set_option maxRecDepth 100000 in
theorem ok_lX_well {sc : zSc} {x1 : Int} {M : Nat → Nat → Int} {P : Int → (Nat → Nat → Int) → Prop} (h : zS (lX_well x1 M) (fun x => P x M)) : zCi sc 82 [.inr (.inr 0), .inl x1] M P := by
  have ea : zarg (zml 82) [.inr (.inr 0), .inl x1] = [some (.inr (.inr 0)), some (.inl x1)] := by rw [zm_82]; rfl
  unfold zCi zCw
  rw [ea, zr_82]
  have hq : 1 ≤ 1 := Nat.le_refl _
  unfold lX_well at h
  have h := zS_mono h (fun x hx => (⟨x, rfl, hx⟩ : ∃ y, (some (.inl x) : Option zV) = some (.inl y) ∧ P y M))
  skip
  refine E_aload_n (pc := 0) (zDk zD_82_ok 0 rfl) rfl ?_
  refine E_getR (pc := 1) (ci := 7) (f := 1) (r := 3) (zDk zD_82_ok 1 rfl) zc_82 (by decide +kernel) (by decide) zis_7_0 (by decide +kernel) (by decide) ?_
  refine E_iload_n (pc := 4) (zDk zD_82_ok 2 rfl) rfl ?_
  obtain ⟨v5, e5, h⟩ := zS_bind h
  refine E_virI (pc := 5) (c := 70) (r := 3) (as := [.inl x1]) (rest := []) (zDk zD_82_ok 3 rfl) zc_82 (by decide +kernel) zk_70 ⟨(Nat.le_of_ble_eq_true rfl), rfl, rfl⟩ (Nat.le_of_ble_eq_true rfl) (zr_70 _) (Nat.lt_of_lt_of_le (by decide) hq) (by rw [zm_70]; exact (Nat.le_of_ble_eq_true rfl)) ⟨zc_70, by decide⟩ zis_6_3 (ok_lT_hasCorner ⟨v5, e5, ?_⟩)
  refine E_if (pc := 8) (t := 23) (zDk zD_82_ok 4 rfl) rfl (fun hz => ?_) (fun hz => ?_)
  · have h := zS_t h (T_eq hz)
    refine E_bipush (pc := 23) (zDk zD_82_ok 11 rfl) (by decide +kernel) ?_
    have h := zS_some h
    exact E_ireturn (pc := 25) (zDk zD_82_ok 12 rfl) zt_82 h
  · have h := zS_f h (F_eq hz)
    refine E_aload_n (pc := 11) (zDk zD_82_ok 5 rfl) rfl ?_
    refine E_getR (pc := 12) (ci := 7) (f := 1) (r := 3) (zDk zD_82_ok 6 rfl) zc_82 (by decide +kernel) (by decide) zis_7_0 (by decide +kernel) (by decide) ?_
    refine E_getR (pc := 15) (ci := 6) (f := 11) (r := 6) (zDk zD_82_ok 7 rfl) zc_82 (by decide +kernel) (by decide) zis_6_3 (by decide +kernel) (by decide) ?_
    refine E_iload_n (pc := 18) (zDk zD_82_ok 8 rfl) rfl ?_
    obtain ⟨v19, e19, h⟩ := zS_bind h
    refine E_iaload (pc := 19) (zDk zD_82_ok 9 rfl) e19 ?_
    refine E_goto (pc := 20) (t := 25) (zDk zD_82_ok 10 rfl) rfl ?_
    have h := zS_some h
    exact E_ireturn (pc := 25) (zDk zD_82_ok 12 rfl) zt_82 h
def zD_83 : List (Nat × Instr × Nat) := [(0, .aload_n (0), 1), (1, .getfield (19), 3), (4, .iload_n (1), 1), (5, .invokevirtual (112), 3), (8, .ifCond .ne (6), 3), (11, .bipush (-2), 2), (13, .ireturn, 1), (14, .iload_n (2), 1), (15, .tableswitch (69) (0) (3) #[29, 39, 49, 59], 29), (44, .aload_n (0), 1), (45, .getfield (19), 3), (48, .getfield (115), 3), (51, .iload_n (1), 1), (52, .iaload, 1), (53, .ireturn, 1), (54, .aload_n (0), 1), (55, .getfield (19), 3), (58, .getfield (118), 3), (61, .iload_n (1), 1), (62, .iaload, 1), (63, .ireturn, 1), (64, .aload_n (0), 1), (65, .getfield (19), 3), (68, .getfield (121), 3), (71, .iload_n (1), 1), (72, .iaload, 1), (73, .ireturn, 1), (74, .aload_n (0), 1), (75, .getfield (19), 3), (78, .getfield (124), 3), (81, .iload_n (1), 1), (82, .iaload, 1), (83, .ireturn, 1), (84, .bipush (-2), 2), (86, .ireturn, 1)]
set_option maxRecDepth 100000 in
theorem zD_83_ok : zDo 83 zD_83 = true := by decide +kernel
theorem zc_83 : zcls 83 = 7 := by decide +kernel
theorem zm_83 : zml 83 = 3 := by decide +kernel
theorem zt_83 : zrt 83 = (some (.int)) := by decide +kernel
theorem zk_83 : zkd 83 = 1 ∧ znp 83 + 1 = 3 := by decide +kernel
theorem zr_83 (as : List zV) : zrk 83 as = 1 := by unfold zrk; rw [if_neg (by decide)]; decide +kernel
def lX_name (x1 : Int) (x2 : Int) (M : Nat → Nat → Int) : Option Int :=
    ((lT_hasName 3 x1 M).bind (fun v5 =>
    (if v5 = 0 then
    (some (-2 : Int))
    else
    (if x2 = 0 then
    ((rdI 7 x1 M).bind (fun v52 =>
    (some v52)))
    else
    (if x2 = 1 then
    ((rdI 8 x1 M).bind (fun v62 =>
    (some v62)))
    else
    (if x2 = 2 then
    ((rdI 9 x1 M).bind (fun v72 =>
    (some v72)))
    else
    (if x2 = 3 then
    ((rdI 10 x1 M).bind (fun v82 =>
    (some v82)))
    else
    (some (-2 : Int)))))))))
set_option maxRecDepth 100000 in
theorem ok_lX_name {sc : zSc} {x1 : Int} {x2 : Int} {M : Nat → Nat → Int} {P : Int → (Nat → Nat → Int) → Prop} (h : zS (lX_name x1 x2 M) (fun x => P x M)) : zCi sc 83 [.inr (.inr 0), .inl x1, .inl x2] M P := by
  have ea : zarg (zml 83) [.inr (.inr 0), .inl x1, .inl x2] = [some (.inr (.inr 0)), some (.inl x1), some (.inl x2)] := by rw [zm_83]; rfl
  unfold zCi zCw
  rw [ea, zr_83]
  have hq : 1 ≤ 1 := Nat.le_refl _
  unfold lX_name at h
  have h := zS_mono h (fun x hx => (⟨x, rfl, hx⟩ : ∃ y, (some (.inl x) : Option zV) = some (.inl y) ∧ P y M))
  skip
  refine E_aload_n (pc := 0) (zDk zD_83_ok 0 rfl) rfl ?_
  refine E_getR (pc := 1) (ci := 7) (f := 1) (r := 3) (zDk zD_83_ok 1 rfl) zc_83 (by decide +kernel) (by decide) zis_7_0 (by decide +kernel) (by decide) ?_
  refine E_iload_n (pc := 4) (zDk zD_83_ok 2 rfl) rfl ?_
  obtain ⟨v5, e5, h⟩ := zS_bind h
  refine E_virI (pc := 5) (c := 73) (r := 3) (as := [.inl x1]) (rest := []) (zDk zD_83_ok 3 rfl) zc_83 (by decide +kernel) zk_73 ⟨(Nat.le_of_ble_eq_true rfl), rfl, rfl⟩ (Nat.le_of_ble_eq_true rfl) (zr_73 _) (Nat.lt_of_lt_of_le (by decide) hq) (by rw [zm_73]; exact (Nat.le_of_ble_eq_true rfl)) ⟨zc_73, by decide⟩ zis_6_3 (ok_lT_hasName ⟨v5, e5, ?_⟩)
  refine E_if (pc := 8) (t := 14) (zDk zD_83_ok 4 rfl) rfl (fun hz => ?_) (fun hz => ?_)
  · have h := zS_f h (T_ne hz)
    refine E_iload_n (pc := 14) (zDk zD_83_ok 7 rfl) rfl ?_
    by_cases hk0 : x2 = 0
    · have h := zS_t h hk0
      refine E_tsw (pc := 15) (o := 29) (t := 44) (zDk zD_83_ok 8 rfl) (by rw [hk0]; decide +kernel) rfl (Or.inr (by rw [hk0]; decide)) ?_
      refine E_aload_n (pc := 44) (zDk zD_83_ok 9 rfl) rfl ?_
      refine E_getR (pc := 45) (ci := 7) (f := 1) (r := 3) (zDk zD_83_ok 10 rfl) zc_83 (by decide +kernel) (by decide) zis_7_0 (by decide +kernel) (by decide) ?_
      refine E_getR (pc := 48) (ci := 6) (f := 12) (r := 7) (zDk zD_83_ok 11 rfl) zc_83 (by decide +kernel) (by decide) zis_6_3 (by decide +kernel) (by decide) ?_
      refine E_iload_n (pc := 51) (zDk zD_83_ok 12 rfl) rfl ?_
      obtain ⟨v52, e52, h⟩ := zS_bind h
      refine E_iaload (pc := 52) (zDk zD_83_ok 13 rfl) e52 ?_
      have h := zS_some h
      exact E_ireturn (pc := 53) (zDk zD_83_ok 14 rfl) zt_83 h
    · have h := zS_f h hk0
      by_cases hk1 : x2 = 1
      · have h := zS_t h hk1
        refine E_tsw (pc := 15) (o := 39) (t := 54) (zDk zD_83_ok 8 rfl) (by rw [hk1]; decide +kernel) rfl (Or.inr (by rw [hk1]; decide)) ?_
        refine E_aload_n (pc := 54) (zDk zD_83_ok 15 rfl) rfl ?_
        refine E_getR (pc := 55) (ci := 7) (f := 1) (r := 3) (zDk zD_83_ok 16 rfl) zc_83 (by decide +kernel) (by decide) zis_7_0 (by decide +kernel) (by decide) ?_
        refine E_getR (pc := 58) (ci := 6) (f := 13) (r := 8) (zDk zD_83_ok 17 rfl) zc_83 (by decide +kernel) (by decide) zis_6_3 (by decide +kernel) (by decide) ?_
        refine E_iload_n (pc := 61) (zDk zD_83_ok 18 rfl) rfl ?_
        obtain ⟨v62, e62, h⟩ := zS_bind h
        refine E_iaload (pc := 62) (zDk zD_83_ok 19 rfl) e62 ?_
        have h := zS_some h
        exact E_ireturn (pc := 63) (zDk zD_83_ok 20 rfl) zt_83 h
      · have h := zS_f h hk1
        by_cases hk2 : x2 = 2
        · have h := zS_t h hk2
          refine E_tsw (pc := 15) (o := 49) (t := 64) (zDk zD_83_ok 8 rfl) (by rw [hk2]; decide +kernel) rfl (Or.inr (by rw [hk2]; decide)) ?_
          refine E_aload_n (pc := 64) (zDk zD_83_ok 21 rfl) rfl ?_
          refine E_getR (pc := 65) (ci := 7) (f := 1) (r := 3) (zDk zD_83_ok 22 rfl) zc_83 (by decide +kernel) (by decide) zis_7_0 (by decide +kernel) (by decide) ?_
          refine E_getR (pc := 68) (ci := 6) (f := 14) (r := 9) (zDk zD_83_ok 23 rfl) zc_83 (by decide +kernel) (by decide) zis_6_3 (by decide +kernel) (by decide) ?_
          refine E_iload_n (pc := 71) (zDk zD_83_ok 24 rfl) rfl ?_
          obtain ⟨v72, e72, h⟩ := zS_bind h
          refine E_iaload (pc := 72) (zDk zD_83_ok 25 rfl) e72 ?_
          have h := zS_some h
          exact E_ireturn (pc := 73) (zDk zD_83_ok 26 rfl) zt_83 h
        · have h := zS_f h hk2
          by_cases hk3 : x2 = 3
          · have h := zS_t h hk3
            refine E_tsw (pc := 15) (o := 59) (t := 74) (zDk zD_83_ok 8 rfl) (by rw [hk3]; decide +kernel) rfl (Or.inr (by rw [hk3]; decide)) ?_
            refine E_aload_n (pc := 74) (zDk zD_83_ok 27 rfl) rfl ?_
            refine E_getR (pc := 75) (ci := 7) (f := 1) (r := 3) (zDk zD_83_ok 28 rfl) zc_83 (by decide +kernel) (by decide) zis_7_0 (by decide +kernel) (by decide) ?_
            refine E_getR (pc := 78) (ci := 6) (f := 15) (r := 10) (zDk zD_83_ok 29 rfl) zc_83 (by decide +kernel) (by decide) zis_6_3 (by decide +kernel) (by decide) ?_
            refine E_iload_n (pc := 81) (zDk zD_83_ok 30 rfl) rfl ?_
            obtain ⟨v82, e82, h⟩ := zS_bind h
            refine E_iaload (pc := 82) (zDk zD_83_ok 31 rfl) e82 ?_
            have h := zS_some h
            exact E_ireturn (pc := 83) (zDk zD_83_ok 32 rfl) zt_83 h
          · have h := zS_f h hk3
            refine E_tsw (pc := 15) (o := 69) (t := 84) (zDk zD_83_ok 8 rfl) (if_pos (by omega)) rfl (Or.inl (by omega)) ?_
            refine E_bipush (pc := 84) (zDk zD_83_ok 33 rfl) (by decide +kernel) ?_
            have h := zS_some h
            exact E_ireturn (pc := 86) (zDk zD_83_ok 34 rfl) zt_83 h
  · have h := zS_t h (F_ne hz)
    refine E_bipush (pc := 11) (zDk zD_83_ok 5 rfl) (by decide +kernel) ?_
    have h := zS_some h
    exact E_ireturn (pc := 13) (zDk zD_83_ok 6 rfl) zt_83 h
def zD_84 : List (Nat × Instr × Nat) := [(0, .aload_n (0), 1), (1, .getfield (19), 3), (4, .iload_n (1), 1), (5, .invokevirtual (112), 3), (8, .ifCond .eq (20), 3), (11, .iload_n (2), 1), (12, .ifCond .lt (16), 3), (15, .iload_n (2), 1), (16, .aload_n (0), 1), (17, .getfield (19), 3), (20, .getfield (124), 3), (23, .iload_n (1), 1), (24, .iaload, 1), (25, .if_icmp .lt (6), 3), (28, .bipush (-2), 2), (30, .ireturn, 1), (31, .aload_n (0), 1), (32, .getfield (19), 3), (35, .getfield (127), 3), (38, .iload_n (1), 1), (39, .bipush (8), 2), (41, .imul, 1), (42, .iload_n (2), 1), (43, .iadd, 1), (44, .iaload, 1), (45, .ireturn, 1)]
set_option maxRecDepth 100000 in
theorem zD_84_ok : zDo 84 zD_84 = true := by decide +kernel
theorem zc_84 : zcls 84 = 7 := by decide +kernel
theorem zm_84 : zml 84 = 3 := by decide +kernel
theorem zt_84 : zrt 84 = (some (.int)) := by decide +kernel
theorem zk_84 : zkd 84 = 1 ∧ znp 84 + 1 = 3 := by decide +kernel
theorem zr_84 (as : List zV) : zrk 84 as = 1 := by unfold zrk; rw [if_neg (by decide)]; decide +kernel
def lX_walk (x1 : Int) (x2 : Int) (M : Nat → Nat → Int) : Option Int :=
    ((lT_hasName 3 x1 M).bind (fun v5 =>
    (if v5 = 0 then
    (some (-2 : Int))
    else
    (if x2 < 0 then
    (some (-2 : Int))
    else
    ((rdI 10 x1 M).bind (fun v24 =>
    (if x2 < v24 then
    ((rdI 11 (w32 ((w32 (x1 * (8 : Int))) + x2)) M).bind (fun v44 =>
    (some v44)))
    else
    (some (-2 : Int)))))))))
set_option maxRecDepth 100000 in
theorem ok_lX_walk {sc : zSc} {x1 : Int} {x2 : Int} {M : Nat → Nat → Int} {P : Int → (Nat → Nat → Int) → Prop} (h : zS (lX_walk x1 x2 M) (fun x => P x M)) : zCi sc 84 [.inr (.inr 0), .inl x1, .inl x2] M P := by
  have ea : zarg (zml 84) [.inr (.inr 0), .inl x1, .inl x2] = [some (.inr (.inr 0)), some (.inl x1), some (.inl x2)] := by rw [zm_84]; rfl
  unfold zCi zCw
  rw [ea, zr_84]
  have hq : 1 ≤ 1 := Nat.le_refl _
  unfold lX_walk at h
  have h := zS_mono h (fun x hx => (⟨x, rfl, hx⟩ : ∃ y, (some (.inl x) : Option zV) = some (.inl y) ∧ P y M))
  skip
  refine E_aload_n (pc := 0) (zDk zD_84_ok 0 rfl) rfl ?_
  refine E_getR (pc := 1) (ci := 7) (f := 1) (r := 3) (zDk zD_84_ok 1 rfl) zc_84 (by decide +kernel) (by decide) zis_7_0 (by decide +kernel) (by decide) ?_
  refine E_iload_n (pc := 4) (zDk zD_84_ok 2 rfl) rfl ?_
  obtain ⟨v5, e5, h⟩ := zS_bind h
  refine E_virI (pc := 5) (c := 73) (r := 3) (as := [.inl x1]) (rest := []) (zDk zD_84_ok 3 rfl) zc_84 (by decide +kernel) zk_73 ⟨(Nat.le_of_ble_eq_true rfl), rfl, rfl⟩ (Nat.le_of_ble_eq_true rfl) (zr_73 _) (Nat.lt_of_lt_of_le (by decide) hq) (by rw [zm_73]; exact (Nat.le_of_ble_eq_true rfl)) ⟨zc_73, by decide⟩ zis_6_3 (ok_lT_hasName ⟨v5, e5, ?_⟩)
  refine E_if (pc := 8) (t := 28) (zDk zD_84_ok 4 rfl) rfl (fun hz => ?_) (fun hz => ?_)
  · have h := zS_t h (T_eq hz)
    refine E_bipush (pc := 28) (zDk zD_84_ok 14 rfl) (by decide +kernel) ?_
    have h := zS_some h
    exact E_ireturn (pc := 30) (zDk zD_84_ok 15 rfl) zt_84 h
  · have h := zS_f h (F_eq hz)
    refine E_iload_n (pc := 11) (zDk zD_84_ok 5 rfl) rfl ?_
    refine E_if (pc := 12) (t := 28) (zDk zD_84_ok 6 rfl) rfl (fun hz => ?_) (fun hz => ?_)
    · have h := zS_t h (T_lt hz)
      refine E_bipush (pc := 28) (zDk zD_84_ok 14 rfl) (by decide +kernel) ?_
      have h := zS_some h
      exact E_ireturn (pc := 30) (zDk zD_84_ok 15 rfl) zt_84 h
    · have h := zS_f h (Int.not_lt.mpr (F_lt hz))
      refine E_iload_n (pc := 15) (zDk zD_84_ok 7 rfl) rfl ?_
      refine E_aload_n (pc := 16) (zDk zD_84_ok 8 rfl) rfl ?_
      refine E_getR (pc := 17) (ci := 7) (f := 1) (r := 3) (zDk zD_84_ok 9 rfl) zc_84 (by decide +kernel) (by decide) zis_7_0 (by decide +kernel) (by decide) ?_
      refine E_getR (pc := 20) (ci := 6) (f := 15) (r := 10) (zDk zD_84_ok 10 rfl) zc_84 (by decide +kernel) (by decide) zis_6_3 (by decide +kernel) (by decide) ?_
      refine E_iload_n (pc := 23) (zDk zD_84_ok 11 rfl) rfl ?_
      obtain ⟨v24, e24, h⟩ := zS_bind h
      refine E_iaload (pc := 24) (zDk zD_84_ok 12 rfl) e24 ?_
      refine E_icmp (pc := 25) (t := 31) (zDk zD_84_ok 13 rfl) rfl (fun hz => ?_) (fun hz => ?_)
      · have h := zS_t h (T_lt hz)
        refine E_aload_n (pc := 31) (zDk zD_84_ok 16 rfl) rfl ?_
        refine E_getR (pc := 32) (ci := 7) (f := 1) (r := 3) (zDk zD_84_ok 17 rfl) zc_84 (by decide +kernel) (by decide) zis_7_0 (by decide +kernel) (by decide) ?_
        refine E_getR (pc := 35) (ci := 6) (f := 16) (r := 11) (zDk zD_84_ok 18 rfl) zc_84 (by decide +kernel) (by decide) zis_6_3 (by decide +kernel) (by decide) ?_
        refine E_iload_n (pc := 38) (zDk zD_84_ok 19 rfl) rfl ?_
        refine E_bipush (pc := 39) (zDk zD_84_ok 20 rfl) (by decide +kernel) ?_
        refine W_imul (pc := 41) (zDk zD_84_ok 21 rfl) ?_
        refine E_iload_n (pc := 42) (zDk zD_84_ok 22 rfl) rfl ?_
        refine W_iadd (pc := 43) (zDk zD_84_ok 23 rfl) ?_
        obtain ⟨v44, e44, h⟩ := zS_bind h
        refine E_iaload (pc := 44) (zDk zD_84_ok 24 rfl) e44 ?_
        have h := zS_some h
        exact E_ireturn (pc := 45) (zDk zD_84_ok 25 rfl) zt_84 h
      · have h := zS_f h (Int.not_lt.mpr (F_lt hz))
        refine E_bipush (pc := 28) (zDk zD_84_ok 14 rfl) (by decide +kernel) ?_
        have h := zS_some h
        exact E_ireturn (pc := 30) (zDk zD_84_ok 15 rfl) zt_84 h
def zD_85 : List (Nat × Instr × Nat) := [(0, .aload_n (0), 1), (1, .getfield (19), 3), (4, .iload_n (1), 1), (5, .invokevirtual (130), 3), (8, .ifCond .eq (15), 3), (11, .aload_n (0), 1), (12, .getfield (19), 3), (15, .getfield (133), 3), (18, .iload_n (1), 1), (19, .iaload, 1), (20, .goto (5), 3), (23, .bipush (-2), 2), (25, .ireturn, 1)]
set_option maxRecDepth 100000 in
theorem zD_85_ok : zDo 85 zD_85 = true := by decide +kernel
theorem zc_85 : zcls 85 = 7 := by decide +kernel
theorem zm_85 : zml 85 = 2 := by decide +kernel
theorem zt_85 : zrt 85 = (some (.int)) := by decide +kernel
theorem zk_85 : zkd 85 = 1 ∧ znp 85 + 1 = 2 := by decide +kernel
theorem zr_85 (as : List zV) : zrk 85 as = 1 := by unfold zrk; rw [if_neg (by decide)]; decide +kernel
def lX_contract (x1 : Int) (M : Nat → Nat → Int) : Option Int :=
    ((lT_hasContract 3 x1 M).bind (fun v5 =>
    (if v5 = 0 then
    (some (-2 : Int))
    else
    ((rdI 12 x1 M).bind (fun v19 =>
    (some v19))))))
set_option maxRecDepth 100000 in
theorem ok_lX_contract {sc : zSc} {x1 : Int} {M : Nat → Nat → Int} {P : Int → (Nat → Nat → Int) → Prop} (h : zS (lX_contract x1 M) (fun x => P x M)) : zCi sc 85 [.inr (.inr 0), .inl x1] M P := by
  have ea : zarg (zml 85) [.inr (.inr 0), .inl x1] = [some (.inr (.inr 0)), some (.inl x1)] := by rw [zm_85]; rfl
  unfold zCi zCw
  rw [ea, zr_85]
  have hq : 1 ≤ 1 := Nat.le_refl _
  unfold lX_contract at h
  have h := zS_mono h (fun x hx => (⟨x, rfl, hx⟩ : ∃ y, (some (.inl x) : Option zV) = some (.inl y) ∧ P y M))
  skip
  refine E_aload_n (pc := 0) (zDk zD_85_ok 0 rfl) rfl ?_
  refine E_getR (pc := 1) (ci := 7) (f := 1) (r := 3) (zDk zD_85_ok 1 rfl) zc_85 (by decide +kernel) (by decide) zis_7_0 (by decide +kernel) (by decide) ?_
  refine E_iload_n (pc := 4) (zDk zD_85_ok 2 rfl) rfl ?_
  obtain ⟨v5, e5, h⟩ := zS_bind h
  refine E_virI (pc := 5) (c := 74) (r := 3) (as := [.inl x1]) (rest := []) (zDk zD_85_ok 3 rfl) zc_85 (by decide +kernel) zk_74 ⟨(Nat.le_of_ble_eq_true rfl), rfl, rfl⟩ (Nat.le_of_ble_eq_true rfl) (zr_74 _) (Nat.lt_of_lt_of_le (by decide) hq) (by rw [zm_74]; exact (Nat.le_of_ble_eq_true rfl)) ⟨zc_74, by decide⟩ zis_6_3 (ok_lT_hasContract ⟨v5, e5, ?_⟩)
  refine E_if (pc := 8) (t := 23) (zDk zD_85_ok 4 rfl) rfl (fun hz => ?_) (fun hz => ?_)
  · have h := zS_t h (T_eq hz)
    refine E_bipush (pc := 23) (zDk zD_85_ok 11 rfl) (by decide +kernel) ?_
    have h := zS_some h
    exact E_ireturn (pc := 25) (zDk zD_85_ok 12 rfl) zt_85 h
  · have h := zS_f h (F_eq hz)
    refine E_aload_n (pc := 11) (zDk zD_85_ok 5 rfl) rfl ?_
    refine E_getR (pc := 12) (ci := 7) (f := 1) (r := 3) (zDk zD_85_ok 6 rfl) zc_85 (by decide +kernel) (by decide) zis_7_0 (by decide +kernel) (by decide) ?_
    refine E_getR (pc := 15) (ci := 6) (f := 17) (r := 12) (zDk zD_85_ok 7 rfl) zc_85 (by decide +kernel) (by decide) zis_6_3 (by decide +kernel) (by decide) ?_
    refine E_iload_n (pc := 18) (zDk zD_85_ok 8 rfl) rfl ?_
    obtain ⟨v19, e19, h⟩ := zS_bind h
    refine E_iaload (pc := 19) (zDk zD_85_ok 9 rfl) e19 ?_
    refine E_goto (pc := 20) (t := 25) (zDk zD_85_ok 10 rfl) rfl ?_
    have h := zS_some h
    exact E_ireturn (pc := 25) (zDk zD_85_ok 12 rfl) zt_85 h
def zD_91 : List (Nat × Instr × Nat) := [(0, .aload_n (0), 1), (1, .getfield (19), 3), (4, .iload_n (1), 1), (5, .invokevirtual (112), 3), (8, .ifCond .eq (14), 3), (11, .aload_n (0), 1), (12, .getfield (38), 3), (15, .iload_n (1), 1), (16, .invokevirtual (156), 3), (19, .goto (5), 3), (22, .bipush (-2), 2), (24, .ireturn, 1)]
set_option maxRecDepth 100000 in
theorem zD_91_ok : zDo 91 zD_91 = true := by decide +kernel
theorem zc_91 : zcls 91 = 7 := by decide +kernel
theorem zm_91 : zml 91 = 2 := by decide +kernel
theorem zt_91 : zrt 91 = (some (.int)) := by decide +kernel
theorem zk_91 : zkd 91 = 1 ∧ znp 91 + 1 = 2 := by decide +kernel
theorem zr_91 (as : List zV) : zrk 91 as = 1 := by unfold zrk; rw [if_neg (by decide)]; decide +kernel
def lX_goes (x1 : Int) (M : Nat → Nat → Int) : Option Int :=
    ((lT_hasName 3 x1 M).bind (fun v5 =>
    (if v5 = 0 then
    (some (-2 : Int))
    else
    ((lD_streetsGone 29 x1 M).bind (fun v16 =>
    (some v16))))))
set_option maxRecDepth 100000 in
theorem ok_lX_goes {sc : zSc} {x1 : Int} {M : Nat → Nat → Int} {P : Int → (Nat → Nat → Int) → Prop} (h : zS (lX_goes x1 M) (fun x => P x M)) : zCi sc 91 [.inr (.inr 0), .inl x1] M P := by
  have ea : zarg (zml 91) [.inr (.inr 0), .inl x1] = [some (.inr (.inr 0)), some (.inl x1)] := by rw [zm_91]; rfl
  unfold zCi zCw
  rw [ea, zr_91]
  have hq : 1 ≤ 1 := Nat.le_refl _
  unfold lX_goes at h
  have h := zS_mono h (fun x hx => (⟨x, rfl, hx⟩ : ∃ y, (some (.inl x) : Option zV) = some (.inl y) ∧ P y M))
  skip
  refine E_aload_n (pc := 0) (zDk zD_91_ok 0 rfl) rfl ?_
  refine E_getR (pc := 1) (ci := 7) (f := 1) (r := 3) (zDk zD_91_ok 1 rfl) zc_91 (by decide +kernel) (by decide) zis_7_0 (by decide +kernel) (by decide) ?_
  refine E_iload_n (pc := 4) (zDk zD_91_ok 2 rfl) rfl ?_
  obtain ⟨v5, e5, h⟩ := zS_bind h
  refine E_virI (pc := 5) (c := 73) (r := 3) (as := [.inl x1]) (rest := []) (zDk zD_91_ok 3 rfl) zc_91 (by decide +kernel) zk_73 ⟨(Nat.le_of_ble_eq_true rfl), rfl, rfl⟩ (Nat.le_of_ble_eq_true rfl) (zr_73 _) (Nat.lt_of_lt_of_le (by decide) hq) (by rw [zm_73]; exact (Nat.le_of_ble_eq_true rfl)) ⟨zc_73, by decide⟩ zis_6_3 (ok_lT_hasName ⟨v5, e5, ?_⟩)
  refine E_if (pc := 8) (t := 22) (zDk zD_91_ok 4 rfl) rfl (fun hz => ?_) (fun hz => ?_)
  · have h := zS_t h (T_eq hz)
    refine E_bipush (pc := 22) (zDk zD_91_ok 10 rfl) (by decide +kernel) ?_
    have h := zS_some h
    exact E_ireturn (pc := 24) (zDk zD_91_ok 11 rfl) zt_91 h
  · have h := zS_f h (F_eq hz)
    refine E_aload_n (pc := 11) (zDk zD_91_ok 5 rfl) rfl ?_
    refine E_getR (pc := 12) (ci := 7) (f := 4) (r := 29) (zDk zD_91_ok 6 rfl) zc_91 (by decide +kernel) (by decide) zis_7_0 (by decide +kernel) (by decide) ?_
    refine E_iload_n (pc := 15) (zDk zD_91_ok 7 rfl) rfl ?_
    obtain ⟨v16, e16, h⟩ := zS_bind h
    refine E_virI (pc := 16) (c := 23) (r := 29) (as := [.inl x1]) (rest := []) (zDk zD_91_ok 8 rfl) zc_91 (by decide +kernel) zk_23 ⟨(Nat.le_of_ble_eq_true rfl), rfl, rfl⟩ (Nat.le_of_ble_eq_true rfl) (zr_23 _) (Nat.lt_of_lt_of_le (by decide) hq) (by rw [zm_23]; exact (Nat.le_of_ble_eq_true rfl)) ⟨zc_23, by decide⟩ zis_1_29 (ok_lD_streetsGone ⟨v16, e16, ?_⟩)
    refine E_goto (pc := 19) (t := 24) (zDk zD_91_ok 9 rfl) rfl ?_
    have h := zS_some h
    exact E_ireturn (pc := 24) (zDk zD_91_ok 11 rfl) zt_91 h
def zD_93 : List (Nat × Instr × Nat) := [(0, .aload_n (0), 1), (1, .getfield (19), 3), (4, .iload_n (1), 1), (5, .invokevirtual (112), 3), (8, .ifCond .eq (14), 3), (11, .aload_n (0), 1), (12, .getfield (38), 3), (15, .iload_n (1), 1), (16, .invokevirtual (162), 3), (19, .goto (5), 3), (22, .bipush (-2), 2), (24, .ireturn, 1)]
set_option maxRecDepth 100000 in
theorem zD_93_ok : zDo 93 zD_93 = true := by decide +kernel
theorem zc_93 : zcls 93 = 7 := by decide +kernel
theorem zm_93 : zml 93 = 2 := by decide +kernel
theorem zt_93 : zrt 93 = (some (.int)) := by decide +kernel
theorem zk_93 : zkd 93 = 1 ∧ znp 93 + 1 = 2 := by decide +kernel
theorem zr_93 (as : List zV) : zrk 93 as = 1 := by unfold zrk; rw [if_neg (by decide)]; decide +kernel
def lX_sees (x1 : Int) (M : Nat → Nat → Int) : Option Int :=
    ((lT_hasName 3 x1 M).bind (fun v5 =>
    (if v5 = 0 then
    (some (-2 : Int))
    else
    ((lD_cornersSeen 29 x1 M).bind (fun v16 =>
    (some v16))))))
set_option maxRecDepth 100000 in
theorem ok_lX_sees {sc : zSc} {x1 : Int} {M : Nat → Nat → Int} {P : Int → (Nat → Nat → Int) → Prop} (h : zS (lX_sees x1 M) (fun x => P x M)) : zCi sc 93 [.inr (.inr 0), .inl x1] M P := by
  have ea : zarg (zml 93) [.inr (.inr 0), .inl x1] = [some (.inr (.inr 0)), some (.inl x1)] := by rw [zm_93]; rfl
  unfold zCi zCw
  rw [ea, zr_93]
  have hq : 1 ≤ 1 := Nat.le_refl _
  unfold lX_sees at h
  have h := zS_mono h (fun x hx => (⟨x, rfl, hx⟩ : ∃ y, (some (.inl x) : Option zV) = some (.inl y) ∧ P y M))
  skip
  refine E_aload_n (pc := 0) (zDk zD_93_ok 0 rfl) rfl ?_
  refine E_getR (pc := 1) (ci := 7) (f := 1) (r := 3) (zDk zD_93_ok 1 rfl) zc_93 (by decide +kernel) (by decide) zis_7_0 (by decide +kernel) (by decide) ?_
  refine E_iload_n (pc := 4) (zDk zD_93_ok 2 rfl) rfl ?_
  obtain ⟨v5, e5, h⟩ := zS_bind h
  refine E_virI (pc := 5) (c := 73) (r := 3) (as := [.inl x1]) (rest := []) (zDk zD_93_ok 3 rfl) zc_93 (by decide +kernel) zk_73 ⟨(Nat.le_of_ble_eq_true rfl), rfl, rfl⟩ (Nat.le_of_ble_eq_true rfl) (zr_73 _) (Nat.lt_of_lt_of_le (by decide) hq) (by rw [zm_73]; exact (Nat.le_of_ble_eq_true rfl)) ⟨zc_73, by decide⟩ zis_6_3 (ok_lT_hasName ⟨v5, e5, ?_⟩)
  refine E_if (pc := 8) (t := 22) (zDk zD_93_ok 4 rfl) rfl (fun hz => ?_) (fun hz => ?_)
  · have h := zS_t h (T_eq hz)
    refine E_bipush (pc := 22) (zDk zD_93_ok 10 rfl) (by decide +kernel) ?_
    have h := zS_some h
    exact E_ireturn (pc := 24) (zDk zD_93_ok 11 rfl) zt_93 h
  · have h := zS_f h (F_eq hz)
    refine E_aload_n (pc := 11) (zDk zD_93_ok 5 rfl) rfl ?_
    refine E_getR (pc := 12) (ci := 7) (f := 4) (r := 29) (zDk zD_93_ok 6 rfl) zc_93 (by decide +kernel) (by decide) zis_7_0 (by decide +kernel) (by decide) ?_
    refine E_iload_n (pc := 15) (zDk zD_93_ok 7 rfl) rfl ?_
    obtain ⟨v16, e16, h⟩ := zS_bind h
    refine E_virI (pc := 16) (c := 25) (r := 29) (as := [.inl x1]) (rest := []) (zDk zD_93_ok 8 rfl) zc_93 (by decide +kernel) zk_25 ⟨(Nat.le_of_ble_eq_true rfl), rfl, rfl⟩ (Nat.le_of_ble_eq_true rfl) (zr_25 _) (Nat.lt_of_lt_of_le (by decide) hq) (by rw [zm_25]; exact (Nat.le_of_ble_eq_true rfl)) ⟨zc_25, by decide⟩ zis_1_29 (ok_lD_cornersSeen ⟨v16, e16, ?_⟩)
    refine E_goto (pc := 19) (t := 24) (zDk zD_93_ok 9 rfl) rfl ?_
    have h := zS_some h
    exact E_ireturn (pc := 24) (zDk zD_93_ok 11 rfl) zt_93 h
def zD_95 : List (Nat × Instr × Nat) := [(0, .aload_n (0), 1), (1, .getfield (19), 3), (4, .iload_n (1), 1), (5, .invokevirtual (130), 3), (8, .ifCond .eq (16), 3), (11, .aload_n (0), 1), (12, .getfield (38), 3), (15, .iconst (1), 1), (16, .iload_n (1), 1), (17, .ishl, 1), (18, .invokevirtual (168), 3), (21, .goto (5), 3), (24, .bipush (-2), 2), (26, .ireturn, 1)]
set_option maxRecDepth 100000 in
theorem zD_95_ok : zDo 95 zD_95 = true := by decide +kernel
theorem zc_95 : zcls 95 = 7 := by decide +kernel
theorem zm_95 : zml 95 = 2 := by decide +kernel
theorem zt_95 : zrt 95 = (some (.int)) := by decide +kernel
theorem zk_95 : zkd 95 = 1 ∧ znp 95 + 1 = 2 := by decide +kernel
theorem zr_95 (as : List zV) : zrk 95 as = 1 := by unfold zrk; rw [if_neg (by decide)]; decide +kernel
def lX_signed (x1 : Int) (M : Nat → Nat → Int) : Option Int :=
    ((lT_hasContract 3 x1 M).bind (fun v5 =>
    (if v5 = 0 then
    (some (-2 : Int))
    else
    ((lD_firstSigned 29 (zshl (1 : Int) x1) M).bind (fun v18 =>
    (some v18))))))
set_option maxRecDepth 100000 in
theorem ok_lX_signed {sc : zSc} {x1 : Int} {M : Nat → Nat → Int} {P : Int → (Nat → Nat → Int) → Prop} (h : zS (lX_signed x1 M) (fun x => P x M)) : zCi sc 95 [.inr (.inr 0), .inl x1] M P := by
  have ea : zarg (zml 95) [.inr (.inr 0), .inl x1] = [some (.inr (.inr 0)), some (.inl x1)] := by rw [zm_95]; rfl
  unfold zCi zCw
  rw [ea, zr_95]
  have hq : 1 ≤ 1 := Nat.le_refl _
  unfold lX_signed at h
  have h := zS_mono h (fun x hx => (⟨x, rfl, hx⟩ : ∃ y, (some (.inl x) : Option zV) = some (.inl y) ∧ P y M))
  skip
  refine E_aload_n (pc := 0) (zDk zD_95_ok 0 rfl) rfl ?_
  refine E_getR (pc := 1) (ci := 7) (f := 1) (r := 3) (zDk zD_95_ok 1 rfl) zc_95 (by decide +kernel) (by decide) zis_7_0 (by decide +kernel) (by decide) ?_
  refine E_iload_n (pc := 4) (zDk zD_95_ok 2 rfl) rfl ?_
  obtain ⟨v5, e5, h⟩ := zS_bind h
  refine E_virI (pc := 5) (c := 74) (r := 3) (as := [.inl x1]) (rest := []) (zDk zD_95_ok 3 rfl) zc_95 (by decide +kernel) zk_74 ⟨(Nat.le_of_ble_eq_true rfl), rfl, rfl⟩ (Nat.le_of_ble_eq_true rfl) (zr_74 _) (Nat.lt_of_lt_of_le (by decide) hq) (by rw [zm_74]; exact (Nat.le_of_ble_eq_true rfl)) ⟨zc_74, by decide⟩ zis_6_3 (ok_lT_hasContract ⟨v5, e5, ?_⟩)
  refine E_if (pc := 8) (t := 24) (zDk zD_95_ok 4 rfl) rfl (fun hz => ?_) (fun hz => ?_)
  · have h := zS_t h (T_eq hz)
    refine E_bipush (pc := 24) (zDk zD_95_ok 12 rfl) (by decide +kernel) ?_
    have h := zS_some h
    exact E_ireturn (pc := 26) (zDk zD_95_ok 13 rfl) zt_95 h
  · have h := zS_f h (F_eq hz)
    refine E_aload_n (pc := 11) (zDk zD_95_ok 5 rfl) rfl ?_
    refine E_getR (pc := 12) (ci := 7) (f := 4) (r := 29) (zDk zD_95_ok 6 rfl) zc_95 (by decide +kernel) (by decide) zis_7_0 (by decide +kernel) (by decide) ?_
    refine E_iconst (pc := 15) (zDk zD_95_ok 7 rfl) (by decide +kernel) ?_
    refine E_iload_n (pc := 16) (zDk zD_95_ok 8 rfl) rfl ?_
    refine E_ishl (pc := 17) (zDk zD_95_ok 9 rfl) ?_
    obtain ⟨v18, e18, h⟩ := zS_bind h
    refine E_virI (pc := 18) (c := 28) (r := 29) (as := [.inl (zshl (1 : Int) x1)]) (rest := []) (zDk zD_95_ok 10 rfl) zc_95 (by decide +kernel) zk_28 ⟨(Nat.le_of_ble_eq_true rfl), rfl, rfl⟩ (Nat.le_of_ble_eq_true rfl) (zr_28 _) (Nat.lt_of_lt_of_le (by decide) hq) (by rw [zm_28]; exact (Nat.le_of_ble_eq_true rfl)) ⟨zc_28, by decide⟩ zis_1_29 (ok_lD_firstSigned ⟨v18, e18, ?_⟩)
    refine E_goto (pc := 21) (t := 26) (zDk zD_95_ok 11 rfl) rfl ?_
    have h := zS_some h
    exact E_ireturn (pc := 26) (zDk zD_95_ok 13 rfl) zt_95 h
def zD_96 : List (Nat × Instr × Nat) := [(0, .aload_n (0), 1), (1, .getfield (19), 3), (4, .iload_n (1), 1), (5, .invokevirtual (130), 3), (8, .ifCond .ne (6), 3), (11, .bipush (-2), 2), (13, .ireturn, 1), (14, .aload_n (0), 1), (15, .getfield (38), 3), (18, .iconst (1), 1), (19, .iload_n (1), 1), (20, .ishl, 1), (21, .invokevirtual (168), 3), (24, .istore_n (2), 1), (25, .iload_n (2), 1), (26, .iconst (-1), 1), (27, .if_icmp .ne (7), 3), (30, .iconst (-1), 1), (31, .goto (20), 3), (34, .aload_n (0), 1), (35, .getfield (38), 3), (38, .aload_n (0), 1), (39, .getfield (19), 3), (42, .getfield (133), 3), (45, .iload_n (1), 1), (46, .iaload, 1), (47, .iload_n (2), 1), (48, .invokevirtual (171), 3), (51, .ireturn, 1)]
set_option maxRecDepth 100000 in
theorem zD_96_ok : zDo 96 zD_96 = true := by decide +kernel
theorem zc_96 : zcls 96 = 7 := by decide +kernel
theorem zm_96 : zml 96 = 3 := by decide +kernel
theorem zt_96 : zrt 96 = (some (.int)) := by decide +kernel
theorem zk_96 : zkd 96 = 1 ∧ znp 96 + 1 = 2 := by decide +kernel
theorem zr_96 (as : List zV) : zrk 96 as = 1 := by unfold zrk; rw [if_neg (by decide)]; decide +kernel
def lX_where (x1 : Int) (M : Nat → Nat → Int) : Option Int :=
    ((lT_hasContract 3 x1 M).bind (fun v5 =>
    (if v5 = 0 then
    (some (-2 : Int))
    else
    ((lD_firstSigned 29 (zshl (1 : Int) x1) M).bind (fun v21 =>
    (if v21 = (-1 : Int) then
    (some (-1 : Int))
    else
    ((rdI 12 x1 M).bind (fun v46 =>
    ((lD_cornerOfAll 29 v46 v21 M).bind (fun v48 =>
    (some v48)))))))))))
set_option maxRecDepth 100000 in
theorem ok_lX_where {sc : zSc} {x1 : Int} {M : Nat → Nat → Int} {P : Int → (Nat → Nat → Int) → Prop} (h : zS (lX_where x1 M) (fun x => P x M)) : zCi sc 96 [.inr (.inr 0), .inl x1] M P := by
  have ea : zarg (zml 96) [.inr (.inr 0), .inl x1] = [some (.inr (.inr 0)), some (.inl x1), none] := by rw [zm_96]; rfl
  unfold zCi zCw
  rw [ea, zr_96]
  have hq : 1 ≤ 1 := Nat.le_refl _
  unfold lX_where at h
  have h := zS_mono h (fun x hx => (⟨x, rfl, hx⟩ : ∃ y, (some (.inl x) : Option zV) = some (.inl y) ∧ P y M))
  skip
  refine E_aload_n (pc := 0) (zDk zD_96_ok 0 rfl) rfl ?_
  refine E_getR (pc := 1) (ci := 7) (f := 1) (r := 3) (zDk zD_96_ok 1 rfl) zc_96 (by decide +kernel) (by decide) zis_7_0 (by decide +kernel) (by decide) ?_
  refine E_iload_n (pc := 4) (zDk zD_96_ok 2 rfl) rfl ?_
  obtain ⟨v5, e5, h⟩ := zS_bind h
  refine E_virI (pc := 5) (c := 74) (r := 3) (as := [.inl x1]) (rest := []) (zDk zD_96_ok 3 rfl) zc_96 (by decide +kernel) zk_74 ⟨(Nat.le_of_ble_eq_true rfl), rfl, rfl⟩ (Nat.le_of_ble_eq_true rfl) (zr_74 _) (Nat.lt_of_lt_of_le (by decide) hq) (by rw [zm_74]; exact (Nat.le_of_ble_eq_true rfl)) ⟨zc_74, by decide⟩ zis_6_3 (ok_lT_hasContract ⟨v5, e5, ?_⟩)
  refine E_if (pc := 8) (t := 14) (zDk zD_96_ok 4 rfl) rfl (fun hz => ?_) (fun hz => ?_)
  · have h := zS_f h (T_ne hz)
    refine E_aload_n (pc := 14) (zDk zD_96_ok 7 rfl) rfl ?_
    refine E_getR (pc := 15) (ci := 7) (f := 4) (r := 29) (zDk zD_96_ok 8 rfl) zc_96 (by decide +kernel) (by decide) zis_7_0 (by decide +kernel) (by decide) ?_
    refine E_iconst (pc := 18) (zDk zD_96_ok 9 rfl) (by decide +kernel) ?_
    refine E_iload_n (pc := 19) (zDk zD_96_ok 10 rfl) rfl ?_
    refine E_ishl (pc := 20) (zDk zD_96_ok 11 rfl) ?_
    obtain ⟨v21, e21, h⟩ := zS_bind h
    refine E_virI (pc := 21) (c := 28) (r := 29) (as := [.inl (zshl (1 : Int) x1)]) (rest := []) (zDk zD_96_ok 12 rfl) zc_96 (by decide +kernel) zk_28 ⟨(Nat.le_of_ble_eq_true rfl), rfl, rfl⟩ (Nat.le_of_ble_eq_true rfl) (zr_28 _) (Nat.lt_of_lt_of_le (by decide) hq) (by rw [zm_28]; exact (Nat.le_of_ble_eq_true rfl)) ⟨zc_28, by decide⟩ zis_1_29 (ok_lD_firstSigned ⟨v21, e21, ?_⟩)
    refine W_istore_n (pc := 24) (L' := [some (.inr (.inr 0)), some (.inl x1), some (.inl v21)]) (zDk zD_96_ok 13 rfl) zm_96 (by decide) rfl ?_
    refine E_iload_n (pc := 25) (zDk zD_96_ok 14 rfl) rfl ?_
    refine E_iconst (pc := 26) (zDk zD_96_ok 15 rfl) (by decide +kernel) ?_
    refine E_icmp (pc := 27) (t := 34) (zDk zD_96_ok 16 rfl) rfl (fun hz => ?_) (fun hz => ?_)
    · have h := zS_f h (T_ne hz)
      refine E_aload_n (pc := 34) (zDk zD_96_ok 19 rfl) rfl ?_
      refine E_getR (pc := 35) (ci := 7) (f := 4) (r := 29) (zDk zD_96_ok 20 rfl) zc_96 (by decide +kernel) (by decide) zis_7_0 (by decide +kernel) (by decide) ?_
      refine E_aload_n (pc := 38) (zDk zD_96_ok 21 rfl) rfl ?_
      refine E_getR (pc := 39) (ci := 7) (f := 1) (r := 3) (zDk zD_96_ok 22 rfl) zc_96 (by decide +kernel) (by decide) zis_7_0 (by decide +kernel) (by decide) ?_
      refine E_getR (pc := 42) (ci := 6) (f := 17) (r := 12) (zDk zD_96_ok 23 rfl) zc_96 (by decide +kernel) (by decide) zis_6_3 (by decide +kernel) (by decide) ?_
      refine E_iload_n (pc := 45) (zDk zD_96_ok 24 rfl) rfl ?_
      obtain ⟨v46, e46, h⟩ := zS_bind h
      refine E_iaload (pc := 46) (zDk zD_96_ok 25 rfl) e46 ?_
      refine E_iload_n (pc := 47) (zDk zD_96_ok 26 rfl) rfl ?_
      obtain ⟨v48, e48, h⟩ := zS_bind h
      refine E_virI (pc := 48) (c := 18) (r := 29) (as := [.inl v46, .inl v21]) (rest := []) (zDk zD_96_ok 27 rfl) zc_96 (by decide +kernel) zk_18 ⟨(Nat.le_of_ble_eq_true rfl), rfl, rfl⟩ (Nat.le_of_ble_eq_true rfl) (zr_18 _) (Nat.lt_of_lt_of_le (by decide) hq) (by rw [zm_18]; exact (Nat.le_of_ble_eq_true rfl)) ⟨zc_18, by decide⟩ zis_1_29 (ok_lD_cornerOfAll ⟨v48, e48, ?_⟩)
      have h := zS_some h
      exact E_ireturn (pc := 51) (zDk zD_96_ok 28 rfl) zt_96 h
    · have h := zS_t h (F_ne hz)
      refine E_iconst (pc := 30) (zDk zD_96_ok 17 rfl) (by decide +kernel) ?_
      refine E_goto (pc := 31) (t := 51) (zDk zD_96_ok 18 rfl) rfl ?_
      have h := zS_some h
      exact E_ireturn (pc := 51) (zDk zD_96_ok 28 rfl) zt_96 h
  · have h := zS_t h (F_ne hz)
    refine E_bipush (pc := 11) (zDk zD_96_ok 5 rfl) (by decide +kernel) ?_
    have h := zS_some h
    exact E_ireturn (pc := 13) (zDk zD_96_ok 6 rfl) zt_96 h
def zD_98 : List (Nat × Instr × Nat) := [(0, .aload_n (0), 1), (1, .getfield (19), 3), (4, .iload_n (1), 1), (5, .invokevirtual (112), 3), (8, .ifCond .ne (6), 3), (11, .bipush (-2), 2), (13, .ireturn, 1), (14, .aload_n (0), 1), (15, .getfield (38), 3), (18, .getfield (174), 3), (21, .aload_n (0), 1), (22, .getfield (19), 3), (25, .getfield (177), 3), (28, .iaload, 1), (29, .aload_n (0), 1), (30, .getfield (19), 3), (33, .iload_n (1), 1), (34, .invokevirtual (180), 3), (37, .iand, 1), (38, .invokestatic (183), 3), (41, .ireturn, 1)]
set_option maxRecDepth 100000 in
theorem zD_98_ok : zDo 98 zD_98 = true := by decide +kernel
theorem zc_98 : zcls 98 = 7 := by decide +kernel
theorem zm_98 : zml 98 = 2 := by decide +kernel
theorem zt_98 : zrt 98 = (some (.int)) := by decide +kernel
theorem zk_98 : zkd 98 = 1 ∧ znp 98 + 1 = 2 := by decide +kernel
theorem zr_98 (as : List zV) : zrk 98 as = 1 := by unfold zrk; rw [if_neg (by decide)]; decide +kernel
def lX_deeds (x1 : Int) (M : Nat → Nat → Int) : Option Int :=
    ((lT_hasName 3 x1 M).bind (fun v5 =>
    (if v5 = 0 then
    (some (-2 : Int))
    else
    ((rdI 36 (M 3 1) M).bind (fun v28 =>
    ((lT_contractsOf 3 x1 M).bind (fun v34 =>
    ((lJ_bitCount (zand v28 v34) M).bind (fun v38 =>
    (some v38))))))))))
set_option maxRecDepth 100000 in
theorem ok_lX_deeds {sc : zSc} {x1 : Int} {M : Nat → Nat → Int} {P : Int → (Nat → Nat → Int) → Prop} (h : zS (lX_deeds x1 M) (fun x => P x M)) : zCi sc 98 [.inr (.inr 0), .inl x1] M P := by
  have ea : zarg (zml 98) [.inr (.inr 0), .inl x1] = [some (.inr (.inr 0)), some (.inl x1)] := by rw [zm_98]; rfl
  unfold zCi zCw
  rw [ea, zr_98]
  have hq : 1 ≤ 1 := Nat.le_refl _
  unfold lX_deeds at h
  have h := zS_mono h (fun x hx => (⟨x, rfl, hx⟩ : ∃ y, (some (.inl x) : Option zV) = some (.inl y) ∧ P y M))
  skip
  refine E_aload_n (pc := 0) (zDk zD_98_ok 0 rfl) rfl ?_
  refine E_getR (pc := 1) (ci := 7) (f := 1) (r := 3) (zDk zD_98_ok 1 rfl) zc_98 (by decide +kernel) (by decide) zis_7_0 (by decide +kernel) (by decide) ?_
  refine E_iload_n (pc := 4) (zDk zD_98_ok 2 rfl) rfl ?_
  obtain ⟨v5, e5, h⟩ := zS_bind h
  refine E_virI (pc := 5) (c := 73) (r := 3) (as := [.inl x1]) (rest := []) (zDk zD_98_ok 3 rfl) zc_98 (by decide +kernel) zk_73 ⟨(Nat.le_of_ble_eq_true rfl), rfl, rfl⟩ (Nat.le_of_ble_eq_true rfl) (zr_73 _) (Nat.lt_of_lt_of_le (by decide) hq) (by rw [zm_73]; exact (Nat.le_of_ble_eq_true rfl)) ⟨zc_73, by decide⟩ zis_6_3 (ok_lT_hasName ⟨v5, e5, ?_⟩)
  refine E_if (pc := 8) (t := 14) (zDk zD_98_ok 4 rfl) rfl (fun hz => ?_) (fun hz => ?_)
  · have h := zS_f h (T_ne hz)
    refine E_aload_n (pc := 14) (zDk zD_98_ok 7 rfl) rfl ?_
    refine E_getR (pc := 15) (ci := 7) (f := 4) (r := 29) (zDk zD_98_ok 8 rfl) zc_98 (by decide +kernel) (by decide) zis_7_0 (by decide +kernel) (by decide) ?_
    refine E_getR (pc := 18) (ci := 1) (f := 7) (r := 36) (zDk zD_98_ok 9 rfl) zc_98 (by decide +kernel) (by decide) zis_1_29 (by decide +kernel) (by decide) ?_
    refine E_aload_n (pc := 21) (zDk zD_98_ok 10 rfl) rfl ?_
    refine E_getR (pc := 22) (ci := 7) (f := 1) (r := 3) (zDk zD_98_ok 11 rfl) zc_98 (by decide +kernel) (by decide) zis_7_0 (by decide +kernel) (by decide) ?_
    refine E_getI (pc := 25) (ci := 6) (f := 1) (zDk zD_98_ok 12 rfl) zc_98 (by decide +kernel) (by decide) zis_6_3 ?_
    obtain ⟨v28, e28, h⟩ := zS_bind h
    refine E_iaload (pc := 28) (zDk zD_98_ok 13 rfl) e28 ?_
    refine E_aload_n (pc := 29) (zDk zD_98_ok 14 rfl) rfl ?_
    refine E_getR (pc := 30) (ci := 7) (f := 1) (r := 3) (zDk zD_98_ok 15 rfl) zc_98 (by decide +kernel) (by decide) zis_7_0 (by decide +kernel) (by decide) ?_
    refine E_iload_n (pc := 33) (zDk zD_98_ok 16 rfl) rfl ?_
    obtain ⟨v34, e34, h⟩ := zS_bind h
    refine E_virI (pc := 34) (c := 75) (r := 3) (as := [.inl x1]) (rest := [.inl v28]) (zDk zD_98_ok 17 rfl) zc_98 (by decide +kernel) zk_75 ⟨(Nat.le_of_ble_eq_true rfl), rfl, rfl⟩ (Nat.le_of_ble_eq_true rfl) (zr_75 _) (Nat.lt_of_lt_of_le (by decide) hq) (by rw [zm_75]; exact (Nat.le_of_ble_eq_true rfl)) ⟨zc_75, by decide⟩ zis_6_3 (ok_lT_contractsOf ⟨v34, e34, ?_⟩)
    refine E_iand (pc := 37) (zDk zD_98_ok 18 rfl) ?_
    obtain ⟨v38, e38, h⟩ := zS_bind h
    refine E_staI (pc := 38) (c := 321) (as := [.inl (zand v28 v34)]) (rest := []) (zDk zD_98_ok 19 rfl) zc_98 (by decide +kernel) (by decide +kernel) zk_321 ⟨(Nat.le_of_ble_eq_true rfl), rfl, rfl⟩ (Nat.le_of_ble_eq_true rfl) (zr_321 _) (Nat.lt_of_lt_of_le (by decide) hq) (by rw [zm_321]; exact (Nat.le_of_ble_eq_true rfl)) (ok_lJ_bitCount ⟨v38, e38, ?_⟩)
    have h := zS_some h
    exact E_ireturn (pc := 41) (zDk zD_98_ok 20 rfl) zt_98 h
  · have h := zS_t h (F_ne hz)
    refine E_bipush (pc := 11) (zDk zD_98_ok 5 rfl) (by decide +kernel) ?_
    have h := zS_some h
    exact E_ireturn (pc := 13) (zDk zD_98_ok 6 rfl) zt_98 h
def zD_105 : List (Nat × Instr × Nat) := [(0, .aload_n (0), 1), (1, .getfield (19), 3), (4, .invokevirtual (194), 3), (7, .ifCond .eq (15), 3), (10, .aload_n (0), 1), (11, .getfield (38), 3), (14, .bipush (63), 2), (16, .invokevirtual (168), 3), (19, .goto (5), 3), (22, .bipush (-2), 2), (24, .ireturn, 1)]
set_option maxRecDepth 100000 in
theorem zD_105_ok : zDo 105 zD_105 = true := by decide +kernel
theorem zc_105 : zcls 105 = 7 := by decide +kernel
theorem zm_105 : zml 105 = 1 := by decide +kernel
theorem zt_105 : zrt 105 = (some (.int)) := by decide +kernel
theorem zk_105 : zkd 105 = 1 ∧ znp 105 + 1 = 1 := by decide +kernel
theorem zr_105 (as : List zV) : zrk 105 as = 1 := by unfold zrk; rw [if_neg (by decide)]; decide +kernel
def lX_first (M : Nat → Nat → Int) : Option Int :=
    ((lT_isThere 3 M).bind (fun v4 =>
    (if v4 = 0 then
    (some (-2 : Int))
    else
    ((lD_firstSigned 29 (63 : Int) M).bind (fun v16 =>
    (some v16))))))
set_option maxRecDepth 100000 in
theorem ok_lX_first {sc : zSc} {M : Nat → Nat → Int} {P : Int → (Nat → Nat → Int) → Prop} (h : zS (lX_first M) (fun x => P x M)) : zCi sc 105 [.inr (.inr 0)] M P := by
  have ea : zarg (zml 105) [.inr (.inr 0)] = [some (.inr (.inr 0))] := by rw [zm_105]; rfl
  unfold zCi zCw
  rw [ea, zr_105]
  have hq : 1 ≤ 1 := Nat.le_refl _
  unfold lX_first at h
  have h := zS_mono h (fun x hx => (⟨x, rfl, hx⟩ : ∃ y, (some (.inl x) : Option zV) = some (.inl y) ∧ P y M))
  skip
  refine E_aload_n (pc := 0) (zDk zD_105_ok 0 rfl) rfl ?_
  refine E_getR (pc := 1) (ci := 7) (f := 1) (r := 3) (zDk zD_105_ok 1 rfl) zc_105 (by decide +kernel) (by decide) zis_7_0 (by decide +kernel) (by decide) ?_
  obtain ⟨v4, e4, h⟩ := zS_bind h
  refine E_virI (pc := 4) (c := 69) (r := 3) (as := []) (rest := []) (zDk zD_105_ok 2 rfl) zc_105 (by decide +kernel) zk_69 ⟨(Nat.le_of_ble_eq_true rfl), rfl, rfl⟩ (Nat.le_of_ble_eq_true rfl) (zr_69 _) (Nat.lt_of_lt_of_le (by decide) hq) (by rw [zm_69]; exact (Nat.le_of_ble_eq_true rfl)) ⟨zc_69, by decide⟩ zis_6_3 (ok_lT_isThere ⟨v4, e4, ?_⟩)
  refine E_if (pc := 7) (t := 22) (zDk zD_105_ok 3 rfl) rfl (fun hz => ?_) (fun hz => ?_)
  · have h := zS_t h (T_eq hz)
    refine E_bipush (pc := 22) (zDk zD_105_ok 9 rfl) (by decide +kernel) ?_
    have h := zS_some h
    exact E_ireturn (pc := 24) (zDk zD_105_ok 10 rfl) zt_105 h
  · have h := zS_f h (F_eq hz)
    refine E_aload_n (pc := 10) (zDk zD_105_ok 4 rfl) rfl ?_
    refine E_getR (pc := 11) (ci := 7) (f := 4) (r := 29) (zDk zD_105_ok 5 rfl) zc_105 (by decide +kernel) (by decide) zis_7_0 (by decide +kernel) (by decide) ?_
    refine E_bipush (pc := 14) (zDk zD_105_ok 6 rfl) (by decide +kernel) ?_
    obtain ⟨v16, e16, h⟩ := zS_bind h
    refine E_virI (pc := 16) (c := 28) (r := 29) (as := [.inl (63 : Int)]) (rest := []) (zDk zD_105_ok 7 rfl) zc_105 (by decide +kernel) zk_28 ⟨(Nat.le_of_ble_eq_true rfl), rfl, rfl⟩ (Nat.le_of_ble_eq_true rfl) (zr_28 _) (Nat.lt_of_lt_of_le (by decide) hq) (by rw [zm_28]; exact (Nat.le_of_ble_eq_true rfl)) ⟨zc_28, by decide⟩ zis_1_29 (ok_lD_firstSigned ⟨v16, e16, ?_⟩)
    refine E_goto (pc := 19) (t := 24) (zDk zD_105_ok 8 rfl) rfl ?_
    have h := zS_some h
    exact E_ireturn (pc := 24) (zDk zD_105_ok 10 rfl) zt_105 h
def zD_126 : List (Nat × Instr × Nat) := [(0, .aload_n (0), 1), (1, .getfield (19), 3), (4, .invokevirtual (194), 3), (7, .ifCond .eq (20), 3), (10, .iload_n (1), 1), (11, .ifCond .lt (16), 3), (14, .iload_n (1), 1), (15, .iconst (1), 1), (16, .aload_n (0), 1), (17, .getfield (19), 3), (20, .getfield (281), 3), (23, .ishl, 1), (24, .if_icmp .lt (6), 3), (27, .bipush (-2), 2), (29, .ireturn, 1), (30, .iconst (0), 1), (31, .istore_n (2), 1), (32, .iconst (0), 1), (33, .istore_n (3), 1), (34, .iload_n (3), 1), (35, .aload_n (0), 1), (36, .getfield (19), 3), (39, .getfield (284), 3), (42, .if_icmp .ge (28), 3), (45, .aload_n (0), 1), (46, .getfield (19), 3), (49, .getfield (133), 3), (52, .iload_n (3), 1), (53, .iaload, 1), (54, .iload_n (1), 1), (55, .iconst (-1), 1), (56, .ixor, 1), (57, .iand, 1), (58, .ifCond .ne (6), 3), (61, .iinc (2) (1), 3), (64, .iinc (3) (1), 3), (67, .goto (-33), 3), (70, .iload_n (2), 1), (71, .ireturn, 1)]
set_option maxRecDepth 100000 in
theorem zD_126_ok : zDo 126 zD_126 = true := by decide +kernel
theorem zc_126 : zcls 126 = 7 := by decide +kernel
theorem zm_126 : zml 126 = 4 := by decide +kernel
theorem zt_126 : zrt 126 = (some (.int)) := by decide +kernel
theorem zk_126 : zkd 126 = 1 ∧ znp 126 + 1 = 2 := by decide +kernel
theorem zr_126 (as : List zV) : zrk 126 as = 1 := by unfold zrk; rw [if_neg (by decide)]; decide +kernel
def lX_worth_c34 (x1 : Int) (M : Nat → Nat → Int) : Nat → Int → Int → Option Int
  | 0, _, _ => none
  | n + 1, y2, y3 =>
    (if y3 < (M 3 8) then
    ((rdI 12 y3 M).bind (fun v53 =>
    (if (zand v53 (zxor x1 (-1 : Int))) = 0 then
    ((lX_worth_c34 x1 M n) (w32 (y2 + 1)) (w32 (y3 + 1)))
    else
    ((lX_worth_c34 x1 M n) y2 (w32 (y3 + 1))))))
    else
    (some y2))
set_option maxRecDepth 100000 in
theorem ok_lX_worth_c34 {sc : zSc} {q : Nat} {P : Option zV → (Nat → Nat → Int) → Prop} (hq : 1 ≤ q) (x1 : Int) (M : Nat → Nat → Int) : ∀ (n : Nat) (y2 : Int) (y3 : Int), zS (lX_worth_c34 x1 M n y2 y3) (fun x => P (some (.inl x)) M) → zWp sc q 126 34 [some (.inr (.inr 0)), some (.inl x1), some (.inl y2), some (.inl y3)] [] M P := by
  intro n
  induction n with
  | zero => intro y2 y3 h; exact (zS_none h).elim
  | succ n ih =>
    intro y2 y3 h
    rw [lX_worth_c34] at h
    refine E_iload_n (pc := 34) (zDk zD_126_ok 19 rfl) rfl ?_
    refine E_aload_n (pc := 35) (zDk zD_126_ok 20 rfl) rfl ?_
    refine E_getR (pc := 36) (ci := 7) (f := 1) (r := 3) (zDk zD_126_ok 21 rfl) zc_126 (by decide +kernel) (by decide) zis_7_0 (by decide +kernel) (by decide) ?_
    refine E_getI (pc := 39) (ci := 6) (f := 8) (zDk zD_126_ok 22 rfl) zc_126 (by decide +kernel) (by decide) zis_6_3 ?_
    refine E_icmp (pc := 42) (t := 70) (zDk zD_126_ok 23 rfl) rfl (fun hz => ?_) (fun hz => ?_)
    · have h := zS_f h (Int.not_lt.mpr (T_ge hz))
      refine E_iload_n (pc := 70) (zDk zD_126_ok 37 rfl) rfl ?_
      have h := zS_some h
      exact E_ireturn (pc := 71) (zDk zD_126_ok 38 rfl) zt_126 h
    · have h := zS_t h (F_ge hz)
      refine E_aload_n (pc := 45) (zDk zD_126_ok 24 rfl) rfl ?_
      refine E_getR (pc := 46) (ci := 7) (f := 1) (r := 3) (zDk zD_126_ok 25 rfl) zc_126 (by decide +kernel) (by decide) zis_7_0 (by decide +kernel) (by decide) ?_
      refine E_getR (pc := 49) (ci := 6) (f := 17) (r := 12) (zDk zD_126_ok 26 rfl) zc_126 (by decide +kernel) (by decide) zis_6_3 (by decide +kernel) (by decide) ?_
      refine E_iload_n (pc := 52) (zDk zD_126_ok 27 rfl) rfl ?_
      obtain ⟨v53, e53, h⟩ := zS_bind h
      refine E_iaload (pc := 53) (zDk zD_126_ok 28 rfl) e53 ?_
      refine E_iload_n (pc := 54) (zDk zD_126_ok 29 rfl) rfl ?_
      refine E_iconst (pc := 55) (zDk zD_126_ok 30 rfl) (by decide +kernel) ?_
      refine E_ixor (pc := 56) (zDk zD_126_ok 31 rfl) ?_
      refine E_iand (pc := 57) (zDk zD_126_ok 32 rfl) ?_
      refine E_if (pc := 58) (t := 64) (zDk zD_126_ok 33 rfl) rfl (fun hz => ?_) (fun hz => ?_)
      · have h := zS_f h (T_ne hz)
        refine W_iinc (pc := 64) (L' := [some (.inr (.inr 0)), some (.inl x1), some (.inl y2), some (.inl (w32 (y3 + 1)))]) (zDk zD_126_ok 35 rfl) rfl zm_126 (by decide) rfl ?_
        refine E_goto (pc := 67) (t := 34) (zDk zD_126_ok 36 rfl) rfl ?_
        exact (ih) y2 (w32 (y3 + 1)) h
      · have h := zS_t h (F_ne hz)
        refine W_iinc (pc := 61) (L' := [some (.inr (.inr 0)), some (.inl x1), some (.inl (w32 (y2 + 1))), some (.inl y3)]) (zDk zD_126_ok 34 rfl) rfl zm_126 (by decide) rfl ?_
        refine W_iinc (pc := 64) (L' := [some (.inr (.inr 0)), some (.inl x1), some (.inl (w32 (y2 + 1))), some (.inl (w32 (y3 + 1)))]) (zDk zD_126_ok 35 rfl) rfl zm_126 (by decide) rfl ?_
        refine E_goto (pc := 67) (t := 34) (zDk zD_126_ok 36 rfl) rfl ?_
        exact (ih) (w32 (y2 + 1)) (w32 (y3 + 1)) h
def lX_worth (x1 : Int) (M : Nat → Nat → Int) : Option Int :=
    ((lT_isThere 3 M).bind (fun v4 =>
    (if v4 = 0 then
    (some (-2 : Int))
    else
    (if x1 < 0 then
    (some (-2 : Int))
    else
    (if x1 < (zshl (1 : Int) (M 3 7)) then
    (lX_worth_c34 x1 M zN (0 : Int) (0 : Int))
    else
    (some (-2 : Int)))))))
set_option maxRecDepth 100000 in
theorem ok_lX_worth {sc : zSc} {x1 : Int} {M : Nat → Nat → Int} {P : Int → (Nat → Nat → Int) → Prop} (h : zS (lX_worth x1 M) (fun x => P x M)) : zCi sc 126 [.inr (.inr 0), .inl x1] M P := by
  have ea : zarg (zml 126) [.inr (.inr 0), .inl x1] = [some (.inr (.inr 0)), some (.inl x1), none, none] := by rw [zm_126]; rfl
  unfold zCi zCw
  rw [ea, zr_126]
  have hq : 1 ≤ 1 := Nat.le_refl _
  unfold lX_worth at h
  have h := zS_mono h (fun x hx => (⟨x, rfl, hx⟩ : ∃ y, (some (.inl x) : Option zV) = some (.inl y) ∧ P y M))
  skip
  refine E_aload_n (pc := 0) (zDk zD_126_ok 0 rfl) rfl ?_
  refine E_getR (pc := 1) (ci := 7) (f := 1) (r := 3) (zDk zD_126_ok 1 rfl) zc_126 (by decide +kernel) (by decide) zis_7_0 (by decide +kernel) (by decide) ?_
  obtain ⟨v4, e4, h⟩ := zS_bind h
  refine E_virI (pc := 4) (c := 69) (r := 3) (as := []) (rest := []) (zDk zD_126_ok 2 rfl) zc_126 (by decide +kernel) zk_69 ⟨(Nat.le_of_ble_eq_true rfl), rfl, rfl⟩ (Nat.le_of_ble_eq_true rfl) (zr_69 _) (Nat.lt_of_lt_of_le (by decide) hq) (by rw [zm_69]; exact (Nat.le_of_ble_eq_true rfl)) ⟨zc_69, by decide⟩ zis_6_3 (ok_lT_isThere ⟨v4, e4, ?_⟩)
  refine E_if (pc := 7) (t := 27) (zDk zD_126_ok 3 rfl) rfl (fun hz => ?_) (fun hz => ?_)
  · have h := zS_t h (T_eq hz)
    refine E_bipush (pc := 27) (zDk zD_126_ok 13 rfl) (by decide +kernel) ?_
    have h := zS_some h
    exact E_ireturn (pc := 29) (zDk zD_126_ok 14 rfl) zt_126 h
  · have h := zS_f h (F_eq hz)
    refine E_iload_n (pc := 10) (zDk zD_126_ok 4 rfl) rfl ?_
    refine E_if (pc := 11) (t := 27) (zDk zD_126_ok 5 rfl) rfl (fun hz => ?_) (fun hz => ?_)
    · have h := zS_t h (T_lt hz)
      refine E_bipush (pc := 27) (zDk zD_126_ok 13 rfl) (by decide +kernel) ?_
      have h := zS_some h
      exact E_ireturn (pc := 29) (zDk zD_126_ok 14 rfl) zt_126 h
    · have h := zS_f h (Int.not_lt.mpr (F_lt hz))
      refine E_iload_n (pc := 14) (zDk zD_126_ok 6 rfl) rfl ?_
      refine E_iconst (pc := 15) (zDk zD_126_ok 7 rfl) (by decide +kernel) ?_
      refine E_aload_n (pc := 16) (zDk zD_126_ok 8 rfl) rfl ?_
      refine E_getR (pc := 17) (ci := 7) (f := 1) (r := 3) (zDk zD_126_ok 9 rfl) zc_126 (by decide +kernel) (by decide) zis_7_0 (by decide +kernel) (by decide) ?_
      refine E_getI (pc := 20) (ci := 6) (f := 7) (zDk zD_126_ok 10 rfl) zc_126 (by decide +kernel) (by decide) zis_6_3 ?_
      refine E_ishl (pc := 23) (zDk zD_126_ok 11 rfl) ?_
      refine E_icmp (pc := 24) (t := 30) (zDk zD_126_ok 12 rfl) rfl (fun hz => ?_) (fun hz => ?_)
      · have h := zS_t h (T_lt hz)
        refine E_iconst (pc := 30) (zDk zD_126_ok 15 rfl) (by decide +kernel) ?_
        refine W_istore_n (pc := 31) (L' := [some (.inr (.inr 0)), some (.inl x1), some (.inl (0 : Int)), none]) (zDk zD_126_ok 16 rfl) zm_126 (by decide) rfl ?_
        refine E_iconst (pc := 32) (zDk zD_126_ok 17 rfl) (by decide +kernel) ?_
        refine W_istore_n (pc := 33) (L' := [some (.inr (.inr 0)), some (.inl x1), some (.inl (0 : Int)), some (.inl (0 : Int))]) (zDk zD_126_ok 18 rfl) zm_126 (by decide) rfl ?_
        exact ok_lX_worth_c34 hq x1 M zN (0 : Int) (0 : Int) h
      · have h := zS_f h (Int.not_lt.mpr (F_lt hz))
        refine E_bipush (pc := 27) (zDk zD_126_ok 13 rfl) (by decide +kernel) ?_
        have h := zS_some h
        exact E_ireturn (pc := 29) (zDk zD_126_ok 14 rfl) zt_126 h
def zD_138 : List (Nat × Instr × Nat) := [(0, .aload_n (0), 1), (1, .getfield (19), 3), (4, .iload_n (1), 1), (5, .invokevirtual (112), 3), (8, .ifCond .eq (13), 3), (11, .iload_n (2), 1), (12, .ifCond .lt (9), 3), (15, .iload_n (2), 1), (16, .bipush (59), 2), (18, .if_icmp .le (6), 3), (21, .bipush (-2), 2), (23, .ireturn, 1), (24, .aload_n (0), 1), (25, .getfield (29), 3), (28, .getfield (313), 3), (31, .ifCond .le (6), 3), (34, .bipush (-5), 2), (36, .ireturn, 1), (37, .aload_n (0), 1), (38, .getfield (19), 3), (41, .getfield (121), 3), (44, .iload_n (1), 1), (45, .iaload, 1), (46, .istore_n (3), 1), (47, .aload_n (0), 1), (48, .getfield (19), 3), (51, .getfield (121), 3), (54, .iload_n (1), 1), (55, .iload_n (2), 1), (56, .iastore, 1), (57, .iload_n (3), 1), (58, .ireturn, 1)]
set_option maxRecDepth 100000 in
theorem zD_138_ok : zDo 138 zD_138 = true := by decide +kernel
theorem zc_138 : zcls 138 = 7 := by decide +kernel
theorem zm_138 : zml 138 = 4 := by decide +kernel
theorem zt_138 : zrt 138 = (some (.int)) := by decide +kernel
theorem zk_138 : zkd 138 = 1 ∧ znp 138 + 1 = 3 := by decide +kernel
theorem zr_138 (as : List zV) : zrk 138 as = 1 := by unfold zrk; rw [if_neg (by decide)]; decide +kernel
def lX_rate (x1 : Int) (x2 : Int) (M : Nat → Nat → Int) : Option (Int × (Nat → Nat → Int)) :=
    ((lT_hasName 3 x1 M).bind (fun v5 =>
    (if v5 = 0 then
    (some ((-2 : Int), M))
    else
    (if x2 < 0 then
    (some ((-2 : Int), M))
    else
    (if (59 : Int) < x2 then
    (some ((-2 : Int), M))
    else
    (if 0 < (M 23 0) then
    (some ((-5 : Int), M))
    else
    ((rdI 9 x1 M).bind (fun v45 =>
    ((wrI 9 x1 x2 M).bind (fun M56 =>
    (some (v45, M56))))))))))))
set_option maxRecDepth 100000 in
theorem ok_lX_rate {sc : zSc} {x1 : Int} {x2 : Int} {M : Nat → Nat → Int} {P : Int → (Nat → Nat → Int) → Prop} (h : zS (lX_rate x1 x2 M) (fun r => P r.1 r.2)) : zCi sc 138 [.inr (.inr 0), .inl x1, .inl x2] M P := by
  have ea : zarg (zml 138) [.inr (.inr 0), .inl x1, .inl x2] = [some (.inr (.inr 0)), some (.inl x1), some (.inl x2), none] := by rw [zm_138]; rfl
  unfold zCi zCw
  rw [ea, zr_138]
  have hq : 1 ≤ 1 := Nat.le_refl _
  unfold lX_rate at h
  have h := zS_mono h (fun x hx => (⟨x.1, rfl, hx⟩ : ∃ y, (some (.inl x.1) : Option zV) = some (.inl y) ∧ P y x.2))
  skip
  refine E_aload_n (pc := 0) (zDk zD_138_ok 0 rfl) rfl ?_
  refine E_getR (pc := 1) (ci := 7) (f := 1) (r := 3) (zDk zD_138_ok 1 rfl) zc_138 (by decide +kernel) (by decide) zis_7_0 (by decide +kernel) (by decide) ?_
  refine E_iload_n (pc := 4) (zDk zD_138_ok 2 rfl) rfl ?_
  obtain ⟨v5, e5, h⟩ := zS_bind h
  refine E_virI (pc := 5) (c := 73) (r := 3) (as := [.inl x1]) (rest := []) (zDk zD_138_ok 3 rfl) zc_138 (by decide +kernel) zk_73 ⟨(Nat.le_of_ble_eq_true rfl), rfl, rfl⟩ (Nat.le_of_ble_eq_true rfl) (zr_73 _) (Nat.lt_of_lt_of_le (by decide) hq) (by rw [zm_73]; exact (Nat.le_of_ble_eq_true rfl)) ⟨zc_73, by decide⟩ zis_6_3 (ok_lT_hasName ⟨v5, e5, ?_⟩)
  refine E_if (pc := 8) (t := 21) (zDk zD_138_ok 4 rfl) rfl (fun hz => ?_) (fun hz => ?_)
  · have h := zS_t h (T_eq hz)
    refine E_bipush (pc := 21) (zDk zD_138_ok 10 rfl) (by decide +kernel) ?_
    have h := zS_some h
    exact E_ireturn (pc := 23) (zDk zD_138_ok 11 rfl) zt_138 h
  · have h := zS_f h (F_eq hz)
    refine E_iload_n (pc := 11) (zDk zD_138_ok 5 rfl) rfl ?_
    refine E_if (pc := 12) (t := 21) (zDk zD_138_ok 6 rfl) rfl (fun hz => ?_) (fun hz => ?_)
    · have h := zS_t h (T_lt hz)
      refine E_bipush (pc := 21) (zDk zD_138_ok 10 rfl) (by decide +kernel) ?_
      have h := zS_some h
      exact E_ireturn (pc := 23) (zDk zD_138_ok 11 rfl) zt_138 h
    · have h := zS_f h (Int.not_lt.mpr (F_lt hz))
      refine E_iload_n (pc := 15) (zDk zD_138_ok 7 rfl) rfl ?_
      refine E_bipush (pc := 16) (zDk zD_138_ok 8 rfl) (by decide +kernel) ?_
      refine E_icmp (pc := 18) (t := 24) (zDk zD_138_ok 9 rfl) rfl (fun hz => ?_) (fun hz => ?_)
      · have h := zS_f h (Int.not_lt.mpr (T_le hz))
        refine E_aload_n (pc := 24) (zDk zD_138_ok 12 rfl) rfl ?_
        refine E_getR (pc := 25) (ci := 7) (f := 3) (r := 23) (zDk zD_138_ok 13 rfl) zc_138 (by decide +kernel) (by decide) zis_7_0 (by decide +kernel) (by decide) ?_
        refine E_getI (pc := 28) (ci := 0) (f := 0) (zDk zD_138_ok 14 rfl) zc_138 (by decide +kernel) (by decide) zis_0_23 ?_
        refine E_if (pc := 31) (t := 37) (zDk zD_138_ok 15 rfl) rfl (fun hz => ?_) (fun hz => ?_)
        · have h := zS_f h (Int.not_lt.mpr (T_le hz))
          refine E_aload_n (pc := 37) (zDk zD_138_ok 18 rfl) rfl ?_
          refine E_getR (pc := 38) (ci := 7) (f := 1) (r := 3) (zDk zD_138_ok 19 rfl) zc_138 (by decide +kernel) (by decide) zis_7_0 (by decide +kernel) (by decide) ?_
          refine E_getR (pc := 41) (ci := 6) (f := 14) (r := 9) (zDk zD_138_ok 20 rfl) zc_138 (by decide +kernel) (by decide) zis_6_3 (by decide +kernel) (by decide) ?_
          refine E_iload_n (pc := 44) (zDk zD_138_ok 21 rfl) rfl ?_
          obtain ⟨v45, e45, h⟩ := zS_bind h
          refine E_iaload (pc := 45) (zDk zD_138_ok 22 rfl) e45 ?_
          refine W_istore_n (pc := 46) (L' := [some (.inr (.inr 0)), some (.inl x1), some (.inl x2), some (.inl v45)]) (zDk zD_138_ok 23 rfl) zm_138 (by decide) rfl ?_
          refine E_aload_n (pc := 47) (zDk zD_138_ok 24 rfl) rfl ?_
          refine E_getR (pc := 48) (ci := 7) (f := 1) (r := 3) (zDk zD_138_ok 25 rfl) zc_138 (by decide +kernel) (by decide) zis_7_0 (by decide +kernel) (by decide) ?_
          refine E_getR (pc := 51) (ci := 6) (f := 14) (r := 9) (zDk zD_138_ok 26 rfl) zc_138 (by decide +kernel) (by decide) zis_6_3 (by decide +kernel) (by decide) ?_
          refine E_iload_n (pc := 54) (zDk zD_138_ok 27 rfl) rfl ?_
          refine E_iload_n (pc := 55) (zDk zD_138_ok 28 rfl) rfl ?_
          obtain ⟨M56, e56, h⟩ := zS_bind h
          refine E_iastore (pc := 56) (zDk zD_138_ok 29 rfl) e56 ?_
          refine E_iload_n (pc := 57) (zDk zD_138_ok 30 rfl) rfl ?_
          have h := zS_some h
          exact E_ireturn (pc := 58) (zDk zD_138_ok 31 rfl) zt_138 h
        · have h := zS_t h (F_le hz)
          refine E_bipush (pc := 34) (zDk zD_138_ok 16 rfl) (by decide +kernel) ?_
          have h := zS_some h
          exact E_ireturn (pc := 36) (zDk zD_138_ok 17 rfl) zt_138 h
      · have h := zS_t h (F_le hz)
        refine E_bipush (pc := 21) (zDk zD_138_ok 10 rfl) (by decide +kernel) ?_
        have h := zS_some h
        exact E_ireturn (pc := 23) (zDk zD_138_ok 11 rfl) zt_138 h
def zD_143 : List (Nat × Instr × Nat) := [(0, .iload_n (1), 1), (1, .invokestatic (353), 3), (4, .ifCond .ne (6), 3), (7, .bipush (-2), 2), (9, .ireturn, 1), (10, .aload_n (0), 1), (11, .getfield (55), 3), (14, .iload_n (1), 1), (15, .invokevirtual (360), 3), (18, .ifCond .ne (6), 3), (21, .bipush (-6), 2), (23, .ireturn, 1), (24, .iload_n (2), 1), (25, .ifCond .lt (16), 3), (28, .iload_n (2), 1), (29, .aload_n (0), 1), (30, .getfield (55), 3), (33, .getfield (363), 3), (36, .iload_n (1), 1), (37, .iaload, 1), (38, .if_icmp .lt (6), 3), (41, .bipush (-7), 2), (43, .ireturn, 1), (44, .aload_n (0), 1), (45, .getfield (55), 3), (48, .getfield (366), 3), (51, .iload_n (1), 1), (52, .aaload, 1), (53, .iload_n (2), 1), (54, .aload_n (0), 1), (55, .getfield (55), 3), (58, .getfield (370), 3), (61, .iload_n (1), 1), (62, .iaload, 1), (63, .lload_n (3), 1), (64, .invokestatic (373), 3), (67, .lastore, 1), (68, .iconst (0), 1), (69, .ireturn, 1)]
set_option maxRecDepth 100000 in
theorem zD_143_ok : zDo 143 zD_143 = true := by decide +kernel
theorem zc_143 : zcls 143 = 7 := by decide +kernel
theorem zm_143 : zml 143 = 5 := by decide +kernel
theorem zt_143 : zrt 143 = (some (.int)) := by decide +kernel
theorem zk_143 : zkd 143 = 1 ∧ znp 143 + 1 = 4 := by decide +kernel
theorem zr_143 (as : List zV) : zrk 143 as = 1 := by unfold zrk; rw [if_neg (by decide)]; decide +kernel
def lX_write (x1 : Int) (x2 : Int) (x3 : Int) (M : Nat → Nat → Int) : Option (Int × (Nat → Nat → Int)) :=
    ((lW_isSlot x1 M).bind (fun v1 =>
    (if v1 = 0 then
    (some ((-2 : Int), M))
    else
    ((lW_isFilled x1 M).bind (fun v15 =>
    (if v15 = 0 then
    (some ((-6 : Int), M))
    else
    (if x2 < 0 then
    (some ((-7 : Int), M))
    else
    ((rdI 99 x1 M).bind (fun v37 =>
    (if x2 < v37 then
    ((rdA 100 x1).bind (fun v52 =>
    ((rdI 98 x1 M).bind (fun v62 =>
    ((lW_cutTo v62 x3 M).bind (fun v64 =>
    ((wrL v52 x2 v64 M).bind (fun M67 =>
    (some ((0 : Int), M67))))))))))
    else
    (some ((-7 : Int), M))))))))))))
set_option maxRecDepth 100000 in
theorem ok_lX_write {sc : zSc} {x1 : Int} {x2 : Int} {x3 : Int} {M : Nat → Nat → Int} {P : Int → (Nat → Nat → Int) → Prop} (h : zS (lX_write x1 x2 x3 M) (fun r => P r.1 r.2)) : zCi sc 143 [.inr (.inr 0), .inl x1, .inl x2, .inr (.inl x3)] M P := by
  have ea : zarg (zml 143) [.inr (.inr 0), .inl x1, .inl x2, .inr (.inl x3)] = [some (.inr (.inr 0)), some (.inl x1), some (.inl x2), some (.inr (.inl x3)), none] := by rw [zm_143]; rfl
  unfold zCi zCw
  rw [ea, zr_143]
  have hq : 1 ≤ 1 := Nat.le_refl _
  unfold lX_write at h
  have h := zS_mono h (fun x hx => (⟨x.1, rfl, hx⟩ : ∃ y, (some (.inl x.1) : Option zV) = some (.inl y) ∧ P y x.2))
  skip
  refine E_iload_n (pc := 0) (zDk zD_143_ok 0 rfl) rfl ?_
  obtain ⟨v1, e1, h⟩ := zS_bind h
  refine E_staI (pc := 1) (c := 59) (as := [.inl x1]) (rest := []) (zDk zD_143_ok 1 rfl) zc_143 (by decide +kernel) (by decide +kernel) zk_59 ⟨(Nat.le_of_ble_eq_true rfl), rfl, rfl⟩ (Nat.le_of_ble_eq_true rfl) (zr_59 _) (Nat.lt_of_lt_of_le (by decide) hq) (by rw [zm_59]; exact (Nat.le_of_ble_eq_true rfl)) (ok_lW_isSlot ⟨v1, e1, ?_⟩)
  refine E_if (pc := 4) (t := 10) (zDk zD_143_ok 2 rfl) rfl (fun hz => ?_) (fun hz => ?_)
  · have h := zS_f h (T_ne hz)
    refine E_aload_n (pc := 10) (zDk zD_143_ok 5 rfl) rfl ?_
    refine E_getR (pc := 11) (ci := 7) (f := 7) (r := 97) (zDk zD_143_ok 6 rfl) zc_143 (by decide +kernel) (by decide) zis_7_0 (by decide +kernel) (by decide) ?_
    refine E_iload_n (pc := 14) (zDk zD_143_ok 7 rfl) rfl ?_
    obtain ⟨v15, e15, h⟩ := zS_bind h
    refine E_virI (pc := 15) (c := 60) (r := 97) (as := [.inl x1]) (rest := []) (zDk zD_143_ok 8 rfl) zc_143 (by decide +kernel) zk_60 ⟨(Nat.le_of_ble_eq_true rfl), rfl, rfl⟩ (Nat.le_of_ble_eq_true rfl) (zr_60 _) (Nat.lt_of_lt_of_le (by decide) hq) (by rw [zm_60]; exact (Nat.le_of_ble_eq_true rfl)) ⟨zc_60, by decide⟩ zis_5_97 (ok_lW_isFilled ⟨v15, e15, ?_⟩)
    refine E_if (pc := 18) (t := 24) (zDk zD_143_ok 9 rfl) rfl (fun hz => ?_) (fun hz => ?_)
    · have h := zS_f h (T_ne hz)
      refine E_iload_n (pc := 24) (zDk zD_143_ok 12 rfl) rfl ?_
      refine E_if (pc := 25) (t := 41) (zDk zD_143_ok 13 rfl) rfl (fun hz => ?_) (fun hz => ?_)
      · have h := zS_t h (T_lt hz)
        refine E_bipush (pc := 41) (zDk zD_143_ok 21 rfl) (by decide +kernel) ?_
        have h := zS_some h
        exact E_ireturn (pc := 43) (zDk zD_143_ok 22 rfl) zt_143 h
      · have h := zS_f h (Int.not_lt.mpr (F_lt hz))
        refine E_iload_n (pc := 28) (zDk zD_143_ok 14 rfl) rfl ?_
        refine E_aload_n (pc := 29) (zDk zD_143_ok 15 rfl) rfl ?_
        refine E_getR (pc := 30) (ci := 7) (f := 7) (r := 97) (zDk zD_143_ok 16 rfl) zc_143 (by decide +kernel) (by decide) zis_7_0 (by decide +kernel) (by decide) ?_
        refine E_getR (pc := 33) (ci := 5) (f := 1) (r := 99) (zDk zD_143_ok 17 rfl) zc_143 (by decide +kernel) (by decide) zis_5_97 (by decide +kernel) (by decide) ?_
        refine E_iload_n (pc := 36) (zDk zD_143_ok 18 rfl) rfl ?_
        obtain ⟨v37, e37, h⟩ := zS_bind h
        refine E_iaload (pc := 37) (zDk zD_143_ok 19 rfl) e37 ?_
        refine E_icmp (pc := 38) (t := 44) (zDk zD_143_ok 20 rfl) rfl (fun hz => ?_) (fun hz => ?_)
        · have h := zS_t h (T_lt hz)
          refine E_aload_n (pc := 44) (zDk zD_143_ok 23 rfl) rfl ?_
          refine E_getR (pc := 45) (ci := 7) (f := 7) (r := 97) (zDk zD_143_ok 24 rfl) zc_143 (by decide +kernel) (by decide) zis_7_0 (by decide +kernel) (by decide) ?_
          refine E_getR (pc := 48) (ci := 5) (f := 2) (r := 100) (zDk zD_143_ok 25 rfl) zc_143 (by decide +kernel) (by decide) zis_5_97 (by decide +kernel) (by decide) ?_
          refine E_iload_n (pc := 51) (zDk zD_143_ok 26 rfl) rfl ?_
          obtain ⟨v52, e52, h⟩ := zS_bind h
          refine E_aaload (pc := 52) (zDk zD_143_ok 27 rfl) e52 ?_
          refine E_iload_n (pc := 53) (zDk zD_143_ok 28 rfl) rfl ?_
          refine E_aload_n (pc := 54) (zDk zD_143_ok 29 rfl) rfl ?_
          refine E_getR (pc := 55) (ci := 7) (f := 7) (r := 97) (zDk zD_143_ok 30 rfl) zc_143 (by decide +kernel) (by decide) zis_7_0 (by decide +kernel) (by decide) ?_
          refine E_getR (pc := 58) (ci := 5) (f := 0) (r := 98) (zDk zD_143_ok 31 rfl) zc_143 (by decide +kernel) (by decide) zis_5_97 (by decide +kernel) (by decide) ?_
          refine E_iload_n (pc := 61) (zDk zD_143_ok 32 rfl) rfl ?_
          obtain ⟨v62, e62, h⟩ := zS_bind h
          refine E_iaload (pc := 62) (zDk zD_143_ok 33 rfl) e62 ?_
          refine E_lload_n (pc := 63) (zDk zD_143_ok 34 rfl) rfl ?_
          obtain ⟨v64, e64, h⟩ := zS_bind h
          refine E_staL (pc := 64) (c := 62) (as := [.inl v62, .inr (.inl x3)]) (rest := [.inl x2, .inr (.inr v52)]) (zDk zD_143_ok 35 rfl) zc_143 (by decide +kernel) (by decide +kernel) zk_62 ⟨(Nat.le_of_ble_eq_true rfl), rfl, rfl⟩ (Nat.le_of_ble_eq_true rfl) (zr_62 _) (Nat.lt_of_lt_of_le (by decide) hq) (by rw [zm_62]; exact (Nat.le_of_ble_eq_true rfl)) (ok_lW_cutTo ⟨v64, e64, ?_⟩)
          obtain ⟨M67, e67, h⟩ := zS_bind h
          refine E_lastore (pc := 67) (zDk zD_143_ok 36 rfl) e67 ?_
          refine E_iconst (pc := 68) (zDk zD_143_ok 37 rfl) (by decide +kernel) ?_
          have h := zS_some h
          exact E_ireturn (pc := 69) (zDk zD_143_ok 38 rfl) zt_143 h
        · have h := zS_f h (Int.not_lt.mpr (F_lt hz))
          refine E_bipush (pc := 41) (zDk zD_143_ok 21 rfl) (by decide +kernel) ?_
          have h := zS_some h
          exact E_ireturn (pc := 43) (zDk zD_143_ok 22 rfl) zt_143 h
    · have h := zS_t h (F_ne hz)
      refine E_bipush (pc := 21) (zDk zD_143_ok 10 rfl) (by decide +kernel) ?_
      have h := zS_some h
      exact E_ireturn (pc := 23) (zDk zD_143_ok 11 rfl) zt_143 h
  · have h := zS_t h (F_ne hz)
    refine E_bipush (pc := 7) (zDk zD_143_ok 3 rfl) (by decide +kernel) ?_
    have h := zS_some h
    exact E_ireturn (pc := 9) (zDk zD_143_ok 4 rfl) zt_143 h
def zD_144 : List (Nat × Instr × Nat) := [(0, .iload_n (1), 1), (1, .invokestatic (353), 3), (4, .ifCond .eq (10), 3), (7, .iload_n (3), 1), (8, .invokestatic (353), 3), (11, .ifCond .ne (6), 3), (14, .bipush (-2), 2), (16, .ireturn, 1), (17, .aload_n (0), 1), (18, .getfield (55), 3), (21, .iload_n (1), 1), (22, .invokevirtual (360), 3), (25, .ifCond .eq (14), 3), (28, .aload_n (0), 1), (29, .getfield (55), 3), (32, .iload_n (3), 1), (33, .invokevirtual (360), 3), (36, .ifCond .ne (6), 3), (39, .bipush (-6), 2), (41, .ireturn, 1), (42, .aload_n (0), 1), (43, .getfield (55), 3), (46, .getfield (370), 3), (49, .iload_n (1), 1), (50, .iaload, 1), (51, .aload_n (0), 1), (52, .getfield (55), 3), (55, .getfield (370), 3), (58, .iload_n (3), 1), (59, .iaload, 1), (60, .if_icmp .eq (6), 3), (63, .bipush (-8), 2), (65, .ireturn, 1), (66, .aload_n (0), 1), (67, .getfield (55), 3), (70, .iload_n (1), 1), (71, .iload_n (2), 1), (72, .iload (5), 2), (74, .invokevirtual (377), 3), (77, .ifCond .eq (18), 3), (80, .aload_n (0), 1), (81, .getfield (55), 3), (84, .iload_n (3), 1), (85, .iload (4), 2), (87, .iload (5), 2), (89, .invokevirtual (377), 3), (92, .ifCond .ne (6), 3), (95, .bipush (-7), 2), (97, .ireturn, 1), (98, .aload_n (0), 1), (99, .getfield (55), 3), (102, .getfield (366), 3), (105, .iload_n (1), 1), (106, .aaload, 1), (107, .iload_n (2), 1), (108, .aload_n (0), 1), (109, .getfield (55), 3), (112, .getfield (366), 3), (115, .iload_n (3), 1), (116, .aaload, 1), (117, .iload (4), 2), (119, .iload (5), 2), (121, .invokestatic (381), 3), (124, .iconst (0), 1), (125, .ireturn, 1)]
set_option maxRecDepth 100000 in
theorem zD_144_ok : zDo 144 zD_144 = true := by decide +kernel
theorem zc_144 : zcls 144 = 7 := by decide +kernel
theorem zm_144 : zml 144 = 6 := by decide +kernel
theorem zt_144 : zrt 144 = (some (.int)) := by decide +kernel
theorem zk_144 : zkd 144 = 1 ∧ znp 144 + 1 = 6 := by decide +kernel
theorem zr_144 (as : List zV) : zrk 144 as = 1 := by unfold zrk; rw [if_neg (by decide)]; decide +kernel
def lX_paste (x1 : Int) (x2 : Int) (x3 : Int) (x4 : Int) (x5 : Int) (M : Nat → Nat → Int) : Option (Int × (Nat → Nat → Int)) :=
    ((lW_isSlot x1 M).bind (fun v1 =>
    (if v1 = 0 then
    (some ((-2 : Int), M))
    else
    ((lW_isSlot x3 M).bind (fun v8 =>
    (if v8 = 0 then
    (some ((-2 : Int), M))
    else
    ((lW_isFilled x1 M).bind (fun v22 =>
    (if v22 = 0 then
    (some ((-6 : Int), M))
    else
    ((lW_isFilled x3 M).bind (fun v33 =>
    (if v33 = 0 then
    (some ((-6 : Int), M))
    else
    ((rdI 98 x1 M).bind (fun v50 =>
    ((rdI 98 x3 M).bind (fun v59 =>
    (if v50 = v59 then
    ((lW_holds x1 x2 x5 M).bind (fun v74 =>
    (if v74 = 0 then
    (some ((-7 : Int), M))
    else
    ((lW_holds x3 x4 x5 M).bind (fun v89 =>
    (if v89 = 0 then
    (some ((-7 : Int), M))
    else
    ((rdA 100 x1).bind (fun v106 =>
    ((rdA 100 x3).bind (fun v116 =>
    ((cpA v106 x2 v116 x4 x5 M).bind (fun M121 =>
    (some ((0 : Int), M121))))))))))))))
    else
    (some ((-8 : Int), M)))))))))))))))))))
set_option maxRecDepth 100000 in
theorem ok_lX_paste {sc : zSc} {x1 : Int} {x2 : Int} {x3 : Int} {x4 : Int} {x5 : Int} {M : Nat → Nat → Int} {P : Int → (Nat → Nat → Int) → Prop} (h : zS (lX_paste x1 x2 x3 x4 x5 M) (fun r => P r.1 r.2)) : zCi sc 144 [.inr (.inr 0), .inl x1, .inl x2, .inl x3, .inl x4, .inl x5] M P := by
  have ea : zarg (zml 144) [.inr (.inr 0), .inl x1, .inl x2, .inl x3, .inl x4, .inl x5] = [some (.inr (.inr 0)), some (.inl x1), some (.inl x2), some (.inl x3), some (.inl x4), some (.inl x5)] := by rw [zm_144]; rfl
  unfold zCi zCw
  rw [ea, zr_144]
  have hq : 1 ≤ 1 := Nat.le_refl _
  unfold lX_paste at h
  have h := zS_mono h (fun x hx => (⟨x.1, rfl, hx⟩ : ∃ y, (some (.inl x.1) : Option zV) = some (.inl y) ∧ P y x.2))
  skip
  refine E_iload_n (pc := 0) (zDk zD_144_ok 0 rfl) rfl ?_
  obtain ⟨v1, e1, h⟩ := zS_bind h
  refine E_staI (pc := 1) (c := 59) (as := [.inl x1]) (rest := []) (zDk zD_144_ok 1 rfl) zc_144 (by decide +kernel) (by decide +kernel) zk_59 ⟨(Nat.le_of_ble_eq_true rfl), rfl, rfl⟩ (Nat.le_of_ble_eq_true rfl) (zr_59 _) (Nat.lt_of_lt_of_le (by decide) hq) (by rw [zm_59]; exact (Nat.le_of_ble_eq_true rfl)) (ok_lW_isSlot ⟨v1, e1, ?_⟩)
  refine E_if (pc := 4) (t := 14) (zDk zD_144_ok 2 rfl) rfl (fun hz => ?_) (fun hz => ?_)
  · have h := zS_t h (T_eq hz)
    refine E_bipush (pc := 14) (zDk zD_144_ok 6 rfl) (by decide +kernel) ?_
    have h := zS_some h
    exact E_ireturn (pc := 16) (zDk zD_144_ok 7 rfl) zt_144 h
  · have h := zS_f h (F_eq hz)
    refine E_iload_n (pc := 7) (zDk zD_144_ok 3 rfl) rfl ?_
    obtain ⟨v8, e8, h⟩ := zS_bind h
    refine E_staI (pc := 8) (c := 59) (as := [.inl x3]) (rest := []) (zDk zD_144_ok 4 rfl) zc_144 (by decide +kernel) (by decide +kernel) zk_59 ⟨(Nat.le_of_ble_eq_true rfl), rfl, rfl⟩ (Nat.le_of_ble_eq_true rfl) (zr_59 _) (Nat.lt_of_lt_of_le (by decide) hq) (by rw [zm_59]; exact (Nat.le_of_ble_eq_true rfl)) (ok_lW_isSlot ⟨v8, e8, ?_⟩)
    refine E_if (pc := 11) (t := 17) (zDk zD_144_ok 5 rfl) rfl (fun hz => ?_) (fun hz => ?_)
    · have h := zS_f h (T_ne hz)
      refine E_aload_n (pc := 17) (zDk zD_144_ok 8 rfl) rfl ?_
      refine E_getR (pc := 18) (ci := 7) (f := 7) (r := 97) (zDk zD_144_ok 9 rfl) zc_144 (by decide +kernel) (by decide) zis_7_0 (by decide +kernel) (by decide) ?_
      refine E_iload_n (pc := 21) (zDk zD_144_ok 10 rfl) rfl ?_
      obtain ⟨v22, e22, h⟩ := zS_bind h
      refine E_virI (pc := 22) (c := 60) (r := 97) (as := [.inl x1]) (rest := []) (zDk zD_144_ok 11 rfl) zc_144 (by decide +kernel) zk_60 ⟨(Nat.le_of_ble_eq_true rfl), rfl, rfl⟩ (Nat.le_of_ble_eq_true rfl) (zr_60 _) (Nat.lt_of_lt_of_le (by decide) hq) (by rw [zm_60]; exact (Nat.le_of_ble_eq_true rfl)) ⟨zc_60, by decide⟩ zis_5_97 (ok_lW_isFilled ⟨v22, e22, ?_⟩)
      refine E_if (pc := 25) (t := 39) (zDk zD_144_ok 12 rfl) rfl (fun hz => ?_) (fun hz => ?_)
      · have h := zS_t h (T_eq hz)
        refine E_bipush (pc := 39) (zDk zD_144_ok 18 rfl) (by decide +kernel) ?_
        have h := zS_some h
        exact E_ireturn (pc := 41) (zDk zD_144_ok 19 rfl) zt_144 h
      · have h := zS_f h (F_eq hz)
        refine E_aload_n (pc := 28) (zDk zD_144_ok 13 rfl) rfl ?_
        refine E_getR (pc := 29) (ci := 7) (f := 7) (r := 97) (zDk zD_144_ok 14 rfl) zc_144 (by decide +kernel) (by decide) zis_7_0 (by decide +kernel) (by decide) ?_
        refine E_iload_n (pc := 32) (zDk zD_144_ok 15 rfl) rfl ?_
        obtain ⟨v33, e33, h⟩ := zS_bind h
        refine E_virI (pc := 33) (c := 60) (r := 97) (as := [.inl x3]) (rest := []) (zDk zD_144_ok 16 rfl) zc_144 (by decide +kernel) zk_60 ⟨(Nat.le_of_ble_eq_true rfl), rfl, rfl⟩ (Nat.le_of_ble_eq_true rfl) (zr_60 _) (Nat.lt_of_lt_of_le (by decide) hq) (by rw [zm_60]; exact (Nat.le_of_ble_eq_true rfl)) ⟨zc_60, by decide⟩ zis_5_97 (ok_lW_isFilled ⟨v33, e33, ?_⟩)
        refine E_if (pc := 36) (t := 42) (zDk zD_144_ok 17 rfl) rfl (fun hz => ?_) (fun hz => ?_)
        · have h := zS_f h (T_ne hz)
          refine E_aload_n (pc := 42) (zDk zD_144_ok 20 rfl) rfl ?_
          refine E_getR (pc := 43) (ci := 7) (f := 7) (r := 97) (zDk zD_144_ok 21 rfl) zc_144 (by decide +kernel) (by decide) zis_7_0 (by decide +kernel) (by decide) ?_
          refine E_getR (pc := 46) (ci := 5) (f := 0) (r := 98) (zDk zD_144_ok 22 rfl) zc_144 (by decide +kernel) (by decide) zis_5_97 (by decide +kernel) (by decide) ?_
          refine E_iload_n (pc := 49) (zDk zD_144_ok 23 rfl) rfl ?_
          obtain ⟨v50, e50, h⟩ := zS_bind h
          refine E_iaload (pc := 50) (zDk zD_144_ok 24 rfl) e50 ?_
          refine E_aload_n (pc := 51) (zDk zD_144_ok 25 rfl) rfl ?_
          refine E_getR (pc := 52) (ci := 7) (f := 7) (r := 97) (zDk zD_144_ok 26 rfl) zc_144 (by decide +kernel) (by decide) zis_7_0 (by decide +kernel) (by decide) ?_
          refine E_getR (pc := 55) (ci := 5) (f := 0) (r := 98) (zDk zD_144_ok 27 rfl) zc_144 (by decide +kernel) (by decide) zis_5_97 (by decide +kernel) (by decide) ?_
          refine E_iload_n (pc := 58) (zDk zD_144_ok 28 rfl) rfl ?_
          obtain ⟨v59, e59, h⟩ := zS_bind h
          refine E_iaload (pc := 59) (zDk zD_144_ok 29 rfl) e59 ?_
          refine E_icmp (pc := 60) (t := 66) (zDk zD_144_ok 30 rfl) rfl (fun hz => ?_) (fun hz => ?_)
          · have h := zS_t h (T_eq hz)
            refine E_aload_n (pc := 66) (zDk zD_144_ok 33 rfl) rfl ?_
            refine E_getR (pc := 67) (ci := 7) (f := 7) (r := 97) (zDk zD_144_ok 34 rfl) zc_144 (by decide +kernel) (by decide) zis_7_0 (by decide +kernel) (by decide) ?_
            refine E_iload_n (pc := 70) (zDk zD_144_ok 35 rfl) rfl ?_
            refine E_iload_n (pc := 71) (zDk zD_144_ok 36 rfl) rfl ?_
            refine E_iload (pc := 72) (zDk zD_144_ok 37 rfl) rfl ?_
            obtain ⟨v74, e74, h⟩ := zS_bind h
            refine E_virI (pc := 74) (c := 63) (r := 97) (as := [.inl x1, .inl x2, .inl x5]) (rest := []) (zDk zD_144_ok 38 rfl) zc_144 (by decide +kernel) zk_63 ⟨(Nat.le_of_ble_eq_true rfl), rfl, rfl⟩ (Nat.le_of_ble_eq_true rfl) (zr_63 _) (Nat.lt_of_lt_of_le (by decide) hq) (by rw [zm_63]; exact (Nat.le_of_ble_eq_true rfl)) ⟨zc_63, by decide⟩ zis_5_97 (ok_lW_holds ⟨v74, e74, ?_⟩)
            refine E_if (pc := 77) (t := 95) (zDk zD_144_ok 39 rfl) rfl (fun hz => ?_) (fun hz => ?_)
            · have h := zS_t h (T_eq hz)
              refine E_bipush (pc := 95) (zDk zD_144_ok 47 rfl) (by decide +kernel) ?_
              have h := zS_some h
              exact E_ireturn (pc := 97) (zDk zD_144_ok 48 rfl) zt_144 h
            · have h := zS_f h (F_eq hz)
              refine E_aload_n (pc := 80) (zDk zD_144_ok 40 rfl) rfl ?_
              refine E_getR (pc := 81) (ci := 7) (f := 7) (r := 97) (zDk zD_144_ok 41 rfl) zc_144 (by decide +kernel) (by decide) zis_7_0 (by decide +kernel) (by decide) ?_
              refine E_iload_n (pc := 84) (zDk zD_144_ok 42 rfl) rfl ?_
              refine E_iload (pc := 85) (zDk zD_144_ok 43 rfl) rfl ?_
              refine E_iload (pc := 87) (zDk zD_144_ok 44 rfl) rfl ?_
              obtain ⟨v89, e89, h⟩ := zS_bind h
              refine E_virI (pc := 89) (c := 63) (r := 97) (as := [.inl x3, .inl x4, .inl x5]) (rest := []) (zDk zD_144_ok 45 rfl) zc_144 (by decide +kernel) zk_63 ⟨(Nat.le_of_ble_eq_true rfl), rfl, rfl⟩ (Nat.le_of_ble_eq_true rfl) (zr_63 _) (Nat.lt_of_lt_of_le (by decide) hq) (by rw [zm_63]; exact (Nat.le_of_ble_eq_true rfl)) ⟨zc_63, by decide⟩ zis_5_97 (ok_lW_holds ⟨v89, e89, ?_⟩)
              refine E_if (pc := 92) (t := 98) (zDk zD_144_ok 46 rfl) rfl (fun hz => ?_) (fun hz => ?_)
              · have h := zS_f h (T_ne hz)
                refine E_aload_n (pc := 98) (zDk zD_144_ok 49 rfl) rfl ?_
                refine E_getR (pc := 99) (ci := 7) (f := 7) (r := 97) (zDk zD_144_ok 50 rfl) zc_144 (by decide +kernel) (by decide) zis_7_0 (by decide +kernel) (by decide) ?_
                refine E_getR (pc := 102) (ci := 5) (f := 2) (r := 100) (zDk zD_144_ok 51 rfl) zc_144 (by decide +kernel) (by decide) zis_5_97 (by decide +kernel) (by decide) ?_
                refine E_iload_n (pc := 105) (zDk zD_144_ok 52 rfl) rfl ?_
                obtain ⟨v106, e106, h⟩ := zS_bind h
                refine E_aaload (pc := 106) (zDk zD_144_ok 53 rfl) e106 ?_
                refine E_iload_n (pc := 107) (zDk zD_144_ok 54 rfl) rfl ?_
                refine E_aload_n (pc := 108) (zDk zD_144_ok 55 rfl) rfl ?_
                refine E_getR (pc := 109) (ci := 7) (f := 7) (r := 97) (zDk zD_144_ok 56 rfl) zc_144 (by decide +kernel) (by decide) zis_7_0 (by decide +kernel) (by decide) ?_
                refine E_getR (pc := 112) (ci := 5) (f := 2) (r := 100) (zDk zD_144_ok 57 rfl) zc_144 (by decide +kernel) (by decide) zis_5_97 (by decide +kernel) (by decide) ?_
                refine E_iload_n (pc := 115) (zDk zD_144_ok 58 rfl) rfl ?_
                obtain ⟨v116, e116, h⟩ := zS_bind h
                refine E_aaload (pc := 116) (zDk zD_144_ok 59 rfl) e116 ?_
                refine E_iload (pc := 117) (zDk zD_144_ok 60 rfl) rfl ?_
                refine E_iload (pc := 119) (zDk zD_144_ok 61 rfl) rfl ?_
                obtain ⟨M121, e121, h⟩ := zS_bind h
                refine E_copy (pc := 121) (zDk zD_144_ok 62 rfl) zc_144 (by decide +kernel) e121 (Nat.le_of_ble_eq_true rfl) (Nat.lt_of_lt_of_le (by decide) hq) ?_
                refine E_iconst (pc := 124) (zDk zD_144_ok 63 rfl) (by decide +kernel) ?_
                have h := zS_some h
                exact E_ireturn (pc := 125) (zDk zD_144_ok 64 rfl) zt_144 h
              · have h := zS_t h (F_ne hz)
                refine E_bipush (pc := 95) (zDk zD_144_ok 47 rfl) (by decide +kernel) ?_
                have h := zS_some h
                exact E_ireturn (pc := 97) (zDk zD_144_ok 48 rfl) zt_144 h
          · have h := zS_f h (F_eq hz)
            refine E_bipush (pc := 63) (zDk zD_144_ok 31 rfl) (by decide +kernel) ?_
            have h := zS_some h
            exact E_ireturn (pc := 65) (zDk zD_144_ok 32 rfl) zt_144 h
        · have h := zS_t h (F_ne hz)
          refine E_bipush (pc := 39) (zDk zD_144_ok 18 rfl) (by decide +kernel) ?_
          have h := zS_some h
          exact E_ireturn (pc := 41) (zDk zD_144_ok 19 rfl) zt_144 h
    · have h := zS_t h (F_ne hz)
      refine E_bipush (pc := 14) (zDk zD_144_ok 6 rfl) (by decide +kernel) ?_
      have h := zS_some h
      exact E_ireturn (pc := 16) (zDk zD_144_ok 7 rfl) zt_144 h
def zD_149 : List (Nat × Instr × Nat) := [(0, .aload_n (0), 1), (1, .getfield (19), 3), (4, .iload_n (1), 1), (5, .invokevirtual (112), 3), (8, .ifCond .eq (23), 3), (11, .aload_n (0), 1), (12, .getfield (19), 3), (15, .iload_n (2), 1), (16, .invokevirtual (112), 3), (19, .ifCond .eq (12), 3), (22, .iload_n (1), 1), (23, .iload_n (2), 1), (24, .if_icmp .eq (7), 3), (27, .iconst (1), 1), (28, .goto (4), 3), (31, .iconst (0), 1), (32, .ireturn, 1)]
set_option maxRecDepth 100000 in
theorem zD_149_ok : zDo 149 zD_149 = true := by decide +kernel
theorem zc_149 : zcls 149 = 7 := by decide +kernel
theorem zm_149 : zml 149 = 3 := by decide +kernel
theorem zt_149 : zrt 149 = (some (.boolean)) := by decide +kernel
theorem zk_149 : zkd 149 = 1 ∧ znp 149 + 1 = 3 := by decide +kernel
theorem zr_149 (as : List zV) : zrk 149 as = 1 := by unfold zrk; rw [if_neg (by decide)]; decide +kernel
def lX_areTwo (x1 : Int) (x2 : Int) (M : Nat → Nat → Int) : Option Int :=
    ((lT_hasName 3 x1 M).bind (fun v5 =>
    (if v5 = 0 then
    (some (0 : Int))
    else
    ((lT_hasName 3 x2 M).bind (fun v16 =>
    (if v16 = 0 then
    (some (0 : Int))
    else
    (if x1 = x2 then
    (some (0 : Int))
    else
    (some (1 : Int)))))))))
set_option maxRecDepth 100000 in
theorem ok_lX_areTwo {sc : zSc} {x1 : Int} {x2 : Int} {M : Nat → Nat → Int} {P : Int → (Nat → Nat → Int) → Prop} (h : zS (lX_areTwo x1 x2 M) (fun x => P x M)) : zCi sc 149 [.inr (.inr 0), .inl x1, .inl x2] M P := by
  have ea : zarg (zml 149) [.inr (.inr 0), .inl x1, .inl x2] = [some (.inr (.inr 0)), some (.inl x1), some (.inl x2)] := by rw [zm_149]; rfl
  unfold zCi zCw
  rw [ea, zr_149]
  have hq : 1 ≤ 1 := Nat.le_refl _
  unfold lX_areTwo at h
  have h := zS_mono h (fun x hx => (⟨x, rfl, hx⟩ : ∃ y, (some (.inl x) : Option zV) = some (.inl y) ∧ P y M))
  skip
  refine E_aload_n (pc := 0) (zDk zD_149_ok 0 rfl) rfl ?_
  refine E_getR (pc := 1) (ci := 7) (f := 1) (r := 3) (zDk zD_149_ok 1 rfl) zc_149 (by decide +kernel) (by decide) zis_7_0 (by decide +kernel) (by decide) ?_
  refine E_iload_n (pc := 4) (zDk zD_149_ok 2 rfl) rfl ?_
  obtain ⟨v5, e5, h⟩ := zS_bind h
  refine E_virI (pc := 5) (c := 73) (r := 3) (as := [.inl x1]) (rest := []) (zDk zD_149_ok 3 rfl) zc_149 (by decide +kernel) zk_73 ⟨(Nat.le_of_ble_eq_true rfl), rfl, rfl⟩ (Nat.le_of_ble_eq_true rfl) (zr_73 _) (Nat.lt_of_lt_of_le (by decide) hq) (by rw [zm_73]; exact (Nat.le_of_ble_eq_true rfl)) ⟨zc_73, by decide⟩ zis_6_3 (ok_lT_hasName ⟨v5, e5, ?_⟩)
  refine E_if (pc := 8) (t := 31) (zDk zD_149_ok 4 rfl) rfl (fun hz => ?_) (fun hz => ?_)
  · have h := zS_t h (T_eq hz)
    refine E_iconst (pc := 31) (zDk zD_149_ok 15 rfl) (by decide +kernel) ?_
    have h := zS_some h
    exact E_ireturnZ (pc := 32) (zDk zD_149_ok 16 rfl) zt_149 (by decide) h
  · have h := zS_f h (F_eq hz)
    refine E_aload_n (pc := 11) (zDk zD_149_ok 5 rfl) rfl ?_
    refine E_getR (pc := 12) (ci := 7) (f := 1) (r := 3) (zDk zD_149_ok 6 rfl) zc_149 (by decide +kernel) (by decide) zis_7_0 (by decide +kernel) (by decide) ?_
    refine E_iload_n (pc := 15) (zDk zD_149_ok 7 rfl) rfl ?_
    obtain ⟨v16, e16, h⟩ := zS_bind h
    refine E_virI (pc := 16) (c := 73) (r := 3) (as := [.inl x2]) (rest := []) (zDk zD_149_ok 8 rfl) zc_149 (by decide +kernel) zk_73 ⟨(Nat.le_of_ble_eq_true rfl), rfl, rfl⟩ (Nat.le_of_ble_eq_true rfl) (zr_73 _) (Nat.lt_of_lt_of_le (by decide) hq) (by rw [zm_73]; exact (Nat.le_of_ble_eq_true rfl)) ⟨zc_73, by decide⟩ zis_6_3 (ok_lT_hasName ⟨v16, e16, ?_⟩)
    refine E_if (pc := 19) (t := 31) (zDk zD_149_ok 9 rfl) rfl (fun hz => ?_) (fun hz => ?_)
    · have h := zS_t h (T_eq hz)
      refine E_iconst (pc := 31) (zDk zD_149_ok 15 rfl) (by decide +kernel) ?_
      have h := zS_some h
      exact E_ireturnZ (pc := 32) (zDk zD_149_ok 16 rfl) zt_149 (by decide) h
    · have h := zS_f h (F_eq hz)
      refine E_iload_n (pc := 22) (zDk zD_149_ok 10 rfl) rfl ?_
      refine E_iload_n (pc := 23) (zDk zD_149_ok 11 rfl) rfl ?_
      refine E_icmp (pc := 24) (t := 31) (zDk zD_149_ok 12 rfl) rfl (fun hz => ?_) (fun hz => ?_)
      · have h := zS_t h (T_eq hz)
        refine E_iconst (pc := 31) (zDk zD_149_ok 15 rfl) (by decide +kernel) ?_
        have h := zS_some h
        exact E_ireturnZ (pc := 32) (zDk zD_149_ok 16 rfl) zt_149 (by decide) h
      · have h := zS_f h (F_eq hz)
        refine E_iconst (pc := 27) (zDk zD_149_ok 13 rfl) (by decide +kernel) ?_
        refine E_goto (pc := 28) (t := 32) (zDk zD_149_ok 14 rfl) rfl ?_
        have h := zS_some h
        exact E_ireturnZ (pc := 32) (zDk zD_149_ok 16 rfl) zt_149 (by decide) h
def zD_152 : List (Nat × Instr × Nat) := [(0, .aload_n (0), 1), (1, .getfield (38), 3), (4, .getfield (174), 3), (7, .aload_n (0), 1), (8, .getfield (19), 3), (11, .getfield (177), 3), (14, .iaload, 1), (15, .invokestatic (183), 3), (18, .ireturn, 1)]
set_option maxRecDepth 100000 in
theorem zD_152_ok : zDo 152 zD_152 = true := by decide +kernel
theorem zc_152 : zcls 152 = 7 := by decide +kernel
theorem zm_152 : zml 152 = 1 := by decide +kernel
theorem zt_152 : zrt 152 = (some (.int)) := by decide +kernel
theorem zk_152 : zkd 152 = 1 ∧ znp 152 + 1 = 1 := by decide +kernel
theorem zr_152 (as : List zV) : zrk 152 as = 1 := by unfold zrk; rw [if_neg (by decide)]; decide +kernel
def lX_signedNow (M : Nat → Nat → Int) : Option Int :=
    ((rdI 36 (M 3 1) M).bind (fun v14 =>
    ((lJ_bitCount v14 M).bind (fun v15 =>
    (some v15)))))
set_option maxRecDepth 100000 in
theorem ok_lX_signedNow {sc : zSc} {M : Nat → Nat → Int} {P : Int → (Nat → Nat → Int) → Prop} (h : zS (lX_signedNow M) (fun x => P x M)) : zCi sc 152 [.inr (.inr 0)] M P := by
  have ea : zarg (zml 152) [.inr (.inr 0)] = [some (.inr (.inr 0))] := by rw [zm_152]; rfl
  unfold zCi zCw
  rw [ea, zr_152]
  have hq : 1 ≤ 1 := Nat.le_refl _
  unfold lX_signedNow at h
  have h := zS_mono h (fun x hx => (⟨x, rfl, hx⟩ : ∃ y, (some (.inl x) : Option zV) = some (.inl y) ∧ P y M))
  skip
  refine E_aload_n (pc := 0) (zDk zD_152_ok 0 rfl) rfl ?_
  refine E_getR (pc := 1) (ci := 7) (f := 4) (r := 29) (zDk zD_152_ok 1 rfl) zc_152 (by decide +kernel) (by decide) zis_7_0 (by decide +kernel) (by decide) ?_
  refine E_getR (pc := 4) (ci := 1) (f := 7) (r := 36) (zDk zD_152_ok 2 rfl) zc_152 (by decide +kernel) (by decide) zis_1_29 (by decide +kernel) (by decide) ?_
  refine E_aload_n (pc := 7) (zDk zD_152_ok 3 rfl) rfl ?_
  refine E_getR (pc := 8) (ci := 7) (f := 1) (r := 3) (zDk zD_152_ok 4 rfl) zc_152 (by decide +kernel) (by decide) zis_7_0 (by decide +kernel) (by decide) ?_
  refine E_getI (pc := 11) (ci := 6) (f := 1) (zDk zD_152_ok 5 rfl) zc_152 (by decide +kernel) (by decide) zis_6_3 ?_
  obtain ⟨v14, e14, h⟩ := zS_bind h
  refine E_iaload (pc := 14) (zDk zD_152_ok 6 rfl) e14 ?_
  obtain ⟨v15, e15, h⟩ := zS_bind h
  refine E_staI (pc := 15) (c := 321) (as := [.inl v14]) (rest := []) (zDk zD_152_ok 7 rfl) zc_152 (by decide +kernel) (by decide +kernel) zk_321 ⟨(Nat.le_of_ble_eq_true rfl), rfl, rfl⟩ (Nat.le_of_ble_eq_true rfl) (zr_321 _) (Nat.lt_of_lt_of_le (by decide) hq) (by rw [zm_321]; exact (Nat.le_of_ble_eq_true rfl)) (ok_lJ_bitCount ⟨v15, e15, ?_⟩)
  have h := zS_some h
  exact E_ireturn (pc := 18) (zDk zD_152_ok 8 rfl) zt_152 h
def zD_159 : List (Nat × Instr × Nat) := [(0, .iconst (0), 1), (1, .istore_n (3), 1), (2, .iload_n (3), 1), (3, .iconst (1), 1), (4, .iadd, 1), (5, .aload_n (0), 1), (6, .getfield (55), 3), (9, .getfield (363), 3), (12, .iload_n (1), 1), (13, .iaload, 1), (14, .if_icmp .ge (50), 3), (17, .aload_n (0), 1), (18, .getfield (55), 3), (21, .getfield (366), 3), (24, .iload_n (1), 1), (25, .aaload, 1), (26, .iload_n (3), 1), (27, .laload, 1), (28, .l2i, 1), (29, .istore (4), 2), (31, .aload_n (0), 1), (32, .iload_n (2), 1), (33, .iload (4), 2), (35, .invokevirtual (414), 3), (38, .i2l, 1), (39, .aload_n (0), 1), (40, .getfield (55), 3), (43, .getfield (366), 3), (46, .iload_n (1), 1), (47, .aaload, 1), (48, .iload_n (3), 1), (49, .iconst (1), 1), (50, .iadd, 1), (51, .laload, 1), (52, .lcmp, 1), (53, .ifCond .eq (5), 3), (56, .iconst (0), 1), (57, .ireturn, 1), (58, .iinc (3) (2), 3), (61, .goto (-59), 3), (64, .iconst (1), 1), (65, .ireturn, 1)]
set_option maxRecDepth 100000 in
theorem zD_159_ok : zDo 159 zD_159 = true := by decide +kernel
theorem zc_159 : zcls 159 = 7 := by decide +kernel
theorem zm_159 : zml 159 = 5 := by decide +kernel
theorem zt_159 : zrt 159 = (some (.boolean)) := by decide +kernel
theorem zk_159 : zkd 159 = 1 ∧ znp 159 + 1 = 3 := by decide +kernel
theorem zr_159 (as : List zV) : zrk 159 as = 1 := by unfold zrk; rw [if_neg (by decide)]; decide +kernel
def lX_agreesWithSeen_c2 (x1 : Int) (x2 : Int) (M : Nat → Nat → Int) : Nat → Int → Option Int
  | 0, _ => none
  | n + 1, y3 =>
    ((rdI 99 x1 M).bind (fun v13 =>
    (if (w32 (y3 + (1 : Int))) < v13 then
    ((rdA 100 x1).bind (fun v25 =>
    ((rdL v25 y3 M).bind (fun v27 =>
    ((lX_traced x2 (w32 v27) M).bind (fun v35 =>
    ((rdA 100 x1).bind (fun v47 =>
    ((rdL v47 (w32 (y3 + (1 : Int))) M).bind (fun v51 =>
    (if v35 = v51 then
    ((lX_agreesWithSeen_c2 x1 x2 M n) (w32 (y3 + 2)))
    else
    (some (0 : Int)))))))))))))
    else
    (some (1 : Int)))))
set_option maxRecDepth 100000 in
theorem ok_lX_agreesWithSeen_c2 {sc : zSc} {q : Nat} {P : Option zV → (Nat → Nat → Int) → Prop} (hq : 1 ≤ q) (x1 : Int) (x2 : Int) (M : Nat → Nat → Int) : ∀ (n : Nat) (y3 : Int) (d4 : Option zV), zS (lX_agreesWithSeen_c2 x1 x2 M n y3) (fun x => P (some (.inl x)) M) → zWp sc q 159 2 [some (.inr (.inr 0)), some (.inl x1), some (.inl x2), some (.inl y3), d4] [] M P := by
  intro n
  induction n with
  | zero => intro y3 d4 h; exact (zS_none h).elim
  | succ n ih =>
    intro y3 d4 h
    rw [lX_agreesWithSeen_c2] at h
    refine E_iload_n (pc := 2) (zDk zD_159_ok 2 rfl) rfl ?_
    refine E_iconst (pc := 3) (zDk zD_159_ok 3 rfl) (by decide +kernel) ?_
    refine W_iadd (pc := 4) (zDk zD_159_ok 4 rfl) ?_
    refine E_aload_n (pc := 5) (zDk zD_159_ok 5 rfl) rfl ?_
    refine E_getR (pc := 6) (ci := 7) (f := 7) (r := 97) (zDk zD_159_ok 6 rfl) zc_159 (by decide +kernel) (by decide) zis_7_0 (by decide +kernel) (by decide) ?_
    refine E_getR (pc := 9) (ci := 5) (f := 1) (r := 99) (zDk zD_159_ok 7 rfl) zc_159 (by decide +kernel) (by decide) zis_5_97 (by decide +kernel) (by decide) ?_
    refine E_iload_n (pc := 12) (zDk zD_159_ok 8 rfl) rfl ?_
    obtain ⟨v13, e13, h⟩ := zS_bind h
    refine E_iaload (pc := 13) (zDk zD_159_ok 9 rfl) e13 ?_
    refine E_icmp (pc := 14) (t := 64) (zDk zD_159_ok 10 rfl) rfl (fun hz => ?_) (fun hz => ?_)
    · have h := zS_f h (Int.not_lt.mpr (T_ge hz))
      refine E_iconst (pc := 64) (zDk zD_159_ok 40 rfl) (by decide +kernel) ?_
      have h := zS_some h
      exact E_ireturnZ (pc := 65) (zDk zD_159_ok 41 rfl) zt_159 (by decide) h
    · have h := zS_t h (F_ge hz)
      refine E_aload_n (pc := 17) (zDk zD_159_ok 11 rfl) rfl ?_
      refine E_getR (pc := 18) (ci := 7) (f := 7) (r := 97) (zDk zD_159_ok 12 rfl) zc_159 (by decide +kernel) (by decide) zis_7_0 (by decide +kernel) (by decide) ?_
      refine E_getR (pc := 21) (ci := 5) (f := 2) (r := 100) (zDk zD_159_ok 13 rfl) zc_159 (by decide +kernel) (by decide) zis_5_97 (by decide +kernel) (by decide) ?_
      refine E_iload_n (pc := 24) (zDk zD_159_ok 14 rfl) rfl ?_
      obtain ⟨v25, e25, h⟩ := zS_bind h
      refine E_aaload (pc := 25) (zDk zD_159_ok 15 rfl) e25 ?_
      refine E_iload_n (pc := 26) (zDk zD_159_ok 16 rfl) rfl ?_
      obtain ⟨v27, e27, h⟩ := zS_bind h
      refine E_laload (pc := 27) (zDk zD_159_ok 17 rfl) e27 ?_
      refine E_l2i (pc := 28) (zDk zD_159_ok 18 rfl) ?_
      refine W_istore (pc := 29) (L' := [some (.inr (.inr 0)), some (.inl x1), some (.inl x2), some (.inl y3), some (.inl (w32 v27))]) (zDk zD_159_ok 19 rfl) zm_159 (by decide) rfl ?_
      refine E_aload_n (pc := 31) (zDk zD_159_ok 20 rfl) rfl ?_
      refine E_iload_n (pc := 32) (zDk zD_159_ok 21 rfl) rfl ?_
      refine E_iload (pc := 33) (zDk zD_159_ok 22 rfl) rfl ?_
      obtain ⟨v35, e35, h⟩ := zS_bind h
      refine E_virI (pc := 35) (c := 158) (r := 0) (as := [.inl x2, .inl (w32 v27)]) (rest := []) (zDk zD_159_ok 23 rfl) zc_159 (by decide +kernel) zk_158 ⟨(Nat.le_of_ble_eq_true rfl), rfl, rfl⟩ (Nat.le_of_ble_eq_true rfl) (zr_158 _) (Nat.lt_of_lt_of_le (by decide) hq) (by rw [zm_158]; exact (Nat.le_of_ble_eq_true rfl)) ⟨zc_158, by decide⟩ zis_7_0 (ok_lX_traced ⟨v35, e35, ?_⟩)
      refine E_i2l (pc := 38) (zDk zD_159_ok 24 rfl) ?_
      refine E_aload_n (pc := 39) (zDk zD_159_ok 25 rfl) rfl ?_
      refine E_getR (pc := 40) (ci := 7) (f := 7) (r := 97) (zDk zD_159_ok 26 rfl) zc_159 (by decide +kernel) (by decide) zis_7_0 (by decide +kernel) (by decide) ?_
      refine E_getR (pc := 43) (ci := 5) (f := 2) (r := 100) (zDk zD_159_ok 27 rfl) zc_159 (by decide +kernel) (by decide) zis_5_97 (by decide +kernel) (by decide) ?_
      refine E_iload_n (pc := 46) (zDk zD_159_ok 28 rfl) rfl ?_
      obtain ⟨v47, e47, h⟩ := zS_bind h
      refine E_aaload (pc := 47) (zDk zD_159_ok 29 rfl) e47 ?_
      refine E_iload_n (pc := 48) (zDk zD_159_ok 30 rfl) rfl ?_
      refine E_iconst (pc := 49) (zDk zD_159_ok 31 rfl) (by decide +kernel) ?_
      refine W_iadd (pc := 50) (zDk zD_159_ok 32 rfl) ?_
      obtain ⟨v51, e51, h⟩ := zS_bind h
      refine E_laload (pc := 51) (zDk zD_159_ok 33 rfl) e51 ?_
      refine W_lcmp (pc := 52) (zDk zD_159_ok 34 rfl) ?_
      refine E_if (pc := 53) (t := 58) (zDk zD_159_ok 35 rfl) rfl (fun hz => ?_) (fun hz => ?_)
      · have h := zS_t h (zlc_eq (T_eq hz))
        refine W_iinc (pc := 58) (L' := [some (.inr (.inr 0)), some (.inl x1), some (.inl x2), some (.inl (w32 (y3 + 2))), some (.inl (w32 v27))]) (zDk zD_159_ok 38 rfl) rfl zm_159 (by decide) rfl ?_
        refine E_goto (pc := 61) (t := 2) (zDk zD_159_ok 39 rfl) rfl ?_
        exact (ih) (w32 (y3 + 2)) (some (.inl (w32 v27))) h
      · have h := zS_f h (zlc_ne (F_eq hz))
        refine E_iconst (pc := 56) (zDk zD_159_ok 36 rfl) (by decide +kernel) ?_
        have h := zS_some h
        exact E_ireturnZ (pc := 57) (zDk zD_159_ok 37 rfl) zt_159 (by decide) h
def lX_agreesWithSeen (x1 : Int) (x2 : Int) (M : Nat → Nat → Int) : Option Int :=
    (lX_agreesWithSeen_c2 x1 x2 M zN (0 : Int))
set_option maxRecDepth 100000 in
theorem ok_lX_agreesWithSeen {sc : zSc} {x1 : Int} {x2 : Int} {M : Nat → Nat → Int} {P : Int → (Nat → Nat → Int) → Prop} (h : zS (lX_agreesWithSeen x1 x2 M) (fun x => P x M)) : zCi sc 159 [.inr (.inr 0), .inl x1, .inl x2] M P := by
  have ea : zarg (zml 159) [.inr (.inr 0), .inl x1, .inl x2] = [some (.inr (.inr 0)), some (.inl x1), some (.inl x2), none, none] := by rw [zm_159]; rfl
  unfold zCi zCw
  rw [ea, zr_159]
  have hq : 1 ≤ 1 := Nat.le_refl _
  unfold lX_agreesWithSeen at h
  have h := zS_mono h (fun x hx => (⟨x, rfl, hx⟩ : ∃ y, (some (.inl x) : Option zV) = some (.inl y) ∧ P y M))
  skip
  refine E_iconst (pc := 0) (zDk zD_159_ok 0 rfl) (by decide +kernel) ?_
  refine W_istore_n (pc := 1) (L' := [some (.inr (.inr 0)), some (.inl x1), some (.inl x2), some (.inl (0 : Int)), none]) (zDk zD_159_ok 1 rfl) zm_159 (by decide) rfl ?_
  exact ok_lX_agreesWithSeen_c2 hq x1 x2 M zN (0 : Int) none h
def zD_161 : List (Nat × Instr × Nat) := [(0, .iconst (0), 1), (1, .istore_n (3), 1), (2, .iconst (0), 1), (3, .istore (4), 2), (5, .iload (4), 2), (7, .aload_n (0), 1), (8, .getfield (19), 3), (11, .getfield (244), 3), (14, .if_icmp .ge (64), 3), (17, .iconst (0), 1), (18, .istore (5), 2), (20, .iconst (0), 1), (21, .istore (6), 2), (23, .iload (6), 2), (25, .aload_n (0), 1), (26, .getfield (19), 3), (29, .getfield (244), 3), (32, .if_icmp .ge (33), 3), (35, .iload_n (1), 1), (36, .iload (6), 2), (38, .ishr, 1), (39, .iconst (1), 1), (40, .iand, 1), (41, .ifCond .eq (18), 3), (44, .aload_n (0), 1), (45, .iload (6), 2), (47, .iload_n (2), 1), (48, .invokevirtual (414), 3), (51, .iload (4), 2), (53, .if_icmp .ne (6), 3), (56, .iinc (5) (1), 3), (59, .iinc (6) (1), 3), (62, .goto (-39), 3), (65, .iload_n (3), 1), (66, .iload (5), 2), (68, .invokestatic (417), 3), (71, .istore_n (3), 1), (72, .iinc (4) (1), 3), (75, .goto (-70), 3), (78, .iload_n (3), 1), (79, .ireturn, 1)]
set_option maxRecDepth 100000 in
theorem zD_161_ok : zDo 161 zD_161 = true := by decide +kernel
theorem zc_161 : zcls 161 = 7 := by decide +kernel
theorem zm_161 : zml 161 = 7 := by decide +kernel
theorem zt_161 : zrt 161 = (some (.int)) := by decide +kernel
theorem zk_161 : zkd 161 = 1 ∧ znp 161 + 1 = 3 := by decide +kernel
theorem zr_161 (as : List zV) : zrk 161 as = 1 := by unfold zrk; rw [if_neg (by decide)]; decide +kernel
def lX_homesLeft_c23 (x1 : Int) (x2 : Int) (M : Nat → Nat → Int) (h5 : Int → Int → Option Int) : Nat → Int → Int → Int → Int → Option Int
  | 0, _, _, _, _ => none
  | n + 1, y3, y4, y5, y6 =>
    (if y6 < (M 3 0) then
    (if (zand (zshr x1 y6) (1 : Int)) = 0 then
    ((lX_homesLeft_c23 x1 x2 M h5 n) y3 y4 y5 (w32 (y6 + 1)))
    else
    ((lX_traced y6 x2 M).bind (fun v48 =>
    (if v48 = y4 then
    ((lX_homesLeft_c23 x1 x2 M h5 n) y3 y4 (w32 (y5 + 1)) (w32 (y6 + 1)))
    else
    ((lX_homesLeft_c23 x1 x2 M h5 n) y3 y4 y5 (w32 (y6 + 1)))))))
    else
    (h5 (zmax y3 y5) (w32 (y4 + 1))))
set_option maxRecDepth 100000 in
theorem ok_lX_homesLeft_c23 {sc : zSc} {q : Nat} {P : Option zV → (Nat → Nat → Int) → Prop} (hq : 1 ≤ q) (x1 : Int) (x2 : Int) (M : Nat → Nat → Int) (h5 : Int → Int → Option Int) (H5 : ∀ (y3 : Int) (y4 : Int) (d5 d6 : Option zV), zS (h5 y3 y4) (fun x => P (some (.inl x)) M) → zWp sc q 161 5 [some (.inr (.inr 0)), some (.inl x1), some (.inl x2), some (.inl y3), some (.inl y4), d5, d6] [] M P) : ∀ (n : Nat) (y3 : Int) (y4 : Int) (y5 : Int) (y6 : Int), zS (lX_homesLeft_c23 x1 x2 M h5 n y3 y4 y5 y6) (fun x => P (some (.inl x)) M) → zWp sc q 161 23 [some (.inr (.inr 0)), some (.inl x1), some (.inl x2), some (.inl y3), some (.inl y4), some (.inl y5), some (.inl y6)] [] M P := by
  intro n
  induction n with
  | zero => intro y3 y4 y5 y6 h; exact (zS_none h).elim
  | succ n ih =>
    intro y3 y4 y5 y6 h
    rw [lX_homesLeft_c23] at h
    refine E_iload (pc := 23) (zDk zD_161_ok 13 rfl) rfl ?_
    refine E_aload_n (pc := 25) (zDk zD_161_ok 14 rfl) rfl ?_
    refine E_getR (pc := 26) (ci := 7) (f := 1) (r := 3) (zDk zD_161_ok 15 rfl) zc_161 (by decide +kernel) (by decide) zis_7_0 (by decide +kernel) (by decide) ?_
    refine E_getI (pc := 29) (ci := 6) (f := 0) (zDk zD_161_ok 16 rfl) zc_161 (by decide +kernel) (by decide) zis_6_3 ?_
    refine E_icmp (pc := 32) (t := 65) (zDk zD_161_ok 17 rfl) rfl (fun hz => ?_) (fun hz => ?_)
    · have h := zS_f h (Int.not_lt.mpr (T_ge hz))
      refine E_iload_n (pc := 65) (zDk zD_161_ok 33 rfl) rfl ?_
      refine E_iload (pc := 66) (zDk zD_161_ok 34 rfl) rfl ?_
      refine W_max (pc := 68) (zDk zD_161_ok 35 rfl) zc_161 (by decide +kernel) (Nat.le_of_ble_eq_true rfl) (Nat.lt_of_lt_of_le (by decide) hq) ?_
      refine W_istore_n (pc := 71) (L' := [some (.inr (.inr 0)), some (.inl x1), some (.inl x2), some (.inl (zmax y3 y5)), some (.inl y4), some (.inl y5), some (.inl y6)]) (zDk zD_161_ok 36 rfl) zm_161 (by decide) rfl ?_
      refine W_iinc (pc := 72) (L' := [some (.inr (.inr 0)), some (.inl x1), some (.inl x2), some (.inl (zmax y3 y5)), some (.inl (w32 (y4 + 1))), some (.inl y5), some (.inl y6)]) (zDk zD_161_ok 37 rfl) rfl zm_161 (by decide) rfl ?_
      refine E_goto (pc := 75) (t := 5) (zDk zD_161_ok 38 rfl) rfl ?_
      exact H5 (zmax y3 y5) (w32 (y4 + 1)) (some (.inl y5)) (some (.inl y6)) h
    · have h := zS_t h (F_ge hz)
      refine E_iload_n (pc := 35) (zDk zD_161_ok 18 rfl) rfl ?_
      refine E_iload (pc := 36) (zDk zD_161_ok 19 rfl) rfl ?_
      refine E_ishr (pc := 38) (zDk zD_161_ok 20 rfl) ?_
      refine E_iconst (pc := 39) (zDk zD_161_ok 21 rfl) (by decide +kernel) ?_
      refine E_iand (pc := 40) (zDk zD_161_ok 22 rfl) ?_
      refine E_if (pc := 41) (t := 59) (zDk zD_161_ok 23 rfl) rfl (fun hz => ?_) (fun hz => ?_)
      · have h := zS_t h (T_eq hz)
        refine W_iinc (pc := 59) (L' := [some (.inr (.inr 0)), some (.inl x1), some (.inl x2), some (.inl y3), some (.inl y4), some (.inl y5), some (.inl (w32 (y6 + 1)))]) (zDk zD_161_ok 31 rfl) rfl zm_161 (by decide) rfl ?_
        refine E_goto (pc := 62) (t := 23) (zDk zD_161_ok 32 rfl) rfl ?_
        exact (ih) y3 y4 y5 (w32 (y6 + 1)) h
      · have h := zS_f h (F_eq hz)
        refine E_aload_n (pc := 44) (zDk zD_161_ok 24 rfl) rfl ?_
        refine E_iload (pc := 45) (zDk zD_161_ok 25 rfl) rfl ?_
        refine E_iload_n (pc := 47) (zDk zD_161_ok 26 rfl) rfl ?_
        obtain ⟨v48, e48, h⟩ := zS_bind h
        refine E_virI (pc := 48) (c := 158) (r := 0) (as := [.inl y6, .inl x2]) (rest := []) (zDk zD_161_ok 27 rfl) zc_161 (by decide +kernel) zk_158 ⟨(Nat.le_of_ble_eq_true rfl), rfl, rfl⟩ (Nat.le_of_ble_eq_true rfl) (zr_158 _) (Nat.lt_of_lt_of_le (by decide) hq) (by rw [zm_158]; exact (Nat.le_of_ble_eq_true rfl)) ⟨zc_158, by decide⟩ zis_7_0 (ok_lX_traced ⟨v48, e48, ?_⟩)
        refine E_iload (pc := 51) (zDk zD_161_ok 28 rfl) rfl ?_
        refine E_icmp (pc := 53) (t := 59) (zDk zD_161_ok 29 rfl) rfl (fun hz => ?_) (fun hz => ?_)
        · have h := zS_f h (T_ne hz)
          refine W_iinc (pc := 59) (L' := [some (.inr (.inr 0)), some (.inl x1), some (.inl x2), some (.inl y3), some (.inl y4), some (.inl y5), some (.inl (w32 (y6 + 1)))]) (zDk zD_161_ok 31 rfl) rfl zm_161 (by decide) rfl ?_
          refine E_goto (pc := 62) (t := 23) (zDk zD_161_ok 32 rfl) rfl ?_
          exact (ih) y3 y4 y5 (w32 (y6 + 1)) h
        · have h := zS_t h (F_ne hz)
          refine W_iinc (pc := 56) (L' := [some (.inr (.inr 0)), some (.inl x1), some (.inl x2), some (.inl y3), some (.inl y4), some (.inl (w32 (y5 + 1))), some (.inl y6)]) (zDk zD_161_ok 30 rfl) rfl zm_161 (by decide) rfl ?_
          refine W_iinc (pc := 59) (L' := [some (.inr (.inr 0)), some (.inl x1), some (.inl x2), some (.inl y3), some (.inl y4), some (.inl (w32 (y5 + 1))), some (.inl (w32 (y6 + 1)))]) (zDk zD_161_ok 31 rfl) rfl zm_161 (by decide) rfl ?_
          refine E_goto (pc := 62) (t := 23) (zDk zD_161_ok 32 rfl) rfl ?_
          exact (ih) y3 y4 (w32 (y5 + 1)) (w32 (y6 + 1)) h
def lX_homesLeft_c5 (x1 : Int) (x2 : Int) (M : Nat → Nat → Int) : Nat → Int → Int → Option Int
  | 0, _, _ => none
  | n + 1, y3, y4 =>
    (if y4 < (M 3 0) then
    (lX_homesLeft_c23 x1 x2 M (lX_homesLeft_c5 x1 x2 M n) zN y3 y4 (0 : Int) (0 : Int))
    else
    (some y3))
set_option maxRecDepth 100000 in
theorem ok_lX_homesLeft_c5 {sc : zSc} {q : Nat} {P : Option zV → (Nat → Nat → Int) → Prop} (hq : 1 ≤ q) (x1 : Int) (x2 : Int) (M : Nat → Nat → Int) : ∀ (n : Nat) (y3 : Int) (y4 : Int) (d5 d6 : Option zV), zS (lX_homesLeft_c5 x1 x2 M n y3 y4) (fun x => P (some (.inl x)) M) → zWp sc q 161 5 [some (.inr (.inr 0)), some (.inl x1), some (.inl x2), some (.inl y3), some (.inl y4), d5, d6] [] M P := by
  intro n
  induction n with
  | zero => intro y3 y4 d5 d6 h; exact (zS_none h).elim
  | succ n ih =>
    intro y3 y4 d5 d6 h
    rw [lX_homesLeft_c5] at h
    refine E_iload (pc := 5) (zDk zD_161_ok 4 rfl) rfl ?_
    refine E_aload_n (pc := 7) (zDk zD_161_ok 5 rfl) rfl ?_
    refine E_getR (pc := 8) (ci := 7) (f := 1) (r := 3) (zDk zD_161_ok 6 rfl) zc_161 (by decide +kernel) (by decide) zis_7_0 (by decide +kernel) (by decide) ?_
    refine E_getI (pc := 11) (ci := 6) (f := 0) (zDk zD_161_ok 7 rfl) zc_161 (by decide +kernel) (by decide) zis_6_3 ?_
    refine E_icmp (pc := 14) (t := 78) (zDk zD_161_ok 8 rfl) rfl (fun hz => ?_) (fun hz => ?_)
    · have h := zS_f h (Int.not_lt.mpr (T_ge hz))
      refine E_iload_n (pc := 78) (zDk zD_161_ok 39 rfl) rfl ?_
      have h := zS_some h
      exact E_ireturn (pc := 79) (zDk zD_161_ok 40 rfl) zt_161 h
    · have h := zS_t h (F_ge hz)
      refine E_iconst (pc := 17) (zDk zD_161_ok 9 rfl) (by decide +kernel) ?_
      refine W_istore (pc := 18) (L' := [some (.inr (.inr 0)), some (.inl x1), some (.inl x2), some (.inl y3), some (.inl y4), some (.inl (0 : Int)), d6]) (zDk zD_161_ok 10 rfl) zm_161 (by decide) rfl ?_
      refine E_iconst (pc := 20) (zDk zD_161_ok 11 rfl) (by decide +kernel) ?_
      refine W_istore (pc := 21) (L' := [some (.inr (.inr 0)), some (.inl x1), some (.inl x2), some (.inl y3), some (.inl y4), some (.inl (0 : Int)), some (.inl (0 : Int))]) (zDk zD_161_ok 12 rfl) zm_161 (by decide) rfl ?_
      exact ok_lX_homesLeft_c23 hq x1 x2 M (lX_homesLeft_c5 x1 x2 M n) (ih) zN y3 y4 (0 : Int) (0 : Int) h
def lX_homesLeft (x1 : Int) (x2 : Int) (M : Nat → Nat → Int) : Option Int :=
    (lX_homesLeft_c5 x1 x2 M zN (0 : Int) (0 : Int))
set_option maxRecDepth 100000 in
theorem ok_lX_homesLeft {sc : zSc} {x1 : Int} {x2 : Int} {M : Nat → Nat → Int} {P : Int → (Nat → Nat → Int) → Prop} (h : zS (lX_homesLeft x1 x2 M) (fun x => P x M)) : zCi sc 161 [.inr (.inr 0), .inl x1, .inl x2] M P := by
  have ea : zarg (zml 161) [.inr (.inr 0), .inl x1, .inl x2] = [some (.inr (.inr 0)), some (.inl x1), some (.inl x2), none, none, none, none] := by rw [zm_161]; rfl
  unfold zCi zCw
  rw [ea, zr_161]
  have hq : 1 ≤ 1 := Nat.le_refl _
  unfold lX_homesLeft at h
  have h := zS_mono h (fun x hx => (⟨x, rfl, hx⟩ : ∃ y, (some (.inl x) : Option zV) = some (.inl y) ∧ P y M))
  skip
  refine E_iconst (pc := 0) (zDk zD_161_ok 0 rfl) (by decide +kernel) ?_
  refine W_istore_n (pc := 1) (L' := [some (.inr (.inr 0)), some (.inl x1), some (.inl x2), some (.inl (0 : Int)), none, none, none]) (zDk zD_161_ok 1 rfl) zm_161 (by decide) rfl ?_
  refine E_iconst (pc := 2) (zDk zD_161_ok 2 rfl) (by decide +kernel) ?_
  refine W_istore (pc := 3) (L' := [some (.inr (.inr 0)), some (.inl x1), some (.inl x2), some (.inl (0 : Int)), some (.inl (0 : Int)), none, none]) (zDk zD_161_ok 3 rfl) zm_161 (by decide) rfl ?_
  exact ok_lX_homesLeft_c5 hq x1 x2 M zN (0 : Int) (0 : Int) none none h
def zD_162 : List (Nat × Instr × Nat) := [(0, .iload_n (1), 1), (1, .invokestatic (353), 3), (4, .ifCond .eq (13), 3), (7, .aload_n (0), 1), (8, .getfield (19), 3), (11, .invokevirtual (194), 3), (14, .ifCond .ne (6), 3), (17, .bipush (-2), 2), (19, .ireturn, 1), (20, .aload_n (0), 1), (21, .getfield (55), 3), (24, .iload_n (1), 1), (25, .invokevirtual (360), 3), (28, .ifCond .ne (6), 3), (31, .bipush (-6), 2), (33, .ireturn, 1), (34, .aload_n (0), 1), (35, .getfield (55), 3), (38, .iload_n (1), 1), (39, .iconst (2), 1), (40, .bipush (9), 2), (42, .bipush (8), 2), (44, .invokevirtual (403), 3), (47, .ifCond .ne (6), 3), (50, .bipush (-2), 2), (52, .ireturn, 1), (53, .iconst (0), 1), (54, .istore_n (2), 1), (55, .iconst (0), 1), (56, .istore_n (3), 1), (57, .iload_n (3), 1), (58, .aload_n (0), 1), (59, .getfield (19), 3), (62, .getfield (281), 3), (65, .if_icmp .ge (32), 3), (68, .aload_n (0), 1), (69, .iload_n (1), 1), (70, .aload_n (0), 1), (71, .getfield (19), 3), (74, .getfield (121), 3), (77, .iload_n (3), 1), (78, .iaload, 1), (79, .invokevirtual (422), 3), (82, .ifCond .eq (9), 3), (85, .iload_n (2), 1), (86, .iconst (1), 1), (87, .iload_n (3), 1), (88, .ishl, 1), (89, .ior, 1), (90, .istore_n (2), 1), (91, .iinc (3) (1), 3), (94, .goto (-37), 3), (97, .iload_n (2), 1), (98, .ireturn, 1)]
set_option maxRecDepth 100000 in
theorem zD_162_ok : zDo 162 zD_162 = true := by decide +kernel
theorem zc_162 : zcls 162 = 7 := by decide +kernel
theorem zm_162 : zml 162 = 4 := by decide +kernel
theorem zt_162 : zrt 162 = (some (.int)) := by decide +kernel
theorem zk_162 : zkd 162 = 1 ∧ znp 162 + 1 = 2 := by decide +kernel
theorem zr_162 (as : List zV) : zrk 162 as = 1 := by unfold zrk; rw [if_neg (by decide)]; decide +kernel
def lX_possibleForged_c57 (x1 : Int) (M : Nat → Nat → Int) : Nat → Int → Int → Option Int
  | 0, _, _ => none
  | n + 1, y2, y3 =>
    (if y3 < (M 3 7) then
    ((rdI 9 y3 M).bind (fun v78 =>
    ((lX_agreesWithSniffs x1 v78 M).bind (fun v79 =>
    (if v79 = 0 then
    ((lX_possibleForged_c57 x1 M n) y2 (w32 (y3 + 1)))
    else
    ((lX_possibleForged_c57 x1 M n) (zor y2 (zshl (1 : Int) y3)) (w32 (y3 + 1))))))))
    else
    (some y2))
set_option maxRecDepth 100000 in
theorem ok_lX_possibleForged_c57 {sc : zSc} {q : Nat} {P : Option zV → (Nat → Nat → Int) → Prop} (hq : 1 ≤ q) (x1 : Int) (M : Nat → Nat → Int) : ∀ (n : Nat) (y2 : Int) (y3 : Int), zS (lX_possibleForged_c57 x1 M n y2 y3) (fun x => P (some (.inl x)) M) → zWp sc q 162 57 [some (.inr (.inr 0)), some (.inl x1), some (.inl y2), some (.inl y3)] [] M P := by
  intro n
  induction n with
  | zero => intro y2 y3 h; exact (zS_none h).elim
  | succ n ih =>
    intro y2 y3 h
    rw [lX_possibleForged_c57] at h
    refine E_iload_n (pc := 57) (zDk zD_162_ok 30 rfl) rfl ?_
    refine E_aload_n (pc := 58) (zDk zD_162_ok 31 rfl) rfl ?_
    refine E_getR (pc := 59) (ci := 7) (f := 1) (r := 3) (zDk zD_162_ok 32 rfl) zc_162 (by decide +kernel) (by decide) zis_7_0 (by decide +kernel) (by decide) ?_
    refine E_getI (pc := 62) (ci := 6) (f := 7) (zDk zD_162_ok 33 rfl) zc_162 (by decide +kernel) (by decide) zis_6_3 ?_
    refine E_icmp (pc := 65) (t := 97) (zDk zD_162_ok 34 rfl) rfl (fun hz => ?_) (fun hz => ?_)
    · have h := zS_f h (Int.not_lt.mpr (T_ge hz))
      refine E_iload_n (pc := 97) (zDk zD_162_ok 52 rfl) rfl ?_
      have h := zS_some h
      exact E_ireturn (pc := 98) (zDk zD_162_ok 53 rfl) zt_162 h
    · have h := zS_t h (F_ge hz)
      refine E_aload_n (pc := 68) (zDk zD_162_ok 35 rfl) rfl ?_
      refine E_iload_n (pc := 69) (zDk zD_162_ok 36 rfl) rfl ?_
      refine E_aload_n (pc := 70) (zDk zD_162_ok 37 rfl) rfl ?_
      refine E_getR (pc := 71) (ci := 7) (f := 1) (r := 3) (zDk zD_162_ok 38 rfl) zc_162 (by decide +kernel) (by decide) zis_7_0 (by decide +kernel) (by decide) ?_
      refine E_getR (pc := 74) (ci := 6) (f := 14) (r := 9) (zDk zD_162_ok 39 rfl) zc_162 (by decide +kernel) (by decide) zis_6_3 (by decide +kernel) (by decide) ?_
      refine E_iload_n (pc := 77) (zDk zD_162_ok 40 rfl) rfl ?_
      obtain ⟨v78, e78, h⟩ := zS_bind h
      refine E_iaload (pc := 78) (zDk zD_162_ok 41 rfl) e78 ?_
      obtain ⟨v79, e79, h⟩ := zS_bind h
      refine E_virI (pc := 79) (c := 163) (r := 0) (as := [.inl x1, .inl v78]) (rest := []) (zDk zD_162_ok 42 rfl) zc_162 (by decide +kernel) zk_163 ⟨(Nat.le_of_ble_eq_true rfl), rfl, rfl⟩ (Nat.le_of_ble_eq_true rfl) (zr_163 _) (Nat.lt_of_lt_of_le (by decide) hq) (by rw [zm_163]; exact (Nat.le_of_ble_eq_true rfl)) ⟨zc_163, by decide⟩ zis_7_0 (ok_lX_agreesWithSniffs ⟨v79, e79, ?_⟩)
      refine E_if (pc := 82) (t := 91) (zDk zD_162_ok 43 rfl) rfl (fun hz => ?_) (fun hz => ?_)
      · have h := zS_t h (T_eq hz)
        refine W_iinc (pc := 91) (L' := [some (.inr (.inr 0)), some (.inl x1), some (.inl y2), some (.inl (w32 (y3 + 1)))]) (zDk zD_162_ok 50 rfl) rfl zm_162 (by decide) rfl ?_
        refine E_goto (pc := 94) (t := 57) (zDk zD_162_ok 51 rfl) rfl ?_
        exact (ih) y2 (w32 (y3 + 1)) h
      · have h := zS_f h (F_eq hz)
        refine E_iload_n (pc := 85) (zDk zD_162_ok 44 rfl) rfl ?_
        refine E_iconst (pc := 86) (zDk zD_162_ok 45 rfl) (by decide +kernel) ?_
        refine E_iload_n (pc := 87) (zDk zD_162_ok 46 rfl) rfl ?_
        refine E_ishl (pc := 88) (zDk zD_162_ok 47 rfl) ?_
        refine E_ior (pc := 89) (zDk zD_162_ok 48 rfl) ?_
        refine W_istore_n (pc := 90) (L' := [some (.inr (.inr 0)), some (.inl x1), some (.inl (zor y2 (zshl (1 : Int) y3))), some (.inl y3)]) (zDk zD_162_ok 49 rfl) zm_162 (by decide) rfl ?_
        refine W_iinc (pc := 91) (L' := [some (.inr (.inr 0)), some (.inl x1), some (.inl (zor y2 (zshl (1 : Int) y3))), some (.inl (w32 (y3 + 1)))]) (zDk zD_162_ok 50 rfl) rfl zm_162 (by decide) rfl ?_
        refine E_goto (pc := 94) (t := 57) (zDk zD_162_ok 51 rfl) rfl ?_
        exact (ih) (zor y2 (zshl (1 : Int) y3)) (w32 (y3 + 1)) h
def lX_possibleForged (x1 : Int) (M : Nat → Nat → Int) : Option Int :=
    ((lW_isSlot x1 M).bind (fun v1 =>
    (if v1 = 0 then
    (some (-2 : Int))
    else
    ((lT_isThere 3 M).bind (fun v11 =>
    (if v11 = 0 then
    (some (-2 : Int))
    else
    ((lW_isFilled x1 M).bind (fun v25 =>
    (if v25 = 0 then
    (some (-6 : Int))
    else
    ((lW_holdsPairs x1 (2 : Int) (9 : Int) (8 : Int) M).bind (fun v44 =>
    (if v44 = 0 then
    (some (-2 : Int))
    else
    (lX_possibleForged_c57 x1 M zN (0 : Int) (0 : Int))))))))))))))
set_option maxRecDepth 100000 in
theorem ok_lX_possibleForged {sc : zSc} {x1 : Int} {M : Nat → Nat → Int} {P : Int → (Nat → Nat → Int) → Prop} (h : zS (lX_possibleForged x1 M) (fun x => P x M)) : zCi sc 162 [.inr (.inr 0), .inl x1] M P := by
  have ea : zarg (zml 162) [.inr (.inr 0), .inl x1] = [some (.inr (.inr 0)), some (.inl x1), none, none] := by rw [zm_162]; rfl
  unfold zCi zCw
  rw [ea, zr_162]
  have hq : 1 ≤ 1 := Nat.le_refl _
  unfold lX_possibleForged at h
  have h := zS_mono h (fun x hx => (⟨x, rfl, hx⟩ : ∃ y, (some (.inl x) : Option zV) = some (.inl y) ∧ P y M))
  skip
  refine E_iload_n (pc := 0) (zDk zD_162_ok 0 rfl) rfl ?_
  obtain ⟨v1, e1, h⟩ := zS_bind h
  refine E_staI (pc := 1) (c := 59) (as := [.inl x1]) (rest := []) (zDk zD_162_ok 1 rfl) zc_162 (by decide +kernel) (by decide +kernel) zk_59 ⟨(Nat.le_of_ble_eq_true rfl), rfl, rfl⟩ (Nat.le_of_ble_eq_true rfl) (zr_59 _) (Nat.lt_of_lt_of_le (by decide) hq) (by rw [zm_59]; exact (Nat.le_of_ble_eq_true rfl)) (ok_lW_isSlot ⟨v1, e1, ?_⟩)
  refine E_if (pc := 4) (t := 17) (zDk zD_162_ok 2 rfl) rfl (fun hz => ?_) (fun hz => ?_)
  · have h := zS_t h (T_eq hz)
    refine E_bipush (pc := 17) (zDk zD_162_ok 7 rfl) (by decide +kernel) ?_
    have h := zS_some h
    exact E_ireturn (pc := 19) (zDk zD_162_ok 8 rfl) zt_162 h
  · have h := zS_f h (F_eq hz)
    refine E_aload_n (pc := 7) (zDk zD_162_ok 3 rfl) rfl ?_
    refine E_getR (pc := 8) (ci := 7) (f := 1) (r := 3) (zDk zD_162_ok 4 rfl) zc_162 (by decide +kernel) (by decide) zis_7_0 (by decide +kernel) (by decide) ?_
    obtain ⟨v11, e11, h⟩ := zS_bind h
    refine E_virI (pc := 11) (c := 69) (r := 3) (as := []) (rest := []) (zDk zD_162_ok 5 rfl) zc_162 (by decide +kernel) zk_69 ⟨(Nat.le_of_ble_eq_true rfl), rfl, rfl⟩ (Nat.le_of_ble_eq_true rfl) (zr_69 _) (Nat.lt_of_lt_of_le (by decide) hq) (by rw [zm_69]; exact (Nat.le_of_ble_eq_true rfl)) ⟨zc_69, by decide⟩ zis_6_3 (ok_lT_isThere ⟨v11, e11, ?_⟩)
    refine E_if (pc := 14) (t := 20) (zDk zD_162_ok 6 rfl) rfl (fun hz => ?_) (fun hz => ?_)
    · have h := zS_f h (T_ne hz)
      refine E_aload_n (pc := 20) (zDk zD_162_ok 9 rfl) rfl ?_
      refine E_getR (pc := 21) (ci := 7) (f := 7) (r := 97) (zDk zD_162_ok 10 rfl) zc_162 (by decide +kernel) (by decide) zis_7_0 (by decide +kernel) (by decide) ?_
      refine E_iload_n (pc := 24) (zDk zD_162_ok 11 rfl) rfl ?_
      obtain ⟨v25, e25, h⟩ := zS_bind h
      refine E_virI (pc := 25) (c := 60) (r := 97) (as := [.inl x1]) (rest := []) (zDk zD_162_ok 12 rfl) zc_162 (by decide +kernel) zk_60 ⟨(Nat.le_of_ble_eq_true rfl), rfl, rfl⟩ (Nat.le_of_ble_eq_true rfl) (zr_60 _) (Nat.lt_of_lt_of_le (by decide) hq) (by rw [zm_60]; exact (Nat.le_of_ble_eq_true rfl)) ⟨zc_60, by decide⟩ zis_5_97 (ok_lW_isFilled ⟨v25, e25, ?_⟩)
      refine E_if (pc := 28) (t := 34) (zDk zD_162_ok 13 rfl) rfl (fun hz => ?_) (fun hz => ?_)
      · have h := zS_f h (T_ne hz)
        refine E_aload_n (pc := 34) (zDk zD_162_ok 16 rfl) rfl ?_
        refine E_getR (pc := 35) (ci := 7) (f := 7) (r := 97) (zDk zD_162_ok 17 rfl) zc_162 (by decide +kernel) (by decide) zis_7_0 (by decide +kernel) (by decide) ?_
        refine E_iload_n (pc := 38) (zDk zD_162_ok 18 rfl) rfl ?_
        refine E_iconst (pc := 39) (zDk zD_162_ok 19 rfl) (by decide +kernel) ?_
        refine E_bipush (pc := 40) (zDk zD_162_ok 20 rfl) (by decide +kernel) ?_
        refine E_bipush (pc := 42) (zDk zD_162_ok 21 rfl) (by decide +kernel) ?_
        obtain ⟨v44, e44, h⟩ := zS_bind h
        refine E_virI (pc := 44) (c := 64) (r := 97) (as := [.inl x1, .inl (2 : Int), .inl (9 : Int), .inl (8 : Int)]) (rest := []) (zDk zD_162_ok 22 rfl) zc_162 (by decide +kernel) zk_64 ⟨(Nat.le_of_ble_eq_true rfl), rfl, rfl⟩ (Nat.le_of_ble_eq_true rfl) (zr_64 _) (Nat.lt_of_lt_of_le (by decide) hq) (by rw [zm_64]; exact (Nat.le_of_ble_eq_true rfl)) ⟨zc_64, by decide⟩ zis_5_97 (ok_lW_holdsPairs ⟨v44, e44, ?_⟩)
        refine E_if (pc := 47) (t := 53) (zDk zD_162_ok 23 rfl) rfl (fun hz => ?_) (fun hz => ?_)
        · have h := zS_f h (T_ne hz)
          refine E_iconst (pc := 53) (zDk zD_162_ok 26 rfl) (by decide +kernel) ?_
          refine W_istore_n (pc := 54) (L' := [some (.inr (.inr 0)), some (.inl x1), some (.inl (0 : Int)), none]) (zDk zD_162_ok 27 rfl) zm_162 (by decide) rfl ?_
          refine E_iconst (pc := 55) (zDk zD_162_ok 28 rfl) (by decide +kernel) ?_
          refine W_istore_n (pc := 56) (L' := [some (.inr (.inr 0)), some (.inl x1), some (.inl (0 : Int)), some (.inl (0 : Int))]) (zDk zD_162_ok 29 rfl) zm_162 (by decide) rfl ?_
          exact ok_lX_possibleForged_c57 hq x1 M zN (0 : Int) (0 : Int) h
        · have h := zS_t h (F_ne hz)
          refine E_bipush (pc := 50) (zDk zD_162_ok 24 rfl) (by decide +kernel) ?_
          have h := zS_some h
          exact E_ireturn (pc := 52) (zDk zD_162_ok 25 rfl) zt_162 h
      · have h := zS_t h (F_ne hz)
        refine E_bipush (pc := 31) (zDk zD_162_ok 14 rfl) (by decide +kernel) ?_
        have h := zS_some h
        exact E_ireturn (pc := 33) (zDk zD_162_ok 15 rfl) zt_162 h
    · have h := zS_t h (F_ne hz)
      refine E_bipush (pc := 17) (zDk zD_162_ok 7 rfl) (by decide +kernel) ?_
      have h := zS_some h
      exact E_ireturn (pc := 19) (zDk zD_162_ok 8 rfl) zt_162 h
