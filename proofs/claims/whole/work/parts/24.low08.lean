/-! Lifted methods 8 (written by wip/whole/lift.py): decode rows, functions, proofs. -/
def zD_141 : List (Nat × Instr × Nat) := [(0, .iload_n (1), 1), (1, .ifCond .lt (8), 3), (4, .iload_n (1), 1), (5, .iconst (3), 1), (6, .if_icmp .lt (6), 3), (9, .bipush (-2), 2), (11, .ireturn, 1), (12, .aload_n (0), 1), (13, .getfield (47), 3), (16, .iload_n (1), 1), (17, .aaload, 1), (18, .getfield (349), 3), (21, .ifCond .ne (6), 3), (24, .bipush (-6), 2), (26, .ireturn, 1), (27, .aload_n (0), 1), (28, .getfield (19), 3), (31, .aload_n (0), 1), (32, .getfield (47), 3), (35, .iload_n (1), 1), (36, .aaload, 1), (37, .getfield (344), 3), (40, .invokevirtual (78), 3), (43, .aload_n (0), 1), (44, .getfield (29), 3), (47, .aload_n (0), 1), (48, .getfield (47), 3), (51, .iload_n (1), 1), (52, .aaload, 1), (53, .getfield (345), 3), (56, .invokevirtual (346), 3), (59, .aload_n (0), 1), (60, .invokevirtual (84), 3), (63, .iconst (0), 1), (64, .ireturn, 1)]
set_option maxRecDepth 100000 in
theorem zD_141_ok : zDo 141 zD_141 = true := by decide +kernel
theorem zc_141 : zcls 141 = 7 := by decide +kernel
theorem zm_141 : zml 141 = 2 := by decide +kernel
theorem zt_141 : zrt 141 = (some (.int)) := by decide +kernel
theorem zk_141 : zkd 141 = 1 ∧ znp 141 + 1 = 2 := by decide +kernel
theorem zr_141 (as : List zV) : zrk 141 as = 5 := by unfold zrk; rw [if_neg (by decide)]; decide +kernel
def lX_back (x1 : Int) (M : Nat → Nat → Int) : Option (Int × (Nat → Nat → Int)) :=
    (if x1 < 0 then
    (some ((-2 : Int), M))
    else
    (if x1 < (3 : Int) then
    ((rdA 45 x1).bind (fun v17 =>
    (if zis 2 v17 = true then
    (if (M v17 0) = 0 then
    (some ((-6 : Int), M))
    else
    ((rdA 45 x1).bind (fun v36 =>
    (if zis 2 v36 = true then
    ((lT_takeFrom 3 (v36 + 1) M).bind (fun M40 =>
    ((rdA 45 x1).bind (fun v52 =>
    (if zis 2 v52 = true then
    ((lA_takeFrom 23 (v52 + 11) M40).bind (fun M56 =>
    ((lX_settle M56).bind (fun M60 =>
    (some ((0 : Int), M60))))))
    else none)))))
    else none))))
    else none)))
    else
    (some ((-2 : Int), M))))
set_option maxRecDepth 100000 in
theorem ok_lX_back {sc : zSc} {x1 : Int} {M : Nat → Nat → Int} {P : Int → (Nat → Nat → Int) → Prop} (h : zS (lX_back x1 M) (fun r => P r.1 r.2)) : zCi sc 141 [.inr (.inr 0), .inl x1] M P := by
  have ea : zarg (zml 141) [.inr (.inr 0), .inl x1] = [some (.inr (.inr 0)), some (.inl x1)] := by rw [zm_141]; rfl
  unfold zCi zCw
  rw [ea, zr_141]
  have hq : 5 ≤ 5 := Nat.le_refl _
  unfold lX_back at h
  have h := zS_mono h (fun x hx => (⟨x.1, rfl, hx⟩ : ∃ y, (some (.inl x.1) : Option zV) = some (.inl y) ∧ P y x.2))
  skip
  refine E_iload_n (pc := 0) (zDk zD_141_ok 0 rfl) rfl ?_
  refine E_if (pc := 1) (t := 9) (zDk zD_141_ok 1 rfl) rfl (fun hz => ?_) (fun hz => ?_)
  · have h := zS_t h (T_lt hz)
    refine E_bipush (pc := 9) (zDk zD_141_ok 5 rfl) (by decide +kernel) ?_
    have h := zS_some h
    exact E_ireturn (pc := 11) (zDk zD_141_ok 6 rfl) zt_141 h
  · have h := zS_f h (Int.not_lt.mpr (F_lt hz))
    refine E_iload_n (pc := 4) (zDk zD_141_ok 2 rfl) rfl ?_
    refine E_iconst (pc := 5) (zDk zD_141_ok 3 rfl) (by decide +kernel) ?_
    refine E_icmp (pc := 6) (t := 12) (zDk zD_141_ok 4 rfl) rfl (fun hz => ?_) (fun hz => ?_)
    · have h := zS_t h (T_lt hz)
      refine E_aload_n (pc := 12) (zDk zD_141_ok 7 rfl) rfl ?_
      refine E_getR (pc := 13) (ci := 7) (f := 6) (r := 45) (zDk zD_141_ok 8 rfl) zc_141 (by decide +kernel) (by decide) zis_7_0 (by decide +kernel) (by decide) ?_
      refine E_iload_n (pc := 16) (zDk zD_141_ok 9 rfl) rfl ?_
      obtain ⟨v17, e17, h⟩ := zS_bind h
      refine E_aaload (pc := 17) (zDk zD_141_ok 10 rfl) e17 ?_
      obtain ⟨hz18, h⟩ := zS_c h
      refine E_getI (pc := 18) (ci := 2) (f := 0) (zDk zD_141_ok 11 rfl) zc_141 (by decide +kernel) (by decide) hz18 ?_
      refine E_if (pc := 21) (t := 27) (zDk zD_141_ok 12 rfl) rfl (fun hz => ?_) (fun hz => ?_)
      · have h := zS_f h (T_ne hz)
        refine E_aload_n (pc := 27) (zDk zD_141_ok 15 rfl) rfl ?_
        refine E_getR (pc := 28) (ci := 7) (f := 1) (r := 3) (zDk zD_141_ok 16 rfl) zc_141 (by decide +kernel) (by decide) zis_7_0 (by decide +kernel) (by decide) ?_
        refine E_aload_n (pc := 31) (zDk zD_141_ok 17 rfl) rfl ?_
        refine E_getR (pc := 32) (ci := 7) (f := 6) (r := 45) (zDk zD_141_ok 18 rfl) zc_141 (by decide +kernel) (by decide) zis_7_0 (by decide +kernel) (by decide) ?_
        refine E_iload_n (pc := 35) (zDk zD_141_ok 19 rfl) rfl ?_
        obtain ⟨v36, e36, h⟩ := zS_bind h
        refine E_aaload (pc := 36) (zDk zD_141_ok 20 rfl) e36 ?_
        obtain ⟨hz37, h⟩ := zS_c h
        refine E_getR (pc := 37) (ci := 2) (f := 1) (r := (v36 + 1)) (zDk zD_141_ok 21 rfl) zc_141 (by decide +kernel) (by decide) hz37 (zg_2_1 hz37) (zh_2_1 hz37) ?_
        obtain ⟨M40, e40, h⟩ := zS_bind h
        refine E_virV (pc := 40) (c := 68) (r := 3) (as := [.inr (.inr (v36 + 1))]) (rest := []) (zDk zD_141_ok 22 rfl) zc_141 (by decide +kernel) zk_68 ⟨(Nat.le_of_ble_eq_true rfl), rfl, rfl⟩ (Nat.le_of_ble_eq_true rfl) (zr_68 _) (Nat.lt_of_lt_of_le (by decide) hq) (by rw [zm_68]; exact (Nat.le_of_ble_eq_true rfl)) ⟨zc_68, by decide⟩ zis_6_3 (ok_lT_takeFrom ⟨M40, e40, ?_⟩)
        refine E_aload_n (pc := 43) (zDk zD_141_ok 23 rfl) rfl ?_
        refine E_getR (pc := 44) (ci := 7) (f := 3) (r := 23) (zDk zD_141_ok 24 rfl) zc_141 (by decide +kernel) (by decide) zis_7_0 (by decide +kernel) (by decide) ?_
        refine E_aload_n (pc := 47) (zDk zD_141_ok 25 rfl) rfl ?_
        refine E_getR (pc := 48) (ci := 7) (f := 6) (r := 45) (zDk zD_141_ok 26 rfl) zc_141 (by decide +kernel) (by decide) zis_7_0 (by decide +kernel) (by decide) ?_
        refine E_iload_n (pc := 51) (zDk zD_141_ok 27 rfl) rfl ?_
        obtain ⟨v52, e52, h⟩ := zS_bind h
        refine E_aaload (pc := 52) (zDk zD_141_ok 28 rfl) e52 ?_
        obtain ⟨hz53, h⟩ := zS_c h
        refine E_getR (pc := 53) (ci := 2) (f := 2) (r := (v52 + 11)) (zDk zD_141_ok 29 rfl) zc_141 (by decide +kernel) (by decide) hz53 (zg_2_2 hz53) (zh_2_2 hz53) ?_
        obtain ⟨M56, e56, h⟩ := zS_bind h
        refine E_virV (pc := 56) (c := 6) (r := 23) (as := [.inr (.inr (v52 + 11))]) (rest := []) (zDk zD_141_ok 30 rfl) zc_141 (by decide +kernel) zk_6 ⟨(Nat.le_of_ble_eq_true rfl), rfl, rfl⟩ (Nat.le_of_ble_eq_true rfl) (zr_6 _) (Nat.lt_of_lt_of_le (by decide) hq) (by rw [zm_6]; exact (Nat.le_of_ble_eq_true rfl)) ⟨zc_6, by decide⟩ zis_0_23 (ok_lA_takeFrom ⟨M56, e56, ?_⟩)
        refine E_aload_n (pc := 59) (zDk zD_141_ok 31 rfl) rfl ?_
        obtain ⟨M60, e60, h⟩ := zS_bind h
        refine E_virV (pc := 60) (c := 145) (r := 0) (as := []) (rest := []) (zDk zD_141_ok 32 rfl) zc_141 (by decide +kernel) zk_145 ⟨(Nat.le_of_ble_eq_true rfl), rfl, rfl⟩ (Nat.le_of_ble_eq_true rfl) (zr_145 _) (Nat.lt_of_lt_of_le (by decide) hq) (by rw [zm_145]; exact (Nat.le_of_ble_eq_true rfl)) ⟨zc_145, by decide⟩ zis_7_0 (ok_lX_settle ⟨M60, e60, ?_⟩)
        refine E_iconst (pc := 63) (zDk zD_141_ok 33 rfl) (by decide +kernel) ?_
        have h := zS_some h
        exact E_ireturn (pc := 64) (zDk zD_141_ok 34 rfl) zt_141 h
      · have h := zS_t h (F_ne hz)
        refine E_bipush (pc := 24) (zDk zD_141_ok 13 rfl) (by decide +kernel) ?_
        have h := zS_some h
        exact E_ireturn (pc := 26) (zDk zD_141_ok 14 rfl) zt_141 h
    · have h := zS_f h (Int.not_lt.mpr (F_lt hz))
      refine E_bipush (pc := 9) (zDk zD_141_ok 5 rfl) (by decide +kernel) ?_
      have h := zS_some h
      exact E_ireturn (pc := 11) (zDk zD_141_ok 6 rfl) zt_141 h
def zD_156 : List (Nat × Instr × Nat) := [(0, .iload_n (1), 1), (1, .invokestatic (353), 3), (4, .ifCond .eq (14), 3), (7, .aload_n (0), 1), (8, .getfield (19), 3), (11, .iload_n (2), 1), (12, .invokevirtual (112), 3), (15, .ifCond .ne (6), 3), (18, .bipush (-2), 2), (20, .ireturn, 1), (21, .aload_n (0), 1), (22, .getfield (55), 3), (25, .iload_n (1), 1), (26, .invokevirtual (360), 3), (29, .ifCond .ne (6), 3), (32, .bipush (-6), 2), (34, .ireturn, 1), (35, .aload_n (0), 1), (36, .getfield (55), 3), (39, .iload_n (1), 1), (40, .iconst (0), 1), (41, .aload_n (0), 1), (42, .getfield (19), 3), (45, .getfield (177), 3), (48, .aload_n (0), 1), (49, .getfield (19), 3), (52, .getfield (244), 3), (55, .iconst (1), 1), (56, .isub, 1), (57, .invokevirtual (403), 3), (60, .ifCond .ne (6), 3), (63, .bipush (-2), 2), (65, .ireturn, 1), (66, .iconst (0), 1), (67, .istore_n (3), 1), (68, .iconst (0), 1), (69, .istore (4), 2), (71, .iload (4), 2), (73, .aload_n (0), 1), (74, .getfield (19), 3), (77, .getfield (244), 3), (80, .if_icmp .ge (41), 3), (83, .aload_n (0), 1), (84, .iload_n (2), 1), (85, .iload (4), 2), (87, .invokevirtual (247), 3), (90, .pop, 1), (91, .aload_n (0), 1), (92, .iload_n (2), 1), (93, .iload (4), 2), (95, .invokevirtual (407), 3), (98, .aload_n (0), 1), (99, .iload_n (1), 1), (100, .iload (4), 2), (102, .invokevirtual (411), 3), (105, .ifCond .eq (10), 3), (108, .iload_n (3), 1), (109, .iconst (1), 1), (110, .iload (4), 2), (112, .ishl, 1), (113, .ior, 1), (114, .istore_n (3), 1), (115, .iinc (4) (1), 3), (118, .goto (-47), 3), (121, .iload_n (3), 1), (122, .ireturn, 1)]
set_option maxRecDepth 100000 in
theorem zD_156_ok : zDo 156 zD_156 = true := by decide +kernel
theorem zc_156 : zcls 156 = 7 := by decide +kernel
theorem zm_156 : zml 156 = 5 := by decide +kernel
theorem zt_156 : zrt 156 = (some (.int)) := by decide +kernel
theorem zk_156 : zkd 156 = 1 ∧ znp 156 + 1 = 3 := by decide +kernel
theorem zr_156 (as : List zV) : zrk 156 as = 5 := by unfold zrk; rw [if_neg (by decide)]; decide +kernel
def lX_possibleHomes_c71 (x1 : Int) (x2 : Int) : Nat → Int → Int → (Nat → Nat → Int) → Option (Int × (Nat → Nat → Int))
  | 0, _, _, _ => none
  | n + 1, y3, y4, M =>
    (if y4 < (M 3 0) then
    ((lX_signedLivingAt x2 y4 M).bind (fun r87_ =>
    ((lX_keepTrace x2 y4 r87_.2).bind (fun M95 =>
    ((lX_agreesWithSeen x1 y4 M95).bind (fun v102 =>
    (if v102 = 0 then
    ((lX_possibleHomes_c71 x1 x2 n) y3 (w32 (y4 + 1)) M95)
    else
    ((lX_possibleHomes_c71 x1 x2 n) (zor y3 (zshl (1 : Int) y4)) (w32 (y4 + 1)) M95))))))))
    else
    (some (y3, M)))
set_option maxRecDepth 100000 in
theorem ok_lX_possibleHomes_c71 {sc : zSc} {q : Nat} {P : Option zV → (Nat → Nat → Int) → Prop} (hq : 5 ≤ q) (x1 : Int) (x2 : Int) : ∀ (n : Nat) (y3 : Int) (y4 : Int) (M : Nat → Nat → Int), zS (lX_possibleHomes_c71 x1 x2 n y3 y4 M) (fun r => P (some (.inl r.1)) r.2) → zWp sc q 156 71 [some (.inr (.inr 0)), some (.inl x1), some (.inl x2), some (.inl y3), some (.inl y4)] [] M P := by
  intro n
  induction n with
  | zero => intro y3 y4 M h; exact (zS_none h).elim
  | succ n ih =>
    intro y3 y4 M h
    rw [lX_possibleHomes_c71] at h
    refine E_iload (pc := 71) (zDk zD_156_ok 37 rfl) rfl ?_
    refine E_aload_n (pc := 73) (zDk zD_156_ok 38 rfl) rfl ?_
    refine E_getR (pc := 74) (ci := 7) (f := 1) (r := 3) (zDk zD_156_ok 39 rfl) zc_156 (by decide +kernel) (by decide) zis_7_0 (by decide +kernel) (by decide) ?_
    refine E_getI (pc := 77) (ci := 6) (f := 0) (zDk zD_156_ok 40 rfl) zc_156 (by decide +kernel) (by decide) zis_6_3 ?_
    refine E_icmp (pc := 80) (t := 121) (zDk zD_156_ok 41 rfl) rfl (fun hz => ?_) (fun hz => ?_)
    · have h := zS_f h (Int.not_lt.mpr (T_ge hz))
      refine E_iload_n (pc := 121) (zDk zD_156_ok 64 rfl) rfl ?_
      have h := zS_some h
      exact E_ireturn (pc := 122) (zDk zD_156_ok 65 rfl) zt_156 h
    · have h := zS_t h (F_ge hz)
      refine E_aload_n (pc := 83) (zDk zD_156_ok 42 rfl) rfl ?_
      refine E_iload_n (pc := 84) (zDk zD_156_ok 43 rfl) rfl ?_
      refine E_iload (pc := 85) (zDk zD_156_ok 44 rfl) rfl ?_
      obtain ⟨r87_, e87, h⟩ := zS_bind h
      refine E_virI (pc := 87) (c := 155) (r := 0) (as := [.inl x2, .inl y4]) (rest := []) (zDk zD_156_ok 45 rfl) zc_156 (by decide +kernel) zk_155 ⟨(Nat.le_of_ble_eq_true rfl), rfl, rfl⟩ (Nat.le_of_ble_eq_true rfl) (zr_155 _) (Nat.lt_of_lt_of_le (by decide) hq) (by rw [zm_155]; exact (Nat.le_of_ble_eq_true rfl)) ⟨zc_155, by decide⟩ zis_7_0 (ok_lX_signedLivingAt ⟨r87_, e87, ?_⟩)
      refine E_pop (pc := 90) (zDk zD_156_ok 46 rfl) rfl ?_
      refine E_aload_n (pc := 91) (zDk zD_156_ok 47 rfl) rfl ?_
      refine E_iload_n (pc := 92) (zDk zD_156_ok 48 rfl) rfl ?_
      refine E_iload (pc := 93) (zDk zD_156_ok 49 rfl) rfl ?_
      obtain ⟨M95, e95, h⟩ := zS_bind h
      refine E_virV (pc := 95) (c := 157) (r := 0) (as := [.inl x2, .inl y4]) (rest := []) (zDk zD_156_ok 50 rfl) zc_156 (by decide +kernel) zk_157 ⟨(Nat.le_of_ble_eq_true rfl), rfl, rfl⟩ (Nat.le_of_ble_eq_true rfl) (zr_157 _) (Nat.lt_of_lt_of_le (by decide) hq) (by rw [zm_157]; exact (Nat.le_of_ble_eq_true rfl)) ⟨zc_157, by decide⟩ zis_7_0 (ok_lX_keepTrace ⟨M95, e95, ?_⟩)
      refine E_aload_n (pc := 98) (zDk zD_156_ok 51 rfl) rfl ?_
      refine E_iload_n (pc := 99) (zDk zD_156_ok 52 rfl) rfl ?_
      refine E_iload (pc := 100) (zDk zD_156_ok 53 rfl) rfl ?_
      obtain ⟨v102, e102, h⟩ := zS_bind h
      refine E_virI (pc := 102) (c := 159) (r := 0) (as := [.inl x1, .inl y4]) (rest := []) (zDk zD_156_ok 54 rfl) zc_156 (by decide +kernel) zk_159 ⟨(Nat.le_of_ble_eq_true rfl), rfl, rfl⟩ (Nat.le_of_ble_eq_true rfl) (zr_159 _) (Nat.lt_of_lt_of_le (by decide) hq) (by rw [zm_159]; exact (Nat.le_of_ble_eq_true rfl)) ⟨zc_159, by decide⟩ zis_7_0 (ok_lX_agreesWithSeen ⟨v102, e102, ?_⟩)
      refine E_if (pc := 105) (t := 115) (zDk zD_156_ok 55 rfl) rfl (fun hz => ?_) (fun hz => ?_)
      · have h := zS_t h (T_eq hz)
        refine W_iinc (pc := 115) (L' := [some (.inr (.inr 0)), some (.inl x1), some (.inl x2), some (.inl y3), some (.inl (w32 (y4 + 1)))]) (zDk zD_156_ok 62 rfl) rfl zm_156 (by decide) rfl ?_
        refine E_goto (pc := 118) (t := 71) (zDk zD_156_ok 63 rfl) rfl ?_
        exact (ih) y3 (w32 (y4 + 1)) M95 h
      · have h := zS_f h (F_eq hz)
        refine E_iload_n (pc := 108) (zDk zD_156_ok 56 rfl) rfl ?_
        refine E_iconst (pc := 109) (zDk zD_156_ok 57 rfl) (by decide +kernel) ?_
        refine E_iload (pc := 110) (zDk zD_156_ok 58 rfl) rfl ?_
        refine E_ishl (pc := 112) (zDk zD_156_ok 59 rfl) ?_
        refine E_ior (pc := 113) (zDk zD_156_ok 60 rfl) ?_
        refine W_istore_n (pc := 114) (L' := [some (.inr (.inr 0)), some (.inl x1), some (.inl x2), some (.inl (zor y3 (zshl (1 : Int) y4))), some (.inl y4)]) (zDk zD_156_ok 61 rfl) zm_156 (by decide) rfl ?_
        refine W_iinc (pc := 115) (L' := [some (.inr (.inr 0)), some (.inl x1), some (.inl x2), some (.inl (zor y3 (zshl (1 : Int) y4))), some (.inl (w32 (y4 + 1)))]) (zDk zD_156_ok 62 rfl) rfl zm_156 (by decide) rfl ?_
        refine E_goto (pc := 118) (t := 71) (zDk zD_156_ok 63 rfl) rfl ?_
        exact (ih) (zor y3 (zshl (1 : Int) y4)) (w32 (y4 + 1)) M95 h
def lX_possibleHomes (x1 : Int) (x2 : Int) (M : Nat → Nat → Int) : Option (Int × (Nat → Nat → Int)) :=
    ((lW_isSlot x1 M).bind (fun v1 =>
    (if v1 = 0 then
    (some ((-2 : Int), M))
    else
    ((lT_hasName 3 x2 M).bind (fun v12 =>
    (if v12 = 0 then
    (some ((-2 : Int), M))
    else
    ((lW_isFilled x1 M).bind (fun v26 =>
    (if v26 = 0 then
    (some ((-6 : Int), M))
    else
    ((lW_holdsPairs x1 (0 : Int) (M 3 1) (w32 ((M 3 0) - (1 : Int))) M).bind (fun v57 =>
    (if v57 = 0 then
    (some ((-2 : Int), M))
    else
    (lX_possibleHomes_c71 x1 x2 zN (0 : Int) (0 : Int) M)))))))))))))
set_option maxRecDepth 100000 in
theorem ok_lX_possibleHomes {sc : zSc} {x1 : Int} {x2 : Int} {M : Nat → Nat → Int} {P : Int → (Nat → Nat → Int) → Prop} (h : zS (lX_possibleHomes x1 x2 M) (fun r => P r.1 r.2)) : zCi sc 156 [.inr (.inr 0), .inl x1, .inl x2] M P := by
  have ea : zarg (zml 156) [.inr (.inr 0), .inl x1, .inl x2] = [some (.inr (.inr 0)), some (.inl x1), some (.inl x2), none, none] := by rw [zm_156]; rfl
  unfold zCi zCw
  rw [ea, zr_156]
  have hq : 5 ≤ 5 := Nat.le_refl _
  unfold lX_possibleHomes at h
  have h := zS_mono h (fun x hx => (⟨x.1, rfl, hx⟩ : ∃ y, (some (.inl x.1) : Option zV) = some (.inl y) ∧ P y x.2))
  skip
  refine E_iload_n (pc := 0) (zDk zD_156_ok 0 rfl) rfl ?_
  obtain ⟨v1, e1, h⟩ := zS_bind h
  refine E_staI (pc := 1) (c := 59) (as := [.inl x1]) (rest := []) (zDk zD_156_ok 1 rfl) zc_156 (by decide +kernel) (by decide +kernel) zk_59 ⟨(Nat.le_of_ble_eq_true rfl), rfl, rfl⟩ (Nat.le_of_ble_eq_true rfl) (zr_59 _) (Nat.lt_of_lt_of_le (by decide) hq) (by rw [zm_59]; exact (Nat.le_of_ble_eq_true rfl)) (ok_lW_isSlot ⟨v1, e1, ?_⟩)
  refine E_if (pc := 4) (t := 18) (zDk zD_156_ok 2 rfl) rfl (fun hz => ?_) (fun hz => ?_)
  · have h := zS_t h (T_eq hz)
    refine E_bipush (pc := 18) (zDk zD_156_ok 8 rfl) (by decide +kernel) ?_
    have h := zS_some h
    exact E_ireturn (pc := 20) (zDk zD_156_ok 9 rfl) zt_156 h
  · have h := zS_f h (F_eq hz)
    refine E_aload_n (pc := 7) (zDk zD_156_ok 3 rfl) rfl ?_
    refine E_getR (pc := 8) (ci := 7) (f := 1) (r := 3) (zDk zD_156_ok 4 rfl) zc_156 (by decide +kernel) (by decide) zis_7_0 (by decide +kernel) (by decide) ?_
    refine E_iload_n (pc := 11) (zDk zD_156_ok 5 rfl) rfl ?_
    obtain ⟨v12, e12, h⟩ := zS_bind h
    refine E_virI (pc := 12) (c := 73) (r := 3) (as := [.inl x2]) (rest := []) (zDk zD_156_ok 6 rfl) zc_156 (by decide +kernel) zk_73 ⟨(Nat.le_of_ble_eq_true rfl), rfl, rfl⟩ (Nat.le_of_ble_eq_true rfl) (zr_73 _) (Nat.lt_of_lt_of_le (by decide) hq) (by rw [zm_73]; exact (Nat.le_of_ble_eq_true rfl)) ⟨zc_73, by decide⟩ zis_6_3 (ok_lT_hasName ⟨v12, e12, ?_⟩)
    refine E_if (pc := 15) (t := 21) (zDk zD_156_ok 7 rfl) rfl (fun hz => ?_) (fun hz => ?_)
    · have h := zS_f h (T_ne hz)
      refine E_aload_n (pc := 21) (zDk zD_156_ok 10 rfl) rfl ?_
      refine E_getR (pc := 22) (ci := 7) (f := 7) (r := 97) (zDk zD_156_ok 11 rfl) zc_156 (by decide +kernel) (by decide) zis_7_0 (by decide +kernel) (by decide) ?_
      refine E_iload_n (pc := 25) (zDk zD_156_ok 12 rfl) rfl ?_
      obtain ⟨v26, e26, h⟩ := zS_bind h
      refine E_virI (pc := 26) (c := 60) (r := 97) (as := [.inl x1]) (rest := []) (zDk zD_156_ok 13 rfl) zc_156 (by decide +kernel) zk_60 ⟨(Nat.le_of_ble_eq_true rfl), rfl, rfl⟩ (Nat.le_of_ble_eq_true rfl) (zr_60 _) (Nat.lt_of_lt_of_le (by decide) hq) (by rw [zm_60]; exact (Nat.le_of_ble_eq_true rfl)) ⟨zc_60, by decide⟩ zis_5_97 (ok_lW_isFilled ⟨v26, e26, ?_⟩)
      refine E_if (pc := 29) (t := 35) (zDk zD_156_ok 14 rfl) rfl (fun hz => ?_) (fun hz => ?_)
      · have h := zS_f h (T_ne hz)
        refine E_aload_n (pc := 35) (zDk zD_156_ok 17 rfl) rfl ?_
        refine E_getR (pc := 36) (ci := 7) (f := 7) (r := 97) (zDk zD_156_ok 18 rfl) zc_156 (by decide +kernel) (by decide) zis_7_0 (by decide +kernel) (by decide) ?_
        refine E_iload_n (pc := 39) (zDk zD_156_ok 19 rfl) rfl ?_
        refine E_iconst (pc := 40) (zDk zD_156_ok 20 rfl) (by decide +kernel) ?_
        refine E_aload_n (pc := 41) (zDk zD_156_ok 21 rfl) rfl ?_
        refine E_getR (pc := 42) (ci := 7) (f := 1) (r := 3) (zDk zD_156_ok 22 rfl) zc_156 (by decide +kernel) (by decide) zis_7_0 (by decide +kernel) (by decide) ?_
        refine E_getI (pc := 45) (ci := 6) (f := 1) (zDk zD_156_ok 23 rfl) zc_156 (by decide +kernel) (by decide) zis_6_3 ?_
        refine E_aload_n (pc := 48) (zDk zD_156_ok 24 rfl) rfl ?_
        refine E_getR (pc := 49) (ci := 7) (f := 1) (r := 3) (zDk zD_156_ok 25 rfl) zc_156 (by decide +kernel) (by decide) zis_7_0 (by decide +kernel) (by decide) ?_
        refine E_getI (pc := 52) (ci := 6) (f := 0) (zDk zD_156_ok 26 rfl) zc_156 (by decide +kernel) (by decide) zis_6_3 ?_
        refine E_iconst (pc := 55) (zDk zD_156_ok 27 rfl) (by decide +kernel) ?_
        refine W_isub (pc := 56) (zDk zD_156_ok 28 rfl) ?_
        obtain ⟨v57, e57, h⟩ := zS_bind h
        refine E_virI (pc := 57) (c := 64) (r := 97) (as := [.inl x1, .inl (0 : Int), .inl (M 3 1), .inl (w32 ((M 3 0) - (1 : Int)))]) (rest := []) (zDk zD_156_ok 29 rfl) zc_156 (by decide +kernel) zk_64 ⟨(Nat.le_of_ble_eq_true rfl), rfl, rfl⟩ (Nat.le_of_ble_eq_true rfl) (zr_64 _) (Nat.lt_of_lt_of_le (by decide) hq) (by rw [zm_64]; exact (Nat.le_of_ble_eq_true rfl)) ⟨zc_64, by decide⟩ zis_5_97 (ok_lW_holdsPairs ⟨v57, e57, ?_⟩)
        refine E_if (pc := 60) (t := 66) (zDk zD_156_ok 30 rfl) rfl (fun hz => ?_) (fun hz => ?_)
        · have h := zS_f h (T_ne hz)
          refine E_iconst (pc := 66) (zDk zD_156_ok 33 rfl) (by decide +kernel) ?_
          refine W_istore_n (pc := 67) (L' := [some (.inr (.inr 0)), some (.inl x1), some (.inl x2), some (.inl (0 : Int)), none]) (zDk zD_156_ok 34 rfl) zm_156 (by decide) rfl ?_
          refine E_iconst (pc := 68) (zDk zD_156_ok 35 rfl) (by decide +kernel) ?_
          refine W_istore (pc := 69) (L' := [some (.inr (.inr 0)), some (.inl x1), some (.inl x2), some (.inl (0 : Int)), some (.inl (0 : Int))]) (zDk zD_156_ok 36 rfl) zm_156 (by decide) rfl ?_
          exact ok_lX_possibleHomes_c71 hq x1 x2 zN (0 : Int) (0 : Int) M h
        · have h := zS_t h (F_ne hz)
          refine E_bipush (pc := 63) (zDk zD_156_ok 31 rfl) (by decide +kernel) ?_
          have h := zS_some h
          exact E_ireturn (pc := 65) (zDk zD_156_ok 32 rfl) zt_156 h
      · have h := zS_t h (F_ne hz)
        refine E_bipush (pc := 32) (zDk zD_156_ok 15 rfl) (by decide +kernel) ?_
        have h := zS_some h
        exact E_ireturn (pc := 34) (zDk zD_156_ok 16 rfl) zt_156 h
    · have h := zS_t h (F_ne hz)
      refine E_bipush (pc := 18) (zDk zD_156_ok 8 rfl) (by decide +kernel) ?_
      have h := zS_some h
      exact E_ireturn (pc := 20) (zDk zD_156_ok 9 rfl) zt_156 h
def zD_199 : List (Nat × Instr × Nat) := [(0, .aload_n (0), 1), (1, .aload_n (1), 1), (2, .invokevirtual (155), 3), (5, .istore_n (2), 1), (6, .iload_n (2), 1), (7, .ifCond .eq (7), 3), (10, .aload_n (0), 1), (11, .invokevirtual (159), 3), (14, .iload_n (2), 1), (15, .ireturn, 1)]
set_option maxRecDepth 100000 in
theorem zD_199_ok : zDo 199 zD_199 = true := by decide +kernel
theorem zc_199 : zcls 199 = 8 := by decide +kernel
theorem zm_199 : zml 199 = 3 := by decide +kernel
theorem zt_199 : zrt 199 = (some (.boolean)) := by decide +kernel
theorem zk_199 : zkd 199 = 1 ∧ znp 199 + 1 = 2 := by decide +kernel
theorem zr_199 (as : List zV) : zrk 199 as = 5 := by unfold zrk; rw [if_neg (by decide)]; decide +kernel
def lm_takes (w1 : Nat) (M : Nat → Nat → Int) : Option (Int × (Nat → Nat → Int)) :=
    (if 5003 ≤ w1 ∧ w1 < 5033 then
    ((lm_is w1 M).bind (fun v2 =>
    (if v2 = 0 then
    (if v2 = 0 ∨ v2 = 1 then some (v2, M) else none)
    else
    ((lm_advance M).bind (fun M11 =>
    (if v2 = 0 ∨ v2 = 1 then some (v2, M11) else none))))))
    else none)
set_option maxRecDepth 100000 in
theorem ok_lm_takes {sc : zSc} {w1 : Nat} {M : Nat → Nat → Int} {P : Int → (Nat → Nat → Int) → Prop} (h : zS (lm_takes w1 M) (fun r => P r.1 r.2)) : zCi sc 199 [.inr (.inr 106), .inr (.inr w1)] M P := by
  have ea : zarg (zml 199) [.inr (.inr 106), .inr (.inr w1)] = [some (.inr (.inr 106)), some (.inr (.inr w1)), none] := by rw [zm_199]; rfl
  unfold zCi zCw
  rw [ea, zr_199]
  have hq : 5 ≤ 5 := Nat.le_refl _
  unfold lm_takes at h
  have h := zS_mono h (fun x hx => (⟨x.1, rfl, hx⟩ : ∃ y, (some (.inl x.1) : Option zV) = some (.inl y) ∧ P y x.2))
  obtain ⟨hw1, h⟩ := zS_c h
  skip
  refine E_aload_n (pc := 0) (zDk zD_199_ok 0 rfl) rfl ?_
  refine E_aload_n (pc := 1) (zDk zD_199_ok 1 rfl) rfl ?_
  obtain ⟨v2, e2, h⟩ := zS_bind h
  refine E_virI (pc := 2) (c := 198) (r := 106) (as := [.inr (.inr w1)]) (rest := []) (zDk zD_199_ok 2 rfl) zc_199 (by decide +kernel) zk_198 ⟨(Nat.le_of_ble_eq_true rfl), rfl, rfl⟩ (Nat.le_of_ble_eq_true rfl) (zr_198 _) (Nat.lt_of_lt_of_le (by decide) hq) (by rw [zm_198]; exact (Nat.le_of_ble_eq_true rfl)) ⟨zc_198, by decide⟩ zis_8_106 (ok_lm_is ⟨v2, e2, ?_⟩)
  refine W_istore_n (pc := 5) (L' := [some (.inr (.inr 106)), some (.inr (.inr w1)), some (.inl v2)]) (zDk zD_199_ok 3 rfl) zm_199 (by decide) rfl ?_
  refine E_iload_n (pc := 6) (zDk zD_199_ok 4 rfl) rfl ?_
  refine E_if (pc := 7) (t := 14) (zDk zD_199_ok 5 rfl) rfl (fun hz => ?_) (fun hz => ?_)
  · have h := zS_t h (T_eq hz)
    refine E_iload_n (pc := 14) (zDk zD_199_ok 8 rfl) rfl ?_
    obtain ⟨hx, h⟩ := zS_c h
    have h := zS_some h
    exact E_ireturnZ (pc := 15) (zDk zD_199_ok 9 rfl) zt_199 hx h
  · have h := zS_f h (F_eq hz)
    refine E_aload_n (pc := 10) (zDk zD_199_ok 6 rfl) rfl ?_
    obtain ⟨M11, e11, h⟩ := zS_bind h
    refine E_virV (pc := 11) (c := 195) (r := 106) (as := []) (rest := []) (zDk zD_199_ok 7 rfl) zc_199 (by decide +kernel) zk_195 ⟨(Nat.le_of_ble_eq_true rfl), rfl, rfl⟩ (Nat.le_of_ble_eq_true rfl) (zr_195 _) (Nat.lt_of_lt_of_le (by decide) hq) (by rw [zm_195]; exact (Nat.le_of_ble_eq_true rfl)) ⟨zc_195, by decide⟩ zis_8_106 (ok_lm_advance ⟨M11, e11, ?_⟩)
    refine E_iload_n (pc := 14) (zDk zD_199_ok 8 rfl) rfl ?_
    obtain ⟨hx, h⟩ := zS_c h
    have h := zS_some h
    exact E_ireturnZ (pc := 15) (zDk zD_199_ok 9 rfl) zt_199 hx h
def zD_210 : List (Nat × Instr × Nat) := [(0, .aload_n (0), 1), (1, .ldc (208), 2), (3, .invokevirtual (155), 3), (6, .ifCond .eq (14), 3), (9, .aload_n (0), 1), (10, .getfield (31), 3), (13, .iconst (4), 1), (14, .iaload, 1), (15, .bipush (12), 2), (17, .if_icmp .eq (22), 3), (20, .aload_n (0), 1), (21, .ldc (210), 2), (23, .invokevirtual (155), 3), (26, .ifCond .eq (15), 3), (29, .aload_n (0), 1), (30, .getfield (31), 3), (33, .iconst (5), 1), (34, .iaload, 1), (35, .iconst (4), 1), (36, .if_icmp .ne (5), 3), (39, .iconst (1), 1), (40, .ireturn, 1), (41, .aload_n (0), 1), (42, .ldc (212), 2), (44, .invokevirtual (155), 3), (47, .ifCond .eq (14), 3), (50, .aload_n (0), 1), (51, .getfield (31), 3), (54, .bipush (6), 2), (56, .iaload, 1), (57, .iconst (5), 1), (58, .if_icmp .eq (24), 3), (61, .aload_n (0), 1), (62, .ldc (214), 2), (64, .invokevirtual (155), 3), (67, .ifCond .eq (19), 3), (70, .aload_n (0), 1), (71, .getfield (31), 3), (74, .bipush (7), 2), (76, .iaload, 1), (77, .bipush (6), 2), (79, .if_icmp .ne (7), 3), (82, .iconst (1), 1), (83, .goto (4), 3), (86, .iconst (0), 1), (87, .ireturn, 1)]
set_option maxRecDepth 100000 in
theorem zD_210_ok : zDo 210 zD_210 = true := by decide +kernel
theorem zc_210 : zcls 210 = 8 := by decide +kernel
theorem zm_210 : zml 210 = 1 := by decide +kernel
theorem zt_210 : zrt 210 = (some (.boolean)) := by decide +kernel
theorem zk_210 : zkd 210 = 1 ∧ znp 210 + 1 = 1 := by decide +kernel
theorem zr_210 (as : List zV) : zrk 210 as = 5 := by unfold zrk; rw [if_neg (by decide)]; decide +kernel
def lm_isFull_c61 (M : Nat → Nat → Int) : Option Int :=
    ((lm_is 5026 M).bind (fun v64 =>
    (if v64 = 0 then
    (some (0 : Int))
    else
    ((rdI 112 (7 : Int) M).bind (fun v76 =>
    (if v76 = (6 : Int) then
    (some (1 : Int))
    else
    (some (0 : Int))))))))
set_option maxRecDepth 100000 in
theorem ok_lm_isFull_c61 {sc : zSc} {q : Nat} {P : Option zV → (Nat → Nat → Int) → Prop} (hq : 5 ≤ q) (M : Nat → Nat → Int) : zS (lm_isFull_c61 M) (fun x => P (some (.inl x)) M) → zWp sc q 210 61 [some (.inr (.inr 106))] [] M P := by
  intro  h
  unfold lm_isFull_c61 at h
  refine E_aload_n (pc := 61) (zDk zD_210_ok 32 rfl) rfl ?_
  refine E_ldc (pc := 62) (v := .inr (.inr 5026)) (zDk zD_210_ok 33 rfl) zc_210 (by decide +kernel) ?_
  obtain ⟨v64, e64, h⟩ := zS_bind h
  refine E_virI (pc := 64) (c := 198) (r := 106) (as := [.inr (.inr 5026)]) (rest := []) (zDk zD_210_ok 34 rfl) zc_210 (by decide +kernel) zk_198 ⟨(Nat.le_of_ble_eq_true rfl), rfl, rfl⟩ (Nat.le_of_ble_eq_true rfl) (zr_198 _) (Nat.lt_of_lt_of_le (by decide) hq) (by rw [zm_198]; exact (Nat.le_of_ble_eq_true rfl)) ⟨zc_198, by decide⟩ zis_8_106 (ok_lm_is ⟨v64, e64, ?_⟩)
  refine E_if (pc := 67) (t := 86) (zDk zD_210_ok 35 rfl) rfl (fun hz => ?_) (fun hz => ?_)
  · have h := zS_t h (T_eq hz)
    refine E_iconst (pc := 86) (zDk zD_210_ok 44 rfl) (by decide +kernel) ?_
    have h := zS_some h
    exact E_ireturnZ (pc := 87) (zDk zD_210_ok 45 rfl) zt_210 (by decide) h
  · have h := zS_f h (F_eq hz)
    refine E_aload_n (pc := 70) (zDk zD_210_ok 36 rfl) rfl ?_
    refine E_getR (pc := 71) (ci := 8) (f := 14) (r := 112) (zDk zD_210_ok 37 rfl) zc_210 (by decide +kernel) (by decide) zis_8_106 (by decide +kernel) (by decide) ?_
    refine E_bipush (pc := 74) (zDk zD_210_ok 38 rfl) (by decide +kernel) ?_
    obtain ⟨v76, e76, h⟩ := zS_bind h
    refine E_iaload (pc := 76) (zDk zD_210_ok 39 rfl) e76 ?_
    refine E_bipush (pc := 77) (zDk zD_210_ok 40 rfl) (by decide +kernel) ?_
    refine E_icmp (pc := 79) (t := 86) (zDk zD_210_ok 41 rfl) rfl (fun hz => ?_) (fun hz => ?_)
    · have h := zS_f h (T_ne hz)
      refine E_iconst (pc := 86) (zDk zD_210_ok 44 rfl) (by decide +kernel) ?_
      have h := zS_some h
      exact E_ireturnZ (pc := 87) (zDk zD_210_ok 45 rfl) zt_210 (by decide) h
    · have h := zS_t h (F_ne hz)
      refine E_iconst (pc := 82) (zDk zD_210_ok 42 rfl) (by decide +kernel) ?_
      refine E_goto (pc := 83) (t := 87) (zDk zD_210_ok 43 rfl) rfl ?_
      have h := zS_some h
      exact E_ireturnZ (pc := 87) (zDk zD_210_ok 45 rfl) zt_210 (by decide) h
def lm_isFull_c41 (M : Nat → Nat → Int) : Option Int :=
    ((lm_is 5025 M).bind (fun v44 =>
    (if v44 = 0 then
    (lm_isFull_c61 M)
    else
    ((rdI 112 (6 : Int) M).bind (fun v56 =>
    (if v56 = (5 : Int) then
    (some (1 : Int))
    else
    (lm_isFull_c61 M)))))))
set_option maxRecDepth 100000 in
theorem ok_lm_isFull_c41 {sc : zSc} {q : Nat} {P : Option zV → (Nat → Nat → Int) → Prop} (hq : 5 ≤ q) (M : Nat → Nat → Int) : zS (lm_isFull_c41 M) (fun x => P (some (.inl x)) M) → zWp sc q 210 41 [some (.inr (.inr 106))] [] M P := by
  intro  h
  unfold lm_isFull_c41 at h
  refine E_aload_n (pc := 41) (zDk zD_210_ok 22 rfl) rfl ?_
  refine E_ldc (pc := 42) (v := .inr (.inr 5025)) (zDk zD_210_ok 23 rfl) zc_210 (by decide +kernel) ?_
  obtain ⟨v44, e44, h⟩ := zS_bind h
  refine E_virI (pc := 44) (c := 198) (r := 106) (as := [.inr (.inr 5025)]) (rest := []) (zDk zD_210_ok 24 rfl) zc_210 (by decide +kernel) zk_198 ⟨(Nat.le_of_ble_eq_true rfl), rfl, rfl⟩ (Nat.le_of_ble_eq_true rfl) (zr_198 _) (Nat.lt_of_lt_of_le (by decide) hq) (by rw [zm_198]; exact (Nat.le_of_ble_eq_true rfl)) ⟨zc_198, by decide⟩ zis_8_106 (ok_lm_is ⟨v44, e44, ?_⟩)
  refine E_if (pc := 47) (t := 61) (zDk zD_210_ok 25 rfl) rfl (fun hz => ?_) (fun hz => ?_)
  · have h := zS_t h (T_eq hz)
    exact ok_lm_isFull_c61 hq M h
  · have h := zS_f h (F_eq hz)
    refine E_aload_n (pc := 50) (zDk zD_210_ok 26 rfl) rfl ?_
    refine E_getR (pc := 51) (ci := 8) (f := 14) (r := 112) (zDk zD_210_ok 27 rfl) zc_210 (by decide +kernel) (by decide) zis_8_106 (by decide +kernel) (by decide) ?_
    refine E_bipush (pc := 54) (zDk zD_210_ok 28 rfl) (by decide +kernel) ?_
    obtain ⟨v56, e56, h⟩ := zS_bind h
    refine E_iaload (pc := 56) (zDk zD_210_ok 29 rfl) e56 ?_
    refine E_iconst (pc := 57) (zDk zD_210_ok 30 rfl) (by decide +kernel) ?_
    refine E_icmp (pc := 58) (t := 82) (zDk zD_210_ok 31 rfl) rfl (fun hz => ?_) (fun hz => ?_)
    · have h := zS_t h (T_eq hz)
      refine E_iconst (pc := 82) (zDk zD_210_ok 42 rfl) (by decide +kernel) ?_
      refine E_goto (pc := 83) (t := 87) (zDk zD_210_ok 43 rfl) rfl ?_
      have h := zS_some h
      exact E_ireturnZ (pc := 87) (zDk zD_210_ok 45 rfl) zt_210 (by decide) h
    · have h := zS_f h (F_eq hz)
      exact ok_lm_isFull_c61 hq M h
def lm_isFull_c20 (M : Nat → Nat → Int) : Option Int :=
    ((lm_is 5024 M).bind (fun v23 =>
    (if v23 = 0 then
    (lm_isFull_c41 M)
    else
    ((rdI 112 (5 : Int) M).bind (fun v34 =>
    (if v34 = (4 : Int) then
    (some (1 : Int))
    else
    (lm_isFull_c41 M)))))))
set_option maxRecDepth 100000 in
theorem ok_lm_isFull_c20 {sc : zSc} {q : Nat} {P : Option zV → (Nat → Nat → Int) → Prop} (hq : 5 ≤ q) (M : Nat → Nat → Int) : zS (lm_isFull_c20 M) (fun x => P (some (.inl x)) M) → zWp sc q 210 20 [some (.inr (.inr 106))] [] M P := by
  intro  h
  unfold lm_isFull_c20 at h
  refine E_aload_n (pc := 20) (zDk zD_210_ok 10 rfl) rfl ?_
  refine E_ldc (pc := 21) (v := .inr (.inr 5024)) (zDk zD_210_ok 11 rfl) zc_210 (by decide +kernel) ?_
  obtain ⟨v23, e23, h⟩ := zS_bind h
  refine E_virI (pc := 23) (c := 198) (r := 106) (as := [.inr (.inr 5024)]) (rest := []) (zDk zD_210_ok 12 rfl) zc_210 (by decide +kernel) zk_198 ⟨(Nat.le_of_ble_eq_true rfl), rfl, rfl⟩ (Nat.le_of_ble_eq_true rfl) (zr_198 _) (Nat.lt_of_lt_of_le (by decide) hq) (by rw [zm_198]; exact (Nat.le_of_ble_eq_true rfl)) ⟨zc_198, by decide⟩ zis_8_106 (ok_lm_is ⟨v23, e23, ?_⟩)
  refine E_if (pc := 26) (t := 41) (zDk zD_210_ok 13 rfl) rfl (fun hz => ?_) (fun hz => ?_)
  · have h := zS_t h (T_eq hz)
    exact ok_lm_isFull_c41 hq M h
  · have h := zS_f h (F_eq hz)
    refine E_aload_n (pc := 29) (zDk zD_210_ok 14 rfl) rfl ?_
    refine E_getR (pc := 30) (ci := 8) (f := 14) (r := 112) (zDk zD_210_ok 15 rfl) zc_210 (by decide +kernel) (by decide) zis_8_106 (by decide +kernel) (by decide) ?_
    refine E_iconst (pc := 33) (zDk zD_210_ok 16 rfl) (by decide +kernel) ?_
    obtain ⟨v34, e34, h⟩ := zS_bind h
    refine E_iaload (pc := 34) (zDk zD_210_ok 17 rfl) e34 ?_
    refine E_iconst (pc := 35) (zDk zD_210_ok 18 rfl) (by decide +kernel) ?_
    refine E_icmp (pc := 36) (t := 41) (zDk zD_210_ok 19 rfl) rfl (fun hz => ?_) (fun hz => ?_)
    · have h := zS_f h (T_ne hz)
      exact ok_lm_isFull_c41 hq M h
    · have h := zS_t h (F_ne hz)
      refine E_iconst (pc := 39) (zDk zD_210_ok 20 rfl) (by decide +kernel) ?_
      have h := zS_some h
      exact E_ireturnZ (pc := 40) (zDk zD_210_ok 21 rfl) zt_210 (by decide) h
def lm_isFull (M : Nat → Nat → Int) : Option Int :=
    ((lm_is 5023 M).bind (fun v3 =>
    (if v3 = 0 then
    (lm_isFull_c20 M)
    else
    ((rdI 112 (4 : Int) M).bind (fun v14 =>
    (if v14 = (12 : Int) then
    (some (1 : Int))
    else
    (lm_isFull_c20 M)))))))
set_option maxRecDepth 100000 in
theorem ok_lm_isFull {sc : zSc} {M : Nat → Nat → Int} {P : Int → (Nat → Nat → Int) → Prop} (h : zS (lm_isFull M) (fun x => P x M)) : zCi sc 210 [.inr (.inr 106)] M P := by
  have ea : zarg (zml 210) [.inr (.inr 106)] = [some (.inr (.inr 106))] := by rw [zm_210]; rfl
  unfold zCi zCw
  rw [ea, zr_210]
  have hq : 5 ≤ 5 := Nat.le_refl _
  unfold lm_isFull at h
  have h := zS_mono h (fun x hx => (⟨x, rfl, hx⟩ : ∃ y, (some (.inl x) : Option zV) = some (.inl y) ∧ P y M))
  skip
  refine E_aload_n (pc := 0) (zDk zD_210_ok 0 rfl) rfl ?_
  refine E_ldc (pc := 1) (v := .inr (.inr 5023)) (zDk zD_210_ok 1 rfl) zc_210 (by decide +kernel) ?_
  obtain ⟨v3, e3, h⟩ := zS_bind h
  refine E_virI (pc := 3) (c := 198) (r := 106) (as := [.inr (.inr 5023)]) (rest := []) (zDk zD_210_ok 2 rfl) zc_210 (by decide +kernel) zk_198 ⟨(Nat.le_of_ble_eq_true rfl), rfl, rfl⟩ (Nat.le_of_ble_eq_true rfl) (zr_198 _) (Nat.lt_of_lt_of_le (by decide) hq) (by rw [zm_198]; exact (Nat.le_of_ble_eq_true rfl)) ⟨zc_198, by decide⟩ zis_8_106 (ok_lm_is ⟨v3, e3, ?_⟩)
  refine E_if (pc := 6) (t := 20) (zDk zD_210_ok 3 rfl) rfl (fun hz => ?_) (fun hz => ?_)
  · have h := zS_t h (T_eq hz)
    exact ok_lm_isFull_c20 hq M h
  · have h := zS_f h (F_eq hz)
    refine E_aload_n (pc := 9) (zDk zD_210_ok 4 rfl) rfl ?_
    refine E_getR (pc := 10) (ci := 8) (f := 14) (r := 112) (zDk zD_210_ok 5 rfl) zc_210 (by decide +kernel) (by decide) zis_8_106 (by decide +kernel) (by decide) ?_
    refine E_iconst (pc := 13) (zDk zD_210_ok 6 rfl) (by decide +kernel) ?_
    obtain ⟨v14, e14, h⟩ := zS_bind h
    refine E_iaload (pc := 14) (zDk zD_210_ok 7 rfl) e14 ?_
    refine E_bipush (pc := 15) (zDk zD_210_ok 8 rfl) (by decide +kernel) ?_
    refine E_icmp (pc := 17) (t := 39) (zDk zD_210_ok 9 rfl) rfl (fun hz => ?_) (fun hz => ?_)
    · have h := zS_t h (T_eq hz)
      refine E_iconst (pc := 39) (zDk zD_210_ok 20 rfl) (by decide +kernel) ?_
      have h := zS_some h
      exact E_ireturnZ (pc := 40) (zDk zD_210_ok 21 rfl) zt_210 (by decide) h
    · have h := zS_f h (F_eq hz)
      exact ok_lm_isFull_c20 hq M h
def zD_230 : List (Nat × Instr × Nat) := [(0, .aload_n (0), 1), (1, .invokevirtual (308), 3), (4, .ifCond .eq (16), 3), (7, .aload_n (0), 1), (8, .iload_n (1), 1), (9, .i2l, 1), (10, .invokevirtual (311), 3), (13, .ifCond .eq (7), 3), (16, .iconst (1), 1), (17, .goto (4), 3), (20, .iconst (0), 1), (21, .ireturn, 1)]
set_option maxRecDepth 100000 in
theorem zD_230_ok : zDo 230 zD_230 = true := by decide +kernel
theorem zc_230 : zcls 230 = 8 := by decide +kernel
theorem zm_230 : zml 230 = 2 := by decide +kernel
theorem zt_230 : zrt 230 = (some (.boolean)) := by decide +kernel
theorem zk_230 : zkd 230 = 1 ∧ znp 230 + 1 = 2 := by decide +kernel
theorem zr_230 (as : List zV) : zrk 230 as = 5 := by unfold zrk; rw [if_neg (by decide)]; decide +kernel
def lm_asksStep (x1 : Int) (M : Nat → Nat → Int) : Option (Int × (Nat → Nat → Int)) :=
    ((lm_asksState M).bind (fun r1_ =>
    (if r1_.1 = 0 then
    (some ((0 : Int), r1_.2))
    else
    ((lm_isStep x1 r1_.2).bind (fun v10 =>
    (if v10 = 0 then
    (some ((0 : Int), r1_.2))
    else
    (some ((1 : Int), r1_.2))))))))
set_option maxRecDepth 100000 in
theorem ok_lm_asksStep {sc : zSc} {x1 : Int} {M : Nat → Nat → Int} {P : Int → (Nat → Nat → Int) → Prop} (h : zS (lm_asksStep x1 M) (fun r => P r.1 r.2)) : zCi sc 230 [.inr (.inr 106), .inl x1] M P := by
  have ea : zarg (zml 230) [.inr (.inr 106), .inl x1] = [some (.inr (.inr 106)), some (.inl x1)] := by rw [zm_230]; rfl
  unfold zCi zCw
  rw [ea, zr_230]
  have hq : 5 ≤ 5 := Nat.le_refl _
  unfold lm_asksStep at h
  have h := zS_mono h (fun x hx => (⟨x.1, rfl, hx⟩ : ∃ y, (some (.inl x.1) : Option zV) = some (.inl y) ∧ P y x.2))
  skip
  refine E_aload_n (pc := 0) (zDk zD_230_ok 0 rfl) rfl ?_
  obtain ⟨r1_, e1, h⟩ := zS_bind h
  refine E_virI (pc := 1) (c := 229) (r := 106) (as := []) (rest := []) (zDk zD_230_ok 1 rfl) zc_230 (by decide +kernel) zk_229 ⟨(Nat.le_of_ble_eq_true rfl), rfl, rfl⟩ (Nat.le_of_ble_eq_true rfl) (zr_229 _) (Nat.lt_of_lt_of_le (by decide) hq) (by rw [zm_229]; exact (Nat.le_of_ble_eq_true rfl)) ⟨zc_229, by decide⟩ zis_8_106 (ok_lm_asksState ⟨r1_, e1, ?_⟩)
  refine E_if (pc := 4) (t := 20) (zDk zD_230_ok 2 rfl) rfl (fun hz => ?_) (fun hz => ?_)
  · have h := zS_t h (T_eq hz)
    refine E_iconst (pc := 20) (zDk zD_230_ok 10 rfl) (by decide +kernel) ?_
    have h := zS_some h
    exact E_ireturnZ (pc := 21) (zDk zD_230_ok 11 rfl) zt_230 (by decide) h
  · have h := zS_f h (F_eq hz)
    refine E_aload_n (pc := 7) (zDk zD_230_ok 3 rfl) rfl ?_
    refine E_iload_n (pc := 8) (zDk zD_230_ok 4 rfl) rfl ?_
    refine E_i2l (pc := 9) (zDk zD_230_ok 5 rfl) ?_
    obtain ⟨v10, e10, h⟩ := zS_bind h
    refine E_virI (pc := 10) (c := 183) (r := 106) (as := [.inr (.inl x1)]) (rest := []) (zDk zD_230_ok 6 rfl) zc_230 (by decide +kernel) zk_183 ⟨(Nat.le_of_ble_eq_true rfl), rfl, rfl⟩ (Nat.le_of_ble_eq_true rfl) (zr_183 _) (Nat.lt_of_lt_of_le (by decide) hq) (by rw [zm_183]; exact (Nat.le_of_ble_eq_true rfl)) ⟨zc_183, by decide⟩ zis_8_106 (ok_lm_isStep ⟨v10, e10, ?_⟩)
    refine E_if (pc := 13) (t := 20) (zDk zD_230_ok 7 rfl) rfl (fun hz => ?_) (fun hz => ?_)
    · have h := zS_t h (T_eq hz)
      refine E_iconst (pc := 20) (zDk zD_230_ok 10 rfl) (by decide +kernel) ?_
      have h := zS_some h
      exact E_ireturnZ (pc := 21) (zDk zD_230_ok 11 rfl) zt_230 (by decide) h
    · have h := zS_f h (F_eq hz)
      refine E_iconst (pc := 16) (zDk zD_230_ok 8 rfl) (by decide +kernel) ?_
      refine E_goto (pc := 17) (t := 21) (zDk zD_230_ok 9 rfl) rfl ?_
      have h := zS_some h
      exact E_ireturnZ (pc := 21) (zDk zD_230_ok 11 rfl) zt_230 (by decide) h
def zD_231 : List (Nat × Instr × Nat) := [(0, .aload_n (0), 1), (1, .invokevirtual (308), 3), (4, .ifCond .eq (15), 3), (7, .aload_n (0), 1), (8, .iload_n (1), 1), (9, .invokevirtual (265), 3), (12, .ifCond .eq (7), 3), (15, .iconst (1), 1), (16, .goto (4), 3), (19, .iconst (0), 1), (20, .ireturn, 1)]
set_option maxRecDepth 100000 in
theorem zD_231_ok : zDo 231 zD_231 = true := by decide +kernel
theorem zc_231 : zcls 231 = 8 := by decide +kernel
theorem zm_231 : zml 231 = 2 := by decide +kernel
theorem zt_231 : zrt 231 = (some (.boolean)) := by decide +kernel
theorem zk_231 : zkd 231 = 1 ∧ znp 231 + 1 = 2 := by decide +kernel
theorem zr_231 (as : List zV) : zrk 231 as = 5 := by unfold zrk; rw [if_neg (by decide)]; decide +kernel
def lm_asksName (x1 : Int) (M : Nat → Nat → Int) : Option (Int × (Nat → Nat → Int)) :=
    ((lm_asksState M).bind (fun r1_ =>
    (if r1_.1 = 0 then
    (some ((0 : Int), r1_.2))
    else
    ((lm_isName x1 r1_.2).bind (fun v9 =>
    (if v9 = 0 then
    (some ((0 : Int), r1_.2))
    else
    (some ((1 : Int), r1_.2))))))))
set_option maxRecDepth 100000 in
theorem ok_lm_asksName {sc : zSc} {x1 : Int} {M : Nat → Nat → Int} {P : Int → (Nat → Nat → Int) → Prop} (h : zS (lm_asksName x1 M) (fun r => P r.1 r.2)) : zCi sc 231 [.inr (.inr 106), .inl x1] M P := by
  have ea : zarg (zml 231) [.inr (.inr 106), .inl x1] = [some (.inr (.inr 106)), some (.inl x1)] := by rw [zm_231]; rfl
  unfold zCi zCw
  rw [ea, zr_231]
  have hq : 5 ≤ 5 := Nat.le_refl _
  unfold lm_asksName at h
  have h := zS_mono h (fun x hx => (⟨x.1, rfl, hx⟩ : ∃ y, (some (.inl x.1) : Option zV) = some (.inl y) ∧ P y x.2))
  skip
  refine E_aload_n (pc := 0) (zDk zD_231_ok 0 rfl) rfl ?_
  obtain ⟨r1_, e1, h⟩ := zS_bind h
  refine E_virI (pc := 1) (c := 229) (r := 106) (as := []) (rest := []) (zDk zD_231_ok 1 rfl) zc_231 (by decide +kernel) zk_229 ⟨(Nat.le_of_ble_eq_true rfl), rfl, rfl⟩ (Nat.le_of_ble_eq_true rfl) (zr_229 _) (Nat.lt_of_lt_of_le (by decide) hq) (by rw [zm_229]; exact (Nat.le_of_ble_eq_true rfl)) ⟨zc_229, by decide⟩ zis_8_106 (ok_lm_asksState ⟨r1_, e1, ?_⟩)
  refine E_if (pc := 4) (t := 19) (zDk zD_231_ok 2 rfl) rfl (fun hz => ?_) (fun hz => ?_)
  · have h := zS_t h (T_eq hz)
    refine E_iconst (pc := 19) (zDk zD_231_ok 9 rfl) (by decide +kernel) ?_
    have h := zS_some h
    exact E_ireturnZ (pc := 20) (zDk zD_231_ok 10 rfl) zt_231 (by decide) h
  · have h := zS_f h (F_eq hz)
    refine E_aload_n (pc := 7) (zDk zD_231_ok 3 rfl) rfl ?_
    refine E_iload_n (pc := 8) (zDk zD_231_ok 4 rfl) rfl ?_
    obtain ⟨v9, e9, h⟩ := zS_bind h
    refine E_virI (pc := 9) (c := 186) (r := 106) (as := [.inl x1]) (rest := []) (zDk zD_231_ok 5 rfl) zc_231 (by decide +kernel) zk_186 ⟨(Nat.le_of_ble_eq_true rfl), rfl, rfl⟩ (Nat.le_of_ble_eq_true rfl) (zr_186 _) (Nat.lt_of_lt_of_le (by decide) hq) (by rw [zm_186]; exact (Nat.le_of_ble_eq_true rfl)) ⟨zc_186, by decide⟩ zis_8_106 (ok_lm_isName ⟨v9, e9, ?_⟩)
    refine E_if (pc := 12) (t := 19) (zDk zD_231_ok 6 rfl) rfl (fun hz => ?_) (fun hz => ?_)
    · have h := zS_t h (T_eq hz)
      refine E_iconst (pc := 19) (zDk zD_231_ok 9 rfl) (by decide +kernel) ?_
      have h := zS_some h
      exact E_ireturnZ (pc := 20) (zDk zD_231_ok 10 rfl) zt_231 (by decide) h
    · have h := zS_f h (F_eq hz)
      refine E_iconst (pc := 15) (zDk zD_231_ok 7 rfl) (by decide +kernel) ?_
      refine E_goto (pc := 16) (t := 20) (zDk zD_231_ok 8 rfl) rfl ?_
      have h := zS_some h
      exact E_ireturnZ (pc := 20) (zDk zD_231_ok 10 rfl) zt_231 (by decide) h
def zD_232 : List (Nat × Instr × Nat) := [(0, .aload_n (0), 1), (1, .invokevirtual (308), 3), (4, .ifCond .eq (15), 3), (7, .aload_n (0), 1), (8, .iload_n (1), 1), (9, .invokevirtual (270), 3), (12, .ifCond .eq (7), 3), (15, .iconst (1), 1), (16, .goto (4), 3), (19, .iconst (0), 1), (20, .ireturn, 1)]
set_option maxRecDepth 100000 in
theorem zD_232_ok : zDo 232 zD_232 = true := by decide +kernel
theorem zc_232 : zcls 232 = 8 := by decide +kernel
theorem zm_232 : zml 232 = 2 := by decide +kernel
theorem zt_232 : zrt 232 = (some (.boolean)) := by decide +kernel
theorem zk_232 : zkd 232 = 1 ∧ znp 232 + 1 = 2 := by decide +kernel
theorem zr_232 (as : List zV) : zrk 232 as = 5 := by unfold zrk; rw [if_neg (by decide)]; decide +kernel
def lm_asksContract (x1 : Int) (M : Nat → Nat → Int) : Option (Int × (Nat → Nat → Int)) :=
    ((lm_asksState M).bind (fun r1_ =>
    (if r1_.1 = 0 then
    (some ((0 : Int), r1_.2))
    else
    ((lm_isContract x1 r1_.2).bind (fun v9 =>
    (if v9 = 0 then
    (some ((0 : Int), r1_.2))
    else
    (some ((1 : Int), r1_.2))))))))
set_option maxRecDepth 100000 in
theorem ok_lm_asksContract {sc : zSc} {x1 : Int} {M : Nat → Nat → Int} {P : Int → (Nat → Nat → Int) → Prop} (h : zS (lm_asksContract x1 M) (fun r => P r.1 r.2)) : zCi sc 232 [.inr (.inr 106), .inl x1] M P := by
  have ea : zarg (zml 232) [.inr (.inr 106), .inl x1] = [some (.inr (.inr 106)), some (.inl x1)] := by rw [zm_232]; rfl
  unfold zCi zCw
  rw [ea, zr_232]
  have hq : 5 ≤ 5 := Nat.le_refl _
  unfold lm_asksContract at h
  have h := zS_mono h (fun x hx => (⟨x.1, rfl, hx⟩ : ∃ y, (some (.inl x.1) : Option zV) = some (.inl y) ∧ P y x.2))
  skip
  refine E_aload_n (pc := 0) (zDk zD_232_ok 0 rfl) rfl ?_
  obtain ⟨r1_, e1, h⟩ := zS_bind h
  refine E_virI (pc := 1) (c := 229) (r := 106) (as := []) (rest := []) (zDk zD_232_ok 1 rfl) zc_232 (by decide +kernel) zk_229 ⟨(Nat.le_of_ble_eq_true rfl), rfl, rfl⟩ (Nat.le_of_ble_eq_true rfl) (zr_229 _) (Nat.lt_of_lt_of_le (by decide) hq) (by rw [zm_229]; exact (Nat.le_of_ble_eq_true rfl)) ⟨zc_229, by decide⟩ zis_8_106 (ok_lm_asksState ⟨r1_, e1, ?_⟩)
  refine E_if (pc := 4) (t := 19) (zDk zD_232_ok 2 rfl) rfl (fun hz => ?_) (fun hz => ?_)
  · have h := zS_t h (T_eq hz)
    refine E_iconst (pc := 19) (zDk zD_232_ok 9 rfl) (by decide +kernel) ?_
    have h := zS_some h
    exact E_ireturnZ (pc := 20) (zDk zD_232_ok 10 rfl) zt_232 (by decide) h
  · have h := zS_f h (F_eq hz)
    refine E_aload_n (pc := 7) (zDk zD_232_ok 3 rfl) rfl ?_
    refine E_iload_n (pc := 8) (zDk zD_232_ok 4 rfl) rfl ?_
    obtain ⟨v9, e9, h⟩ := zS_bind h
    refine E_virI (pc := 9) (c := 187) (r := 106) (as := [.inl x1]) (rest := []) (zDk zD_232_ok 5 rfl) zc_232 (by decide +kernel) zk_187 ⟨(Nat.le_of_ble_eq_true rfl), rfl, rfl⟩ (Nat.le_of_ble_eq_true rfl) (zr_187 _) (Nat.lt_of_lt_of_le (by decide) hq) (by rw [zm_187]; exact (Nat.le_of_ble_eq_true rfl)) ⟨zc_187, by decide⟩ zis_8_106 (ok_lm_isContract ⟨v9, e9, ?_⟩)
    refine E_if (pc := 12) (t := 19) (zDk zD_232_ok 6 rfl) rfl (fun hz => ?_) (fun hz => ?_)
    · have h := zS_t h (T_eq hz)
      refine E_iconst (pc := 19) (zDk zD_232_ok 9 rfl) (by decide +kernel) ?_
      have h := zS_some h
      exact E_ireturnZ (pc := 20) (zDk zD_232_ok 10 rfl) zt_232 (by decide) h
    · have h := zS_f h (F_eq hz)
      refine E_iconst (pc := 15) (zDk zD_232_ok 7 rfl) (by decide +kernel) ?_
      refine E_goto (pc := 16) (t := 20) (zDk zD_232_ok 8 rfl) rfl ?_
      have h := zS_some h
      exact E_ireturnZ (pc := 20) (zDk zD_232_ok 10 rfl) zt_232 (by decide) h
def zD_253 : List (Nat × Instr × Nat) := [(0, .aload_n (0), 1), (1, .invokevirtual (308), 3), (4, .ifCond .ne (6), 3), (7, .bipush (-2), 2), (9, .ireturn, 1), (10, .iconst (0), 1), (11, .istore_n (1), 1), (12, .iconst (0), 1), (13, .istore_n (2), 1), (14, .iload_n (2), 1), (15, .aload_n (0), 1), (16, .invokevirtual (99), 3), (19, .if_icmp .gt (41), 3), (22, .iconst (0), 1), (23, .istore_n (3), 1), (24, .iload_n (3), 1), (25, .aload_n (0), 1), (26, .getfield (9), 3), (29, .iconst (0), 1), (30, .iaload, 1), (31, .if_icmp .ge (23), 3), (34, .iload_n (1), 1), (35, .aload_n (0), 1), (36, .iload_n (3), 1), (37, .iload_n (2), 1), (38, .invokevirtual (317), 3), (41, .invokestatic (332), 3), (44, .invokestatic (338), 3), (47, .istore_n (1), 1), (48, .iinc (3) (1), 3), (51, .goto (-27), 3), (54, .iinc (2) (1), 3), (57, .goto (-43), 3), (60, .iload_n (1), 1), (61, .ireturn, 1)]
set_option maxRecDepth 100000 in
theorem zD_253_ok : zDo 253 zD_253 = true := by decide +kernel
theorem zc_253 : zcls 253 = 8 := by decide +kernel
theorem zm_253 : zml 253 = 4 := by decide +kernel
theorem zt_253 : zrt 253 = (some (.int)) := by decide +kernel
theorem zk_253 : zkd 253 = 1 ∧ znp 253 + 1 = 1 := by decide +kernel
theorem zr_253 (as : List zV) : zrk 253 as = 5 := by unfold zrk; rw [if_neg (by decide)]; decide +kernel
def lm_pack_c24 (h14 : Int → Int → (Nat → Nat → Int) → Option (Int × (Nat → Nat → Int))) : Nat → Int → Int → Int → (Nat → Nat → Int) → Option (Int × (Nat → Nat → Int))
  | 0, _, _, _, _ => none
  | n + 1, y1, y2, y3, M =>
    ((rdI 107 (0 : Int) M).bind (fun v30 =>
    (if y3 < v30 then
    ((lm_hereOf y3 y2 M).bind (fun v38 =>
    ((lm_bits v38 M).bind (fun v41 =>
    ((lm_pack_c24 h14 n) (zmax y1 v41) y2 (w32 (y3 + 1)) M)))))
    else
    (h14 y1 (w32 (y2 + 1)) M))))
set_option maxRecDepth 100000 in
theorem ok_lm_pack_c24 {sc : zSc} {q : Nat} {P : Option zV → (Nat → Nat → Int) → Prop} (hq : 5 ≤ q) (h14 : Int → Int → (Nat → Nat → Int) → Option (Int × (Nat → Nat → Int))) (H14 : ∀ (y1 : Int) (y2 : Int) (M : Nat → Nat → Int) (d3 : Option zV), zS (h14 y1 y2 M) (fun r => P (some (.inl r.1)) r.2) → zWp sc q 253 14 [some (.inr (.inr 106)), some (.inl y1), some (.inl y2), d3] [] M P) : ∀ (n : Nat) (y1 : Int) (y2 : Int) (y3 : Int) (M : Nat → Nat → Int), zS (lm_pack_c24 h14 n y1 y2 y3 M) (fun r => P (some (.inl r.1)) r.2) → zWp sc q 253 24 [some (.inr (.inr 106)), some (.inl y1), some (.inl y2), some (.inl y3)] [] M P := by
  intro n
  induction n with
  | zero => intro y1 y2 y3 M h; exact (zS_none h).elim
  | succ n ih =>
    intro y1 y2 y3 M h
    rw [lm_pack_c24] at h
    refine E_iload_n (pc := 24) (zDk zD_253_ok 15 rfl) rfl ?_
    refine E_aload_n (pc := 25) (zDk zD_253_ok 16 rfl) rfl ?_
    refine E_getR (pc := 26) (ci := 8) (f := 1) (r := 107) (zDk zD_253_ok 17 rfl) zc_253 (by decide +kernel) (by decide) zis_8_106 (by decide +kernel) (by decide) ?_
    refine E_iconst (pc := 29) (zDk zD_253_ok 18 rfl) (by decide +kernel) ?_
    obtain ⟨v30, e30, h⟩ := zS_bind h
    refine E_iaload (pc := 30) (zDk zD_253_ok 19 rfl) e30 ?_
    refine E_icmp (pc := 31) (t := 54) (zDk zD_253_ok 20 rfl) rfl (fun hz => ?_) (fun hz => ?_)
    · have h := zS_f h (Int.not_lt.mpr (T_ge hz))
      refine W_iinc (pc := 54) (L' := [some (.inr (.inr 106)), some (.inl y1), some (.inl (w32 (y2 + 1))), some (.inl y3)]) (zDk zD_253_ok 31 rfl) rfl zm_253 (by decide) rfl ?_
      refine E_goto (pc := 57) (t := 14) (zDk zD_253_ok 32 rfl) rfl ?_
      exact H14 y1 (w32 (y2 + 1)) M (some (.inl y3)) h
    · have h := zS_t h (F_ge hz)
      refine E_iload_n (pc := 34) (zDk zD_253_ok 21 rfl) rfl ?_
      refine E_aload_n (pc := 35) (zDk zD_253_ok 22 rfl) rfl ?_
      refine E_iload_n (pc := 36) (zDk zD_253_ok 23 rfl) rfl ?_
      refine E_iload_n (pc := 37) (zDk zD_253_ok 24 rfl) rfl ?_
      obtain ⟨v38, e38, h⟩ := zS_bind h
      refine E_virI (pc := 38) (c := 236) (r := 106) (as := [.inl y3, .inl y2]) (rest := [.inl y1]) (zDk zD_253_ok 25 rfl) zc_253 (by decide +kernel) zk_236 ⟨(Nat.le_of_ble_eq_true rfl), rfl, rfl⟩ (Nat.le_of_ble_eq_true rfl) (zr_236 _) (Nat.lt_of_lt_of_le (by decide) hq) (by rw [zm_236]; exact (Nat.le_of_ble_eq_true rfl)) ⟨zc_236, by decide⟩ zis_8_106 (ok_lm_hereOf ⟨v38, e38, ?_⟩)
      obtain ⟨v41, e41, h⟩ := zS_bind h
      refine E_staI (pc := 41) (c := 177) (as := [.inl v38]) (rest := [.inl y1]) (zDk zD_253_ok 26 rfl) zc_253 (by decide +kernel) (by decide +kernel) zk_177 ⟨(Nat.le_of_ble_eq_true rfl), rfl, rfl⟩ (Nat.le_of_ble_eq_true rfl) (zr_177 _) (Nat.lt_of_lt_of_le (by decide) hq) (by rw [zm_177]; exact (Nat.le_of_ble_eq_true rfl)) (ok_lm_bits ⟨v41, e41, ?_⟩)
      refine W_max (pc := 44) (zDk zD_253_ok 27 rfl) zc_253 (by decide +kernel) (Nat.le_of_ble_eq_true rfl) (Nat.lt_of_lt_of_le (by decide) hq) ?_
      refine W_istore_n (pc := 47) (L' := [some (.inr (.inr 106)), some (.inl (zmax y1 v41)), some (.inl y2), some (.inl y3)]) (zDk zD_253_ok 28 rfl) zm_253 (by decide) rfl ?_
      refine W_iinc (pc := 48) (L' := [some (.inr (.inr 106)), some (.inl (zmax y1 v41)), some (.inl y2), some (.inl (w32 (y3 + 1)))]) (zDk zD_253_ok 29 rfl) rfl zm_253 (by decide) rfl ?_
      refine E_goto (pc := 51) (t := 24) (zDk zD_253_ok 30 rfl) rfl ?_
      exact (ih) (zmax y1 v41) y2 (w32 (y3 + 1)) M h
def lm_pack_c14 : Nat → Int → Int → (Nat → Nat → Int) → Option (Int × (Nat → Nat → Int))
  | 0, _, _, _ => none
  | n + 1, y1, y2, M =>
    ((lm_last M).bind (fun v16 =>
    (if v16 < y2 then
    (some (y1, M))
    else
    (lm_pack_c24 (lm_pack_c14 n) zN y1 y2 (0 : Int) M))))
set_option maxRecDepth 100000 in
theorem ok_lm_pack_c14 {sc : zSc} {q : Nat} {P : Option zV → (Nat → Nat → Int) → Prop} (hq : 5 ≤ q) : ∀ (n : Nat) (y1 : Int) (y2 : Int) (M : Nat → Nat → Int) (d3 : Option zV), zS (lm_pack_c14 n y1 y2 M) (fun r => P (some (.inl r.1)) r.2) → zWp sc q 253 14 [some (.inr (.inr 106)), some (.inl y1), some (.inl y2), d3] [] M P := by
  intro n
  induction n with
  | zero => intro y1 y2 M d3 h; exact (zS_none h).elim
  | succ n ih =>
    intro y1 y2 M d3 h
    rw [lm_pack_c14] at h
    refine E_iload_n (pc := 14) (zDk zD_253_ok 9 rfl) rfl ?_
    refine E_aload_n (pc := 15) (zDk zD_253_ok 10 rfl) rfl ?_
    obtain ⟨v16, e16, h⟩ := zS_bind h
    refine E_virI (pc := 16) (c := 182) (r := 106) (as := []) (rest := [.inl y2]) (zDk zD_253_ok 11 rfl) zc_253 (by decide +kernel) zk_182 ⟨(Nat.le_of_ble_eq_true rfl), rfl, rfl⟩ (Nat.le_of_ble_eq_true rfl) (zr_182 _) (Nat.lt_of_lt_of_le (by decide) hq) (by rw [zm_182]; exact (Nat.le_of_ble_eq_true rfl)) ⟨zc_182, by decide⟩ zis_8_106 (ok_lm_last ⟨v16, e16, ?_⟩)
    refine E_icmp (pc := 19) (t := 60) (zDk zD_253_ok 12 rfl) rfl (fun hz => ?_) (fun hz => ?_)
    · have h := zS_t h (T_gt hz)
      refine E_iload_n (pc := 60) (zDk zD_253_ok 33 rfl) rfl ?_
      have h := zS_some h
      exact E_ireturn (pc := 61) (zDk zD_253_ok 34 rfl) zt_253 h
    · have h := zS_f h (Int.not_lt.mpr (F_gt hz))
      refine E_iconst (pc := 22) (zDk zD_253_ok 13 rfl) (by decide +kernel) ?_
      refine W_istore_n (pc := 23) (L' := [some (.inr (.inr 106)), some (.inl y1), some (.inl y2), some (.inl (0 : Int))]) (zDk zD_253_ok 14 rfl) zm_253 (by decide) rfl ?_
      exact ok_lm_pack_c24 hq (lm_pack_c14 n) (ih) zN y1 y2 (0 : Int) M h
def lm_pack (M : Nat → Nat → Int) : Option (Int × (Nat → Nat → Int)) :=
    ((lm_asksState M).bind (fun r1_ =>
    (if r1_.1 = 0 then
    (some ((-2 : Int), r1_.2))
    else
    (lm_pack_c14 zN (0 : Int) (0 : Int) r1_.2))))
set_option maxRecDepth 100000 in
theorem ok_lm_pack {sc : zSc} {M : Nat → Nat → Int} {P : Int → (Nat → Nat → Int) → Prop} (h : zS (lm_pack M) (fun r => P r.1 r.2)) : zCi sc 253 [.inr (.inr 106)] M P := by
  have ea : zarg (zml 253) [.inr (.inr 106)] = [some (.inr (.inr 106)), none, none, none] := by rw [zm_253]; rfl
  unfold zCi zCw
  rw [ea, zr_253]
  have hq : 5 ≤ 5 := Nat.le_refl _
  unfold lm_pack at h
  have h := zS_mono h (fun x hx => (⟨x.1, rfl, hx⟩ : ∃ y, (some (.inl x.1) : Option zV) = some (.inl y) ∧ P y x.2))
  skip
  refine E_aload_n (pc := 0) (zDk zD_253_ok 0 rfl) rfl ?_
  obtain ⟨r1_, e1, h⟩ := zS_bind h
  refine E_virI (pc := 1) (c := 229) (r := 106) (as := []) (rest := []) (zDk zD_253_ok 1 rfl) zc_253 (by decide +kernel) zk_229 ⟨(Nat.le_of_ble_eq_true rfl), rfl, rfl⟩ (Nat.le_of_ble_eq_true rfl) (zr_229 _) (Nat.lt_of_lt_of_le (by decide) hq) (by rw [zm_229]; exact (Nat.le_of_ble_eq_true rfl)) ⟨zc_229, by decide⟩ zis_8_106 (ok_lm_asksState ⟨r1_, e1, ?_⟩)
  refine E_if (pc := 4) (t := 10) (zDk zD_253_ok 2 rfl) rfl (fun hz => ?_) (fun hz => ?_)
  · have h := zS_f h (T_ne hz)
    refine E_iconst (pc := 10) (zDk zD_253_ok 5 rfl) (by decide +kernel) ?_
    refine W_istore_n (pc := 11) (L' := [some (.inr (.inr 106)), some (.inl (0 : Int)), none, none]) (zDk zD_253_ok 6 rfl) zm_253 (by decide) rfl ?_
    refine E_iconst (pc := 12) (zDk zD_253_ok 7 rfl) (by decide +kernel) ?_
    refine W_istore_n (pc := 13) (L' := [some (.inr (.inr 106)), some (.inl (0 : Int)), some (.inl (0 : Int)), none]) (zDk zD_253_ok 8 rfl) zm_253 (by decide) rfl ?_
    exact ok_lm_pack_c14 hq zN (0 : Int) (0 : Int) r1_.2 none h
  · have h := zS_t h (F_ne hz)
    refine E_bipush (pc := 7) (zDk zD_253_ok 3 rfl) (by decide +kernel) ?_
    have h := zS_some h
    exact E_ireturn (pc := 9) (zDk zD_253_ok 4 rfl) zt_253 h
def zD_254 : List (Nat × Instr × Nat) := [(0, .aload_n (0), 1), (1, .invokevirtual (308), 3), (4, .ifCond .ne (6), 3), (7, .bipush (-2), 2), (9, .ireturn, 1), (10, .iconst (0), 1), (11, .istore_n (1), 1), (12, .iconst (0), 1), (13, .istore_n (2), 1), (14, .iconst (0), 1), (15, .istore_n (3), 1), (16, .iload_n (3), 1), (17, .aload_n (0), 1), (18, .getfield (9), 3), (21, .iconst (0), 1), (22, .iaload, 1), (23, .if_icmp .ge (59), 3), (26, .iconst (0), 1), (27, .istore (4), 2), (29, .iconst (0), 1), (30, .istore (5), 2), (32, .iload (5), 2), (34, .aload_n (0), 1), (35, .invokevirtual (99), 3), (38, .if_icmp .gt (24), 3), (41, .iload (4), 2), (43, .aload_n (0), 1), (44, .iload_n (3), 1), (45, .iload (5), 2), (47, .invokevirtual (317), 3), (50, .invokestatic (332), 3), (53, .iadd, 1), (54, .istore (4), 2), (56, .iinc (5) (1), 3), (59, .goto (-27), 3), (62, .iload (4), 2), (64, .iload_n (2), 1), (65, .if_icmp .gt (6), 3), (68, .goto (8), 3), (71, .iload (4), 2), (73, .istore_n (2), 1), (74, .iload_n (3), 1), (75, .istore_n (1), 1), (76, .iinc (3) (1), 3), (79, .goto (-63), 3), (82, .iload_n (1), 1), (83, .ireturn, 1)]
set_option maxRecDepth 100000 in
theorem zD_254_ok : zDo 254 zD_254 = true := by decide +kernel
theorem zc_254 : zcls 254 = 8 := by decide +kernel
theorem zm_254 : zml 254 = 6 := by decide +kernel
theorem zt_254 : zrt 254 = (some (.int)) := by decide +kernel
theorem zk_254 : zkd 254 = 1 ∧ znp 254 + 1 = 1 := by decide +kernel
theorem zr_254 (as : List zV) : zrk 254 as = 5 := by unfold zrk; rw [if_neg (by decide)]; decide +kernel
def lm_busy_c32 (h16 : Int → Int → Int → (Nat → Nat → Int) → Option (Int × (Nat → Nat → Int))) : Nat → Int → Int → Int → Int → Int → (Nat → Nat → Int) → Option (Int × (Nat → Nat → Int))
  | 0, _, _, _, _, _, _ => none
  | n + 1, y1, y2, y3, y4, y5, M =>
    ((lm_last M).bind (fun v35 =>
    (if v35 < y5 then
    (if y2 < y4 then
    (h16 y3 y4 (w32 (y3 + 1)) M)
    else
    (h16 y1 y2 (w32 (y3 + 1)) M))
    else
    ((lm_hereOf y3 y5 M).bind (fun v47 =>
    ((lm_bits v47 M).bind (fun v50 =>
    ((lm_busy_c32 h16 n) y1 y2 y3 (w32 (y4 + v50)) (w32 (y5 + 1)) M))))))))
set_option maxRecDepth 100000 in
theorem ok_lm_busy_c32 {sc : zSc} {q : Nat} {P : Option zV → (Nat → Nat → Int) → Prop} (hq : 5 ≤ q) (h16 : Int → Int → Int → (Nat → Nat → Int) → Option (Int × (Nat → Nat → Int))) (H16 : ∀ (y1 : Int) (y2 : Int) (y3 : Int) (M : Nat → Nat → Int) (d4 d5 : Option zV), zS (h16 y1 y2 y3 M) (fun r => P (some (.inl r.1)) r.2) → zWp sc q 254 16 [some (.inr (.inr 106)), some (.inl y1), some (.inl y2), some (.inl y3), d4, d5] [] M P) : ∀ (n : Nat) (y1 : Int) (y2 : Int) (y3 : Int) (y4 : Int) (y5 : Int) (M : Nat → Nat → Int), zS (lm_busy_c32 h16 n y1 y2 y3 y4 y5 M) (fun r => P (some (.inl r.1)) r.2) → zWp sc q 254 32 [some (.inr (.inr 106)), some (.inl y1), some (.inl y2), some (.inl y3), some (.inl y4), some (.inl y5)] [] M P := by
  intro n
  induction n with
  | zero => intro y1 y2 y3 y4 y5 M h; exact (zS_none h).elim
  | succ n ih =>
    intro y1 y2 y3 y4 y5 M h
    rw [lm_busy_c32] at h
    refine E_iload (pc := 32) (zDk zD_254_ok 21 rfl) rfl ?_
    refine E_aload_n (pc := 34) (zDk zD_254_ok 22 rfl) rfl ?_
    obtain ⟨v35, e35, h⟩ := zS_bind h
    refine E_virI (pc := 35) (c := 182) (r := 106) (as := []) (rest := [.inl y5]) (zDk zD_254_ok 23 rfl) zc_254 (by decide +kernel) zk_182 ⟨(Nat.le_of_ble_eq_true rfl), rfl, rfl⟩ (Nat.le_of_ble_eq_true rfl) (zr_182 _) (Nat.lt_of_lt_of_le (by decide) hq) (by rw [zm_182]; exact (Nat.le_of_ble_eq_true rfl)) ⟨zc_182, by decide⟩ zis_8_106 (ok_lm_last ⟨v35, e35, ?_⟩)
    refine E_icmp (pc := 38) (t := 62) (zDk zD_254_ok 24 rfl) rfl (fun hz => ?_) (fun hz => ?_)
    · have h := zS_t h (T_gt hz)
      refine E_iload (pc := 62) (zDk zD_254_ok 35 rfl) rfl ?_
      refine E_iload_n (pc := 64) (zDk zD_254_ok 36 rfl) rfl ?_
      refine E_icmp (pc := 65) (t := 71) (zDk zD_254_ok 37 rfl) rfl (fun hz => ?_) (fun hz => ?_)
      · have h := zS_t h (T_gt hz)
        refine E_iload (pc := 71) (zDk zD_254_ok 39 rfl) rfl ?_
        refine W_istore_n (pc := 73) (L' := [some (.inr (.inr 106)), some (.inl y1), some (.inl y4), some (.inl y3), some (.inl y4), some (.inl y5)]) (zDk zD_254_ok 40 rfl) zm_254 (by decide) rfl ?_
        refine E_iload_n (pc := 74) (zDk zD_254_ok 41 rfl) rfl ?_
        refine W_istore_n (pc := 75) (L' := [some (.inr (.inr 106)), some (.inl y3), some (.inl y4), some (.inl y3), some (.inl y4), some (.inl y5)]) (zDk zD_254_ok 42 rfl) zm_254 (by decide) rfl ?_
        refine W_iinc (pc := 76) (L' := [some (.inr (.inr 106)), some (.inl y3), some (.inl y4), some (.inl (w32 (y3 + 1))), some (.inl y4), some (.inl y5)]) (zDk zD_254_ok 43 rfl) rfl zm_254 (by decide) rfl ?_
        refine E_goto (pc := 79) (t := 16) (zDk zD_254_ok 44 rfl) rfl ?_
        exact H16 y3 y4 (w32 (y3 + 1)) M (some (.inl y4)) (some (.inl y5)) h
      · have h := zS_f h (Int.not_lt.mpr (F_gt hz))
        refine E_goto (pc := 68) (t := 76) (zDk zD_254_ok 38 rfl) rfl ?_
        refine W_iinc (pc := 76) (L' := [some (.inr (.inr 106)), some (.inl y1), some (.inl y2), some (.inl (w32 (y3 + 1))), some (.inl y4), some (.inl y5)]) (zDk zD_254_ok 43 rfl) rfl zm_254 (by decide) rfl ?_
        refine E_goto (pc := 79) (t := 16) (zDk zD_254_ok 44 rfl) rfl ?_
        exact H16 y1 y2 (w32 (y3 + 1)) M (some (.inl y4)) (some (.inl y5)) h
    · have h := zS_f h (Int.not_lt.mpr (F_gt hz))
      refine E_iload (pc := 41) (zDk zD_254_ok 25 rfl) rfl ?_
      refine E_aload_n (pc := 43) (zDk zD_254_ok 26 rfl) rfl ?_
      refine E_iload_n (pc := 44) (zDk zD_254_ok 27 rfl) rfl ?_
      refine E_iload (pc := 45) (zDk zD_254_ok 28 rfl) rfl ?_
      obtain ⟨v47, e47, h⟩ := zS_bind h
      refine E_virI (pc := 47) (c := 236) (r := 106) (as := [.inl y3, .inl y5]) (rest := [.inl y4]) (zDk zD_254_ok 29 rfl) zc_254 (by decide +kernel) zk_236 ⟨(Nat.le_of_ble_eq_true rfl), rfl, rfl⟩ (Nat.le_of_ble_eq_true rfl) (zr_236 _) (Nat.lt_of_lt_of_le (by decide) hq) (by rw [zm_236]; exact (Nat.le_of_ble_eq_true rfl)) ⟨zc_236, by decide⟩ zis_8_106 (ok_lm_hereOf ⟨v47, e47, ?_⟩)
      obtain ⟨v50, e50, h⟩ := zS_bind h
      refine E_staI (pc := 50) (c := 177) (as := [.inl v47]) (rest := [.inl y4]) (zDk zD_254_ok 30 rfl) zc_254 (by decide +kernel) (by decide +kernel) zk_177 ⟨(Nat.le_of_ble_eq_true rfl), rfl, rfl⟩ (Nat.le_of_ble_eq_true rfl) (zr_177 _) (Nat.lt_of_lt_of_le (by decide) hq) (by rw [zm_177]; exact (Nat.le_of_ble_eq_true rfl)) (ok_lm_bits ⟨v50, e50, ?_⟩)
      refine W_iadd (pc := 53) (zDk zD_254_ok 31 rfl) ?_
      refine W_istore (pc := 54) (L' := [some (.inr (.inr 106)), some (.inl y1), some (.inl y2), some (.inl y3), some (.inl (w32 (y4 + v50))), some (.inl y5)]) (zDk zD_254_ok 32 rfl) zm_254 (by decide) rfl ?_
      refine W_iinc (pc := 56) (L' := [some (.inr (.inr 106)), some (.inl y1), some (.inl y2), some (.inl y3), some (.inl (w32 (y4 + v50))), some (.inl (w32 (y5 + 1)))]) (zDk zD_254_ok 33 rfl) rfl zm_254 (by decide) rfl ?_
      refine E_goto (pc := 59) (t := 32) (zDk zD_254_ok 34 rfl) rfl ?_
      exact (ih) y1 y2 y3 (w32 (y4 + v50)) (w32 (y5 + 1)) M h
def lm_busy_c16 : Nat → Int → Int → Int → (Nat → Nat → Int) → Option (Int × (Nat → Nat → Int))
  | 0, _, _, _, _ => none
  | n + 1, y1, y2, y3, M =>
    ((rdI 107 (0 : Int) M).bind (fun v22 =>
    (if y3 < v22 then
    (lm_busy_c32 (lm_busy_c16 n) zN y1 y2 y3 (0 : Int) (0 : Int) M)
    else
    (some (y1, M)))))
set_option maxRecDepth 100000 in
theorem ok_lm_busy_c16 {sc : zSc} {q : Nat} {P : Option zV → (Nat → Nat → Int) → Prop} (hq : 5 ≤ q) : ∀ (n : Nat) (y1 : Int) (y2 : Int) (y3 : Int) (M : Nat → Nat → Int) (d4 d5 : Option zV), zS (lm_busy_c16 n y1 y2 y3 M) (fun r => P (some (.inl r.1)) r.2) → zWp sc q 254 16 [some (.inr (.inr 106)), some (.inl y1), some (.inl y2), some (.inl y3), d4, d5] [] M P := by
  intro n
  induction n with
  | zero => intro y1 y2 y3 M d4 d5 h; exact (zS_none h).elim
  | succ n ih =>
    intro y1 y2 y3 M d4 d5 h
    rw [lm_busy_c16] at h
    refine E_iload_n (pc := 16) (zDk zD_254_ok 11 rfl) rfl ?_
    refine E_aload_n (pc := 17) (zDk zD_254_ok 12 rfl) rfl ?_
    refine E_getR (pc := 18) (ci := 8) (f := 1) (r := 107) (zDk zD_254_ok 13 rfl) zc_254 (by decide +kernel) (by decide) zis_8_106 (by decide +kernel) (by decide) ?_
    refine E_iconst (pc := 21) (zDk zD_254_ok 14 rfl) (by decide +kernel) ?_
    obtain ⟨v22, e22, h⟩ := zS_bind h
    refine E_iaload (pc := 22) (zDk zD_254_ok 15 rfl) e22 ?_
    refine E_icmp (pc := 23) (t := 82) (zDk zD_254_ok 16 rfl) rfl (fun hz => ?_) (fun hz => ?_)
    · have h := zS_f h (Int.not_lt.mpr (T_ge hz))
      refine E_iload_n (pc := 82) (zDk zD_254_ok 45 rfl) rfl ?_
      have h := zS_some h
      exact E_ireturn (pc := 83) (zDk zD_254_ok 46 rfl) zt_254 h
    · have h := zS_t h (F_ge hz)
      refine E_iconst (pc := 26) (zDk zD_254_ok 17 rfl) (by decide +kernel) ?_
      refine W_istore (pc := 27) (L' := [some (.inr (.inr 106)), some (.inl y1), some (.inl y2), some (.inl y3), some (.inl (0 : Int)), d5]) (zDk zD_254_ok 18 rfl) zm_254 (by decide) rfl ?_
      refine E_iconst (pc := 29) (zDk zD_254_ok 19 rfl) (by decide +kernel) ?_
      refine W_istore (pc := 30) (L' := [some (.inr (.inr 106)), some (.inl y1), some (.inl y2), some (.inl y3), some (.inl (0 : Int)), some (.inl (0 : Int))]) (zDk zD_254_ok 20 rfl) zm_254 (by decide) rfl ?_
      exact ok_lm_busy_c32 hq (lm_busy_c16 n) (ih) zN y1 y2 y3 (0 : Int) (0 : Int) M h
def lm_busy (M : Nat → Nat → Int) : Option (Int × (Nat → Nat → Int)) :=
    ((lm_asksState M).bind (fun r1_ =>
    (if r1_.1 = 0 then
    (some ((-2 : Int), r1_.2))
    else
    (lm_busy_c16 zN (0 : Int) (0 : Int) (0 : Int) r1_.2))))
set_option maxRecDepth 100000 in
theorem ok_lm_busy {sc : zSc} {M : Nat → Nat → Int} {P : Int → (Nat → Nat → Int) → Prop} (h : zS (lm_busy M) (fun r => P r.1 r.2)) : zCi sc 254 [.inr (.inr 106)] M P := by
  have ea : zarg (zml 254) [.inr (.inr 106)] = [some (.inr (.inr 106)), none, none, none, none, none] := by rw [zm_254]; rfl
  unfold zCi zCw
  rw [ea, zr_254]
  have hq : 5 ≤ 5 := Nat.le_refl _
  unfold lm_busy at h
  have h := zS_mono h (fun x hx => (⟨x.1, rfl, hx⟩ : ∃ y, (some (.inl x.1) : Option zV) = some (.inl y) ∧ P y x.2))
  skip
  refine E_aload_n (pc := 0) (zDk zD_254_ok 0 rfl) rfl ?_
  obtain ⟨r1_, e1, h⟩ := zS_bind h
  refine E_virI (pc := 1) (c := 229) (r := 106) (as := []) (rest := []) (zDk zD_254_ok 1 rfl) zc_254 (by decide +kernel) zk_229 ⟨(Nat.le_of_ble_eq_true rfl), rfl, rfl⟩ (Nat.le_of_ble_eq_true rfl) (zr_229 _) (Nat.lt_of_lt_of_le (by decide) hq) (by rw [zm_229]; exact (Nat.le_of_ble_eq_true rfl)) ⟨zc_229, by decide⟩ zis_8_106 (ok_lm_asksState ⟨r1_, e1, ?_⟩)
  refine E_if (pc := 4) (t := 10) (zDk zD_254_ok 2 rfl) rfl (fun hz => ?_) (fun hz => ?_)
  · have h := zS_f h (T_ne hz)
    refine E_iconst (pc := 10) (zDk zD_254_ok 5 rfl) (by decide +kernel) ?_
    refine W_istore_n (pc := 11) (L' := [some (.inr (.inr 106)), some (.inl (0 : Int)), none, none, none, none]) (zDk zD_254_ok 6 rfl) zm_254 (by decide) rfl ?_
    refine E_iconst (pc := 12) (zDk zD_254_ok 7 rfl) (by decide +kernel) ?_
    refine W_istore_n (pc := 13) (L' := [some (.inr (.inr 106)), some (.inl (0 : Int)), some (.inl (0 : Int)), none, none, none]) (zDk zD_254_ok 8 rfl) zm_254 (by decide) rfl ?_
    refine E_iconst (pc := 14) (zDk zD_254_ok 9 rfl) (by decide +kernel) ?_
    refine W_istore_n (pc := 15) (L' := [some (.inr (.inr 106)), some (.inl (0 : Int)), some (.inl (0 : Int)), some (.inl (0 : Int)), none, none]) (zDk zD_254_ok 10 rfl) zm_254 (by decide) rfl ?_
    exact ok_lm_busy_c16 hq zN (0 : Int) (0 : Int) (0 : Int) r1_.2 none none h
  · have h := zS_t h (F_ne hz)
    refine E_bipush (pc := 7) (zDk zD_254_ok 3 rfl) (by decide +kernel) ?_
    have h := zS_some h
    exact E_ireturn (pc := 9) (zDk zD_254_ok 4 rfl) zt_254 h
def zD_257 : List (Nat × Instr × Nat) := [(0, .aload_n (0), 1), (1, .invokevirtual (308), 3), (4, .ifCond .ne (6), 3), (7, .bipush (-2), 2), (9, .ireturn, 1), (10, .iconst (-1), 1), (11, .istore_n (1), 1), (12, .iconst (0), 1), (13, .istore_n (2), 1), (14, .iload_n (2), 1), (15, .aload_n (0), 1), (16, .getfield (9), 3), (19, .bipush (7), 2), (21, .iaload, 1), (22, .if_icmp .ge (41), 3), (25, .aload_n (0), 1), (26, .getfield (52), 3), (29, .iload_n (2), 1), (30, .iaload, 1), (31, .iconst (-1), 1), (32, .if_icmp .eq (25), 3), (35, .iload_n (1), 1), (36, .iconst (-1), 1), (37, .if_icmp .eq (13), 3), (40, .aload_n (0), 1), (41, .getfield (52), 3), (44, .iload_n (2), 1), (45, .iaload, 1), (46, .iload_n (1), 1), (47, .if_icmp .ge (10), 3), (50, .aload_n (0), 1), (51, .getfield (52), 3), (54, .iload_n (2), 1), (55, .iaload, 1), (56, .istore_n (1), 1), (57, .iinc (2) (1), 3), (60, .goto (-46), 3), (63, .iload_n (1), 1), (64, .ireturn, 1)]
set_option maxRecDepth 100000 in
theorem zD_257_ok : zDo 257 zD_257 = true := by decide +kernel
theorem zc_257 : zcls 257 = 8 := by decide +kernel
theorem zm_257 : zml 257 = 3 := by decide +kernel
theorem zt_257 : zrt 257 = (some (.int)) := by decide +kernel
theorem zk_257 : zkd 257 = 1 ∧ znp 257 + 1 = 1 := by decide +kernel
theorem zr_257 (as : List zV) : zrk 257 as = 5 := by unfold zrk; rw [if_neg (by decide)]; decide +kernel
def lm_first_c14 : Nat → Int → Int → (Nat → Nat → Int) → Option (Int × (Nat → Nat → Int))
  | 0, _, _, _ => none
  | n + 1, y1, y2, M =>
    ((rdI 107 (7 : Int) M).bind (fun v21 =>
    (if y2 < v21 then
    ((rdI 119 y2 M).bind (fun v30 =>
    (if v30 = (-1 : Int) then
    ((lm_first_c14 n) y1 (w32 (y2 + 1)) M)
    else
    (if y1 = (-1 : Int) then
    ((rdI 119 y2 M).bind (fun v55 =>
    ((lm_first_c14 n) v55 (w32 (y2 + 1)) M)))
    else
    ((rdI 119 y2 M).bind (fun v45 =>
    (if v45 < y1 then
    ((rdI 119 y2 M).bind (fun v55 =>
    ((lm_first_c14 n) v55 (w32 (y2 + 1)) M)))
    else
    ((lm_first_c14 n) y1 (w32 (y2 + 1)) M))))))))
    else
    (some (y1, M)))))
set_option maxRecDepth 100000 in
theorem ok_lm_first_c14 {sc : zSc} {q : Nat} {P : Option zV → (Nat → Nat → Int) → Prop} (hq : 5 ≤ q) : ∀ (n : Nat) (y1 : Int) (y2 : Int) (M : Nat → Nat → Int), zS (lm_first_c14 n y1 y2 M) (fun r => P (some (.inl r.1)) r.2) → zWp sc q 257 14 [some (.inr (.inr 106)), some (.inl y1), some (.inl y2)] [] M P := by
  intro n
  induction n with
  | zero => intro y1 y2 M h; exact (zS_none h).elim
  | succ n ih =>
    intro y1 y2 M h
    rw [lm_first_c14] at h
    refine E_iload_n (pc := 14) (zDk zD_257_ok 9 rfl) rfl ?_
    refine E_aload_n (pc := 15) (zDk zD_257_ok 10 rfl) rfl ?_
    refine E_getR (pc := 16) (ci := 8) (f := 1) (r := 107) (zDk zD_257_ok 11 rfl) zc_257 (by decide +kernel) (by decide) zis_8_106 (by decide +kernel) (by decide) ?_
    refine E_bipush (pc := 19) (zDk zD_257_ok 12 rfl) (by decide +kernel) ?_
    obtain ⟨v21, e21, h⟩ := zS_bind h
    refine E_iaload (pc := 21) (zDk zD_257_ok 13 rfl) e21 ?_
    refine E_icmp (pc := 22) (t := 63) (zDk zD_257_ok 14 rfl) rfl (fun hz => ?_) (fun hz => ?_)
    · have h := zS_f h (Int.not_lt.mpr (T_ge hz))
      refine E_iload_n (pc := 63) (zDk zD_257_ok 37 rfl) rfl ?_
      have h := zS_some h
      exact E_ireturn (pc := 64) (zDk zD_257_ok 38 rfl) zt_257 h
    · have h := zS_t h (F_ge hz)
      refine E_aload_n (pc := 25) (zDk zD_257_ok 15 rfl) rfl ?_
      refine E_getR (pc := 26) (ci := 8) (f := 25) (r := 119) (zDk zD_257_ok 16 rfl) zc_257 (by decide +kernel) (by decide) zis_8_106 (by decide +kernel) (by decide) ?_
      refine E_iload_n (pc := 29) (zDk zD_257_ok 17 rfl) rfl ?_
      obtain ⟨v30, e30, h⟩ := zS_bind h
      refine E_iaload (pc := 30) (zDk zD_257_ok 18 rfl) e30 ?_
      refine E_iconst (pc := 31) (zDk zD_257_ok 19 rfl) (by decide +kernel) ?_
      refine E_icmp (pc := 32) (t := 57) (zDk zD_257_ok 20 rfl) rfl (fun hz => ?_) (fun hz => ?_)
      · have h := zS_t h (T_eq hz)
        refine W_iinc (pc := 57) (L' := [some (.inr (.inr 106)), some (.inl y1), some (.inl (w32 (y2 + 1)))]) (zDk zD_257_ok 35 rfl) rfl zm_257 (by decide) rfl ?_
        refine E_goto (pc := 60) (t := 14) (zDk zD_257_ok 36 rfl) rfl ?_
        exact (ih) y1 (w32 (y2 + 1)) M h
      · have h := zS_f h (F_eq hz)
        refine E_iload_n (pc := 35) (zDk zD_257_ok 21 rfl) rfl ?_
        refine E_iconst (pc := 36) (zDk zD_257_ok 22 rfl) (by decide +kernel) ?_
        refine E_icmp (pc := 37) (t := 50) (zDk zD_257_ok 23 rfl) rfl (fun hz => ?_) (fun hz => ?_)
        · have h := zS_t h (T_eq hz)
          refine E_aload_n (pc := 50) (zDk zD_257_ok 30 rfl) rfl ?_
          refine E_getR (pc := 51) (ci := 8) (f := 25) (r := 119) (zDk zD_257_ok 31 rfl) zc_257 (by decide +kernel) (by decide) zis_8_106 (by decide +kernel) (by decide) ?_
          refine E_iload_n (pc := 54) (zDk zD_257_ok 32 rfl) rfl ?_
          obtain ⟨v55, e55, h⟩ := zS_bind h
          refine E_iaload (pc := 55) (zDk zD_257_ok 33 rfl) e55 ?_
          refine W_istore_n (pc := 56) (L' := [some (.inr (.inr 106)), some (.inl v55), some (.inl y2)]) (zDk zD_257_ok 34 rfl) zm_257 (by decide) rfl ?_
          refine W_iinc (pc := 57) (L' := [some (.inr (.inr 106)), some (.inl v55), some (.inl (w32 (y2 + 1)))]) (zDk zD_257_ok 35 rfl) rfl zm_257 (by decide) rfl ?_
          refine E_goto (pc := 60) (t := 14) (zDk zD_257_ok 36 rfl) rfl ?_
          exact (ih) v55 (w32 (y2 + 1)) M h
        · have h := zS_f h (F_eq hz)
          refine E_aload_n (pc := 40) (zDk zD_257_ok 24 rfl) rfl ?_
          refine E_getR (pc := 41) (ci := 8) (f := 25) (r := 119) (zDk zD_257_ok 25 rfl) zc_257 (by decide +kernel) (by decide) zis_8_106 (by decide +kernel) (by decide) ?_
          refine E_iload_n (pc := 44) (zDk zD_257_ok 26 rfl) rfl ?_
          obtain ⟨v45, e45, h⟩ := zS_bind h
          refine E_iaload (pc := 45) (zDk zD_257_ok 27 rfl) e45 ?_
          refine E_iload_n (pc := 46) (zDk zD_257_ok 28 rfl) rfl ?_
          refine E_icmp (pc := 47) (t := 57) (zDk zD_257_ok 29 rfl) rfl (fun hz => ?_) (fun hz => ?_)
          · have h := zS_f h (Int.not_lt.mpr (T_ge hz))
            refine W_iinc (pc := 57) (L' := [some (.inr (.inr 106)), some (.inl y1), some (.inl (w32 (y2 + 1)))]) (zDk zD_257_ok 35 rfl) rfl zm_257 (by decide) rfl ?_
            refine E_goto (pc := 60) (t := 14) (zDk zD_257_ok 36 rfl) rfl ?_
            exact (ih) y1 (w32 (y2 + 1)) M h
          · have h := zS_t h (F_ge hz)
            refine E_aload_n (pc := 50) (zDk zD_257_ok 30 rfl) rfl ?_
            refine E_getR (pc := 51) (ci := 8) (f := 25) (r := 119) (zDk zD_257_ok 31 rfl) zc_257 (by decide +kernel) (by decide) zis_8_106 (by decide +kernel) (by decide) ?_
            refine E_iload_n (pc := 54) (zDk zD_257_ok 32 rfl) rfl ?_
            obtain ⟨v55, e55, h⟩ := zS_bind h
            refine E_iaload (pc := 55) (zDk zD_257_ok 33 rfl) e55 ?_
            refine W_istore_n (pc := 56) (L' := [some (.inr (.inr 106)), some (.inl v55), some (.inl y2)]) (zDk zD_257_ok 34 rfl) zm_257 (by decide) rfl ?_
            refine W_iinc (pc := 57) (L' := [some (.inr (.inr 106)), some (.inl v55), some (.inl (w32 (y2 + 1)))]) (zDk zD_257_ok 35 rfl) rfl zm_257 (by decide) rfl ?_
            refine E_goto (pc := 60) (t := 14) (zDk zD_257_ok 36 rfl) rfl ?_
            exact (ih) v55 (w32 (y2 + 1)) M h
def lm_first (M : Nat → Nat → Int) : Option (Int × (Nat → Nat → Int)) :=
    ((lm_asksState M).bind (fun r1_ =>
    (if r1_.1 = 0 then
    (some ((-2 : Int), r1_.2))
    else
    (lm_first_c14 zN (-1 : Int) (0 : Int) r1_.2))))
set_option maxRecDepth 100000 in
theorem ok_lm_first {sc : zSc} {M : Nat → Nat → Int} {P : Int → (Nat → Nat → Int) → Prop} (h : zS (lm_first M) (fun r => P r.1 r.2)) : zCi sc 257 [.inr (.inr 106)] M P := by
  have ea : zarg (zml 257) [.inr (.inr 106)] = [some (.inr (.inr 106)), none, none] := by rw [zm_257]; rfl
  unfold zCi zCw
  rw [ea, zr_257]
  have hq : 5 ≤ 5 := Nat.le_refl _
  unfold lm_first at h
  have h := zS_mono h (fun x hx => (⟨x.1, rfl, hx⟩ : ∃ y, (some (.inl x.1) : Option zV) = some (.inl y) ∧ P y x.2))
  skip
  refine E_aload_n (pc := 0) (zDk zD_257_ok 0 rfl) rfl ?_
  obtain ⟨r1_, e1, h⟩ := zS_bind h
  refine E_virI (pc := 1) (c := 229) (r := 106) (as := []) (rest := []) (zDk zD_257_ok 1 rfl) zc_257 (by decide +kernel) zk_229 ⟨(Nat.le_of_ble_eq_true rfl), rfl, rfl⟩ (Nat.le_of_ble_eq_true rfl) (zr_229 _) (Nat.lt_of_lt_of_le (by decide) hq) (by rw [zm_229]; exact (Nat.le_of_ble_eq_true rfl)) ⟨zc_229, by decide⟩ zis_8_106 (ok_lm_asksState ⟨r1_, e1, ?_⟩)
  refine E_if (pc := 4) (t := 10) (zDk zD_257_ok 2 rfl) rfl (fun hz => ?_) (fun hz => ?_)
  · have h := zS_f h (T_ne hz)
    refine E_iconst (pc := 10) (zDk zD_257_ok 5 rfl) (by decide +kernel) ?_
    refine W_istore_n (pc := 11) (L' := [some (.inr (.inr 106)), some (.inl (-1 : Int)), none]) (zDk zD_257_ok 6 rfl) zm_257 (by decide) rfl ?_
    refine E_iconst (pc := 12) (zDk zD_257_ok 7 rfl) (by decide +kernel) ?_
    refine W_istore_n (pc := 13) (L' := [some (.inr (.inr 106)), some (.inl (-1 : Int)), some (.inl (0 : Int))]) (zDk zD_257_ok 8 rfl) zm_257 (by decide) rfl ?_
    exact ok_lm_first_c14 hq zN (-1 : Int) (0 : Int) r1_.2 h
  · have h := zS_t h (F_ne hz)
    refine E_bipush (pc := 7) (zDk zD_257_ok 3 rfl) (by decide +kernel) ?_
    have h := zS_some h
    exact E_ireturn (pc := 9) (zDk zD_257_ok 4 rfl) zt_257 h
def zD_259 : List (Nat × Instr × Nat) := [(0, .aload_n (0), 1), (1, .invokevirtual (308), 3), (4, .ifCond .ne (6), 3), (7, .bipush (-2), 2), (9, .ireturn, 1), (10, .iconst (-1), 1), (11, .istore_n (1), 1), (12, .iconst (0), 1), (13, .istore_n (2), 1), (14, .iload_n (2), 1), (15, .aload_n (0), 1), (16, .invokevirtual (279), 3), (19, .if_icmp .ge (38), 3), (22, .aload_n (0), 1), (23, .iload_n (2), 1), (24, .invokevirtual (323), 3), (27, .iconst (-1), 1), (28, .if_icmp .eq (23), 3), (31, .iload_n (1), 1), (32, .iconst (-1), 1), (33, .if_icmp .eq (16), 3), (36, .aload_n (0), 1), (37, .iload_n (2), 1), (38, .invokevirtual (323), 3), (41, .aload_n (0), 1), (42, .iload_n (1), 1), (43, .invokevirtual (323), 3), (46, .if_icmp .ge (5), 3), (49, .iload_n (2), 1), (50, .istore_n (1), 1), (51, .iinc (2) (1), 3), (54, .goto (-40), 3), (57, .iload_n (1), 1), (58, .ireturn, 1)]
set_option maxRecDepth 100000 in
theorem zD_259_ok : zDo 259 zD_259 = true := by decide +kernel
theorem zc_259 : zcls 259 = 8 := by decide +kernel
theorem zm_259 : zml 259 = 3 := by decide +kernel
theorem zt_259 : zrt 259 = (some (.int)) := by decide +kernel
theorem zk_259 : zkd 259 = 1 ∧ znp 259 + 1 = 1 := by decide +kernel
theorem zr_259 (as : List zV) : zrk 259 as = 5 := by unfold zrk; rw [if_neg (by decide)]; decide +kernel
def lm_thirst_c14 : Nat → Int → Int → (Nat → Nat → Int) → Option (Int × (Nat → Nat → Int))
  | 0, _, _, _ => none
  | n + 1, y1, y2, M =>
    ((lm_names M).bind (fun v16 =>
    (if y2 < v16 then
    ((lm_sleepsOf y2 M).bind (fun v24 =>
    (if v24 = (-1 : Int) then
    ((lm_thirst_c14 n) y1 (w32 (y2 + 1)) M)
    else
    (if y1 = (-1 : Int) then
    ((lm_thirst_c14 n) y2 (w32 (y2 + 1)) M)
    else
    ((lm_sleepsOf y2 M).bind (fun v38 =>
    ((lm_sleepsOf y1 M).bind (fun v43 =>
    (if v38 < v43 then
    ((lm_thirst_c14 n) y2 (w32 (y2 + 1)) M)
    else
    ((lm_thirst_c14 n) y1 (w32 (y2 + 1)) M))))))))))
    else
    (some (y1, M)))))
set_option maxRecDepth 100000 in
theorem ok_lm_thirst_c14 {sc : zSc} {q : Nat} {P : Option zV → (Nat → Nat → Int) → Prop} (hq : 5 ≤ q) : ∀ (n : Nat) (y1 : Int) (y2 : Int) (M : Nat → Nat → Int), zS (lm_thirst_c14 n y1 y2 M) (fun r => P (some (.inl r.1)) r.2) → zWp sc q 259 14 [some (.inr (.inr 106)), some (.inl y1), some (.inl y2)] [] M P := by
  intro n
  induction n with
  | zero => intro y1 y2 M h; exact (zS_none h).elim
  | succ n ih =>
    intro y1 y2 M h
    rw [lm_thirst_c14] at h
    refine E_iload_n (pc := 14) (zDk zD_259_ok 9 rfl) rfl ?_
    refine E_aload_n (pc := 15) (zDk zD_259_ok 10 rfl) rfl ?_
    obtain ⟨v16, e16, h⟩ := zS_bind h
    refine E_virI (pc := 16) (c := 189) (r := 106) (as := []) (rest := [.inl y2]) (zDk zD_259_ok 11 rfl) zc_259 (by decide +kernel) zk_189 ⟨(Nat.le_of_ble_eq_true rfl), rfl, rfl⟩ (Nat.le_of_ble_eq_true rfl) (zr_189 _) (Nat.lt_of_lt_of_le (by decide) hq) (by rw [zm_189]; exact (Nat.le_of_ble_eq_true rfl)) ⟨zc_189, by decide⟩ zis_8_106 (ok_lm_names ⟨v16, e16, ?_⟩)
    refine E_icmp (pc := 19) (t := 57) (zDk zD_259_ok 12 rfl) rfl (fun hz => ?_) (fun hz => ?_)
    · have h := zS_f h (Int.not_lt.mpr (T_ge hz))
      refine E_iload_n (pc := 57) (zDk zD_259_ok 32 rfl) rfl ?_
      have h := zS_some h
      exact E_ireturn (pc := 58) (zDk zD_259_ok 33 rfl) zt_259 h
    · have h := zS_t h (F_ge hz)
      refine E_aload_n (pc := 22) (zDk zD_259_ok 13 rfl) rfl ?_
      refine E_iload_n (pc := 23) (zDk zD_259_ok 14 rfl) rfl ?_
      obtain ⟨v24, e24, h⟩ := zS_bind h
      refine E_virI (pc := 24) (c := 238) (r := 106) (as := [.inl y2]) (rest := []) (zDk zD_259_ok 15 rfl) zc_259 (by decide +kernel) zk_238 ⟨(Nat.le_of_ble_eq_true rfl), rfl, rfl⟩ (Nat.le_of_ble_eq_true rfl) (zr_238 _) (Nat.lt_of_lt_of_le (by decide) hq) (by rw [zm_238]; exact (Nat.le_of_ble_eq_true rfl)) ⟨zc_238, by decide⟩ zis_8_106 (ok_lm_sleepsOf ⟨v24, e24, ?_⟩)
      refine E_iconst (pc := 27) (zDk zD_259_ok 16 rfl) (by decide +kernel) ?_
      refine E_icmp (pc := 28) (t := 51) (zDk zD_259_ok 17 rfl) rfl (fun hz => ?_) (fun hz => ?_)
      · have h := zS_t h (T_eq hz)
        refine W_iinc (pc := 51) (L' := [some (.inr (.inr 106)), some (.inl y1), some (.inl (w32 (y2 + 1)))]) (zDk zD_259_ok 30 rfl) rfl zm_259 (by decide) rfl ?_
        refine E_goto (pc := 54) (t := 14) (zDk zD_259_ok 31 rfl) rfl ?_
        exact (ih) y1 (w32 (y2 + 1)) M h
      · have h := zS_f h (F_eq hz)
        refine E_iload_n (pc := 31) (zDk zD_259_ok 18 rfl) rfl ?_
        refine E_iconst (pc := 32) (zDk zD_259_ok 19 rfl) (by decide +kernel) ?_
        refine E_icmp (pc := 33) (t := 49) (zDk zD_259_ok 20 rfl) rfl (fun hz => ?_) (fun hz => ?_)
        · have h := zS_t h (T_eq hz)
          refine E_iload_n (pc := 49) (zDk zD_259_ok 28 rfl) rfl ?_
          refine W_istore_n (pc := 50) (L' := [some (.inr (.inr 106)), some (.inl y2), some (.inl y2)]) (zDk zD_259_ok 29 rfl) zm_259 (by decide) rfl ?_
          refine W_iinc (pc := 51) (L' := [some (.inr (.inr 106)), some (.inl y2), some (.inl (w32 (y2 + 1)))]) (zDk zD_259_ok 30 rfl) rfl zm_259 (by decide) rfl ?_
          refine E_goto (pc := 54) (t := 14) (zDk zD_259_ok 31 rfl) rfl ?_
          exact (ih) y2 (w32 (y2 + 1)) M h
        · have h := zS_f h (F_eq hz)
          refine E_aload_n (pc := 36) (zDk zD_259_ok 21 rfl) rfl ?_
          refine E_iload_n (pc := 37) (zDk zD_259_ok 22 rfl) rfl ?_
          obtain ⟨v38, e38, h⟩ := zS_bind h
          refine E_virI (pc := 38) (c := 238) (r := 106) (as := [.inl y2]) (rest := []) (zDk zD_259_ok 23 rfl) zc_259 (by decide +kernel) zk_238 ⟨(Nat.le_of_ble_eq_true rfl), rfl, rfl⟩ (Nat.le_of_ble_eq_true rfl) (zr_238 _) (Nat.lt_of_lt_of_le (by decide) hq) (by rw [zm_238]; exact (Nat.le_of_ble_eq_true rfl)) ⟨zc_238, by decide⟩ zis_8_106 (ok_lm_sleepsOf ⟨v38, e38, ?_⟩)
          refine E_aload_n (pc := 41) (zDk zD_259_ok 24 rfl) rfl ?_
          refine E_iload_n (pc := 42) (zDk zD_259_ok 25 rfl) rfl ?_
          obtain ⟨v43, e43, h⟩ := zS_bind h
          refine E_virI (pc := 43) (c := 238) (r := 106) (as := [.inl y1]) (rest := [.inl v38]) (zDk zD_259_ok 26 rfl) zc_259 (by decide +kernel) zk_238 ⟨(Nat.le_of_ble_eq_true rfl), rfl, rfl⟩ (Nat.le_of_ble_eq_true rfl) (zr_238 _) (Nat.lt_of_lt_of_le (by decide) hq) (by rw [zm_238]; exact (Nat.le_of_ble_eq_true rfl)) ⟨zc_238, by decide⟩ zis_8_106 (ok_lm_sleepsOf ⟨v43, e43, ?_⟩)
          refine E_icmp (pc := 46) (t := 51) (zDk zD_259_ok 27 rfl) rfl (fun hz => ?_) (fun hz => ?_)
          · have h := zS_f h (Int.not_lt.mpr (T_ge hz))
            refine W_iinc (pc := 51) (L' := [some (.inr (.inr 106)), some (.inl y1), some (.inl (w32 (y2 + 1)))]) (zDk zD_259_ok 30 rfl) rfl zm_259 (by decide) rfl ?_
            refine E_goto (pc := 54) (t := 14) (zDk zD_259_ok 31 rfl) rfl ?_
            exact (ih) y1 (w32 (y2 + 1)) M h
          · have h := zS_t h (F_ge hz)
            refine E_iload_n (pc := 49) (zDk zD_259_ok 28 rfl) rfl ?_
            refine W_istore_n (pc := 50) (L' := [some (.inr (.inr 106)), some (.inl y2), some (.inl y2)]) (zDk zD_259_ok 29 rfl) zm_259 (by decide) rfl ?_
            refine W_iinc (pc := 51) (L' := [some (.inr (.inr 106)), some (.inl y2), some (.inl (w32 (y2 + 1)))]) (zDk zD_259_ok 30 rfl) rfl zm_259 (by decide) rfl ?_
            refine E_goto (pc := 54) (t := 14) (zDk zD_259_ok 31 rfl) rfl ?_
            exact (ih) y2 (w32 (y2 + 1)) M h
def lm_thirst (M : Nat → Nat → Int) : Option (Int × (Nat → Nat → Int)) :=
    ((lm_asksState M).bind (fun r1_ =>
    (if r1_.1 = 0 then
    (some ((-2 : Int), r1_.2))
    else
    (lm_thirst_c14 zN (-1 : Int) (0 : Int) r1_.2))))
set_option maxRecDepth 100000 in
theorem ok_lm_thirst {sc : zSc} {M : Nat → Nat → Int} {P : Int → (Nat → Nat → Int) → Prop} (h : zS (lm_thirst M) (fun r => P r.1 r.2)) : zCi sc 259 [.inr (.inr 106)] M P := by
  have ea : zarg (zml 259) [.inr (.inr 106)] = [some (.inr (.inr 106)), none, none] := by rw [zm_259]; rfl
  unfold zCi zCw
  rw [ea, zr_259]
  have hq : 5 ≤ 5 := Nat.le_refl _
  unfold lm_thirst at h
  have h := zS_mono h (fun x hx => (⟨x.1, rfl, hx⟩ : ∃ y, (some (.inl x.1) : Option zV) = some (.inl y) ∧ P y x.2))
  skip
  refine E_aload_n (pc := 0) (zDk zD_259_ok 0 rfl) rfl ?_
  obtain ⟨r1_, e1, h⟩ := zS_bind h
  refine E_virI (pc := 1) (c := 229) (r := 106) (as := []) (rest := []) (zDk zD_259_ok 1 rfl) zc_259 (by decide +kernel) zk_229 ⟨(Nat.le_of_ble_eq_true rfl), rfl, rfl⟩ (Nat.le_of_ble_eq_true rfl) (zr_229 _) (Nat.lt_of_lt_of_le (by decide) hq) (by rw [zm_229]; exact (Nat.le_of_ble_eq_true rfl)) ⟨zc_229, by decide⟩ zis_8_106 (ok_lm_asksState ⟨r1_, e1, ?_⟩)
  refine E_if (pc := 4) (t := 10) (zDk zD_259_ok 2 rfl) rfl (fun hz => ?_) (fun hz => ?_)
  · have h := zS_f h (T_ne hz)
    refine E_iconst (pc := 10) (zDk zD_259_ok 5 rfl) (by decide +kernel) ?_
    refine W_istore_n (pc := 11) (L' := [some (.inr (.inr 106)), some (.inl (-1 : Int)), none]) (zDk zD_259_ok 6 rfl) zm_259 (by decide) rfl ?_
    refine E_iconst (pc := 12) (zDk zD_259_ok 7 rfl) (by decide +kernel) ?_
    refine W_istore_n (pc := 13) (L' := [some (.inr (.inr 106)), some (.inl (-1 : Int)), some (.inl (0 : Int))]) (zDk zD_259_ok 8 rfl) zm_259 (by decide) rfl ?_
    exact ok_lm_thirst_c14 hq zN (-1 : Int) (0 : Int) r1_.2 h
  · have h := zS_t h (F_ne hz)
    refine E_bipush (pc := 7) (zDk zD_259_ok 3 rfl) (by decide +kernel) ?_
    have h := zS_some h
    exact E_ireturn (pc := 9) (zDk zD_259_ok 4 rfl) zt_259 h
def zD_276 : List (Nat × Instr × Nat) := [(0, .aload_n (0), 1), (1, .iload_n (1), 1), (2, .putfield (242), 3), (5, .aload_n (0), 1), (6, .invokevirtual (369), 3), (9, .ireturn, 1)]
set_option maxRecDepth 100000 in
theorem zD_276_ok : zDo 276 zD_276 = true := by decide +kernel
theorem zc_276 : zcls 276 = 8 := by decide +kernel
theorem zm_276 : zml 276 = 2 := by decide +kernel
theorem zt_276 : zrt 276 = (some (.int)) := by decide +kernel
theorem zk_276 : zkd 276 = 1 ∧ znp 276 + 1 = 2 := by decide +kernel
theorem zr_276 (as : List zV) : zrk 276 as = 5 := by unfold zrk; rw [if_neg (by decide)]; decide +kernel
def lm_signsBy (x1 : Int) (M : Nat → Nat → Int) : Option (Int × (Nat → Nat → Int)) :=
    ((some (zup M 106 16 x1)).bind (fun M2 =>
    ((lm_signsNow M2).bind (fun r6_ =>
    (some (r6_.1, r6_.2))))))
set_option maxRecDepth 100000 in
theorem ok_lm_signsBy {sc : zSc} {x1 : Int} {M : Nat → Nat → Int} {P : Int → (Nat → Nat → Int) → Prop} (h : zS (lm_signsBy x1 M) (fun r => P r.1 r.2)) : zCi sc 276 [.inr (.inr 106), .inl x1] M P := by
  have ea : zarg (zml 276) [.inr (.inr 106), .inl x1] = [some (.inr (.inr 106)), some (.inl x1)] := by rw [zm_276]; rfl
  unfold zCi zCw
  rw [ea, zr_276]
  have hq : 5 ≤ 5 := Nat.le_refl _
  unfold lm_signsBy at h
  have h := zS_mono h (fun x hx => (⟨x.1, rfl, hx⟩ : ∃ y, (some (.inl x.1) : Option zV) = some (.inl y) ∧ P y x.2))
  skip
  refine E_aload_n (pc := 0) (zDk zD_276_ok 0 rfl) rfl ?_
  refine E_iload_n (pc := 1) (zDk zD_276_ok 1 rfl) rfl ?_
  obtain ⟨M2, e2, h⟩ := zS_bind h
  refine W_putI (pc := 2) (ci := 8) (f := 16) (zDk zD_276_ok 2 rfl) zc_276 (by decide +kernel) (by decide) zis_8_106 (Option.some.inj e2) ?_
  refine E_aload_n (pc := 5) (zDk zD_276_ok 3 rfl) rfl ?_
  obtain ⟨r6_, e6, h⟩ := zS_bind h
  refine E_virI (pc := 6) (c := 275) (r := 106) (as := []) (rest := []) (zDk zD_276_ok 4 rfl) zc_276 (by decide +kernel) zk_275 ⟨(Nat.le_of_ble_eq_true rfl), rfl, rfl⟩ (Nat.le_of_ble_eq_true rfl) (zr_275 _) (Nat.lt_of_lt_of_le (by decide) hq) (by rw [zm_275]; exact (Nat.le_of_ble_eq_true rfl)) ⟨zc_275, by decide⟩ zis_8_106 (ok_lm_signsNow ⟨r6_, e6, ?_⟩)
  have h := zS_some h
  exact E_ireturn (pc := 9) (zDk zD_276_ok 5 rfl) zt_276 h
def zD_281 : List (Nat × Instr × Nat) := [(0, .aload_n (0), 1), (1, .invokevirtual (308), 3), (4, .ifCond .ne (6), 3), (7, .bipush (-2), 2), (9, .ireturn, 1), (10, .aload_n (0), 1), (11, .invokevirtual (366), 3), (14, .istore_n (1), 1), (15, .iconst (-1), 1), (16, .istore_n (2), 1), (17, .iconst (0), 1), (18, .istore_n (3), 1), (19, .iload_n (3), 1), (20, .aload_n (0), 1), (21, .getfield (9), 3), (24, .iconst (0), 1), (25, .iaload, 1), (26, .if_icmp .ge (51), 3), (29, .aload_n (0), 1), (30, .getfield (40), 3), (33, .iload_n (3), 1), (34, .dup2, 1), (35, .iaload, 1), (36, .bipush (20), 2), (38, .iadd, 1), (39, .iastore, 1), (40, .aload_n (0), 1), (41, .invokevirtual (369), 3), (44, .istore (4), 2), (46, .aload_n (0), 1), (47, .getfield (40), 3), (50, .iload_n (3), 1), (51, .dup2, 1), (52, .iaload, 1), (53, .bipush (20), 2), (55, .isub, 1), (56, .iastore, 1), (57, .iload (4), 2), (59, .iload_n (1), 1), (60, .if_icmp .gt (6), 3), (63, .goto (8), 3), (66, .iload (4), 2), (68, .istore_n (1), 1), (69, .iload_n (3), 1), (70, .istore_n (2), 1), (71, .iinc (3) (1), 3), (74, .goto (-55), 3), (77, .iload_n (2), 1), (78, .ireturn, 1)]
set_option maxRecDepth 100000 in
theorem zD_281_ok : zDo 281 zD_281 = true := by decide +kernel
theorem zc_281 : zcls 281 = 8 := by decide +kernel
theorem zm_281 : zml 281 = 5 := by decide +kernel
theorem zt_281 : zrt 281 = (some (.int)) := by decide +kernel
theorem zk_281 : zkd 281 = 1 ∧ znp 281 + 1 = 1 := by decide +kernel
theorem zr_281 (as : List zV) : zrk 281 as = 5 := by unfold zrk; rw [if_neg (by decide)]; decide +kernel
def lm_dig_c19 : Nat → Int → Int → Int → (Nat → Nat → Int) → Option (Int × (Nat → Nat → Int))
  | 0, _, _, _, _ => none
  | n + 1, y1, y2, y3, M =>
    ((rdI 107 (0 : Int) M).bind (fun v25 =>
    (if y3 < v25 then
    ((rdI 115 y3 M).bind (fun v35 =>
    ((wrI 115 y3 (w32 (v35 + (20 : Int))) M).bind (fun M39 =>
    ((lm_signsNow M39).bind (fun r41_ =>
    ((rdI 115 y3 r41_.2).bind (fun v52 =>
    ((wrI 115 y3 (w32 (v52 - (20 : Int))) r41_.2).bind (fun M56 =>
    (if y1 < r41_.1 then
    ((lm_dig_c19 n) r41_.1 y3 (w32 (y3 + 1)) M56)
    else
    ((lm_dig_c19 n) y1 y2 (w32 (y3 + 1)) M56))))))))))))
    else
    (some (y2, M)))))
set_option maxRecDepth 100000 in
theorem ok_lm_dig_c19 {sc : zSc} {q : Nat} {P : Option zV → (Nat → Nat → Int) → Prop} (hq : 5 ≤ q) : ∀ (n : Nat) (y1 : Int) (y2 : Int) (y3 : Int) (M : Nat → Nat → Int) (d4 : Option zV), zS (lm_dig_c19 n y1 y2 y3 M) (fun r => P (some (.inl r.1)) r.2) → zWp sc q 281 19 [some (.inr (.inr 106)), some (.inl y1), some (.inl y2), some (.inl y3), d4] [] M P := by
  intro n
  induction n with
  | zero => intro y1 y2 y3 M d4 h; exact (zS_none h).elim
  | succ n ih =>
    intro y1 y2 y3 M d4 h
    rw [lm_dig_c19] at h
    refine E_iload_n (pc := 19) (zDk zD_281_ok 12 rfl) rfl ?_
    refine E_aload_n (pc := 20) (zDk zD_281_ok 13 rfl) rfl ?_
    refine E_getR (pc := 21) (ci := 8) (f := 1) (r := 107) (zDk zD_281_ok 14 rfl) zc_281 (by decide +kernel) (by decide) zis_8_106 (by decide +kernel) (by decide) ?_
    refine E_iconst (pc := 24) (zDk zD_281_ok 15 rfl) (by decide +kernel) ?_
    obtain ⟨v25, e25, h⟩ := zS_bind h
    refine E_iaload (pc := 25) (zDk zD_281_ok 16 rfl) e25 ?_
    refine E_icmp (pc := 26) (t := 77) (zDk zD_281_ok 17 rfl) rfl (fun hz => ?_) (fun hz => ?_)
    · have h := zS_f h (Int.not_lt.mpr (T_ge hz))
      refine E_iload_n (pc := 77) (zDk zD_281_ok 47 rfl) rfl ?_
      have h := zS_some h
      exact E_ireturn (pc := 78) (zDk zD_281_ok 48 rfl) zt_281 h
    · have h := zS_t h (F_ge hz)
      refine E_aload_n (pc := 29) (zDk zD_281_ok 18 rfl) rfl ?_
      refine E_getR (pc := 30) (ci := 8) (f := 21) (r := 115) (zDk zD_281_ok 19 rfl) zc_281 (by decide +kernel) (by decide) zis_8_106 (by decide +kernel) (by decide) ?_
      refine E_iload_n (pc := 33) (zDk zD_281_ok 20 rfl) rfl ?_
      refine E_dup2 (pc := 34) (zDk zD_281_ok 21 rfl) rfl rfl ?_
      obtain ⟨v35, e35, h⟩ := zS_bind h
      refine E_iaload (pc := 35) (zDk zD_281_ok 22 rfl) e35 ?_
      refine E_bipush (pc := 36) (zDk zD_281_ok 23 rfl) (by decide +kernel) ?_
      refine W_iadd (pc := 38) (zDk zD_281_ok 24 rfl) ?_
      obtain ⟨M39, e39, h⟩ := zS_bind h
      refine E_iastore (pc := 39) (zDk zD_281_ok 25 rfl) e39 ?_
      refine E_aload_n (pc := 40) (zDk zD_281_ok 26 rfl) rfl ?_
      obtain ⟨r41_, e41, h⟩ := zS_bind h
      refine E_virI (pc := 41) (c := 275) (r := 106) (as := []) (rest := []) (zDk zD_281_ok 27 rfl) zc_281 (by decide +kernel) zk_275 ⟨(Nat.le_of_ble_eq_true rfl), rfl, rfl⟩ (Nat.le_of_ble_eq_true rfl) (zr_275 _) (Nat.lt_of_lt_of_le (by decide) hq) (by rw [zm_275]; exact (Nat.le_of_ble_eq_true rfl)) ⟨zc_275, by decide⟩ zis_8_106 (ok_lm_signsNow ⟨r41_, e41, ?_⟩)
      refine W_istore (pc := 44) (L' := [some (.inr (.inr 106)), some (.inl y1), some (.inl y2), some (.inl y3), some (.inl r41_.1)]) (zDk zD_281_ok 28 rfl) zm_281 (by decide) rfl ?_
      refine E_aload_n (pc := 46) (zDk zD_281_ok 29 rfl) rfl ?_
      refine E_getR (pc := 47) (ci := 8) (f := 21) (r := 115) (zDk zD_281_ok 30 rfl) zc_281 (by decide +kernel) (by decide) zis_8_106 (by decide +kernel) (by decide) ?_
      refine E_iload_n (pc := 50) (zDk zD_281_ok 31 rfl) rfl ?_
      refine E_dup2 (pc := 51) (zDk zD_281_ok 32 rfl) rfl rfl ?_
      obtain ⟨v52, e52, h⟩ := zS_bind h
      refine E_iaload (pc := 52) (zDk zD_281_ok 33 rfl) e52 ?_
      refine E_bipush (pc := 53) (zDk zD_281_ok 34 rfl) (by decide +kernel) ?_
      refine W_isub (pc := 55) (zDk zD_281_ok 35 rfl) ?_
      obtain ⟨M56, e56, h⟩ := zS_bind h
      refine E_iastore (pc := 56) (zDk zD_281_ok 36 rfl) e56 ?_
      refine E_iload (pc := 57) (zDk zD_281_ok 37 rfl) rfl ?_
      refine E_iload_n (pc := 59) (zDk zD_281_ok 38 rfl) rfl ?_
      refine E_icmp (pc := 60) (t := 66) (zDk zD_281_ok 39 rfl) rfl (fun hz => ?_) (fun hz => ?_)
      · have h := zS_t h (T_gt hz)
        refine E_iload (pc := 66) (zDk zD_281_ok 41 rfl) rfl ?_
        refine W_istore_n (pc := 68) (L' := [some (.inr (.inr 106)), some (.inl r41_.1), some (.inl y2), some (.inl y3), some (.inl r41_.1)]) (zDk zD_281_ok 42 rfl) zm_281 (by decide) rfl ?_
        refine E_iload_n (pc := 69) (zDk zD_281_ok 43 rfl) rfl ?_
        refine W_istore_n (pc := 70) (L' := [some (.inr (.inr 106)), some (.inl r41_.1), some (.inl y3), some (.inl y3), some (.inl r41_.1)]) (zDk zD_281_ok 44 rfl) zm_281 (by decide) rfl ?_
        refine W_iinc (pc := 71) (L' := [some (.inr (.inr 106)), some (.inl r41_.1), some (.inl y3), some (.inl (w32 (y3 + 1))), some (.inl r41_.1)]) (zDk zD_281_ok 45 rfl) rfl zm_281 (by decide) rfl ?_
        refine E_goto (pc := 74) (t := 19) (zDk zD_281_ok 46 rfl) rfl ?_
        exact (ih) r41_.1 y3 (w32 (y3 + 1)) M56 (some (.inl r41_.1)) h
      · have h := zS_f h (Int.not_lt.mpr (F_gt hz))
        refine E_goto (pc := 63) (t := 71) (zDk zD_281_ok 40 rfl) rfl ?_
        refine W_iinc (pc := 71) (L' := [some (.inr (.inr 106)), some (.inl y1), some (.inl y2), some (.inl (w32 (y3 + 1))), some (.inl r41_.1)]) (zDk zD_281_ok 45 rfl) rfl zm_281 (by decide) rfl ?_
        refine E_goto (pc := 74) (t := 19) (zDk zD_281_ok 46 rfl) rfl ?_
        exact (ih) y1 y2 (w32 (y3 + 1)) M56 (some (.inl r41_.1)) h
def lm_dig (M : Nat → Nat → Int) : Option (Int × (Nat → Nat → Int)) :=
    ((lm_asksState M).bind (fun r1_ =>
    (if r1_.1 = 0 then
    (some ((-2 : Int), r1_.2))
    else
    ((lm_manySigned r1_.2).bind (fun v11 =>
    (lm_dig_c19 zN v11 (-1 : Int) (0 : Int) r1_.2))))))
set_option maxRecDepth 100000 in
theorem ok_lm_dig {sc : zSc} {M : Nat → Nat → Int} {P : Int → (Nat → Nat → Int) → Prop} (h : zS (lm_dig M) (fun r => P r.1 r.2)) : zCi sc 281 [.inr (.inr 106)] M P := by
  have ea : zarg (zml 281) [.inr (.inr 106)] = [some (.inr (.inr 106)), none, none, none, none] := by rw [zm_281]; rfl
  unfold zCi zCw
  rw [ea, zr_281]
  have hq : 5 ≤ 5 := Nat.le_refl _
  unfold lm_dig at h
  have h := zS_mono h (fun x hx => (⟨x.1, rfl, hx⟩ : ∃ y, (some (.inl x.1) : Option zV) = some (.inl y) ∧ P y x.2))
  skip
  refine E_aload_n (pc := 0) (zDk zD_281_ok 0 rfl) rfl ?_
  obtain ⟨r1_, e1, h⟩ := zS_bind h
  refine E_virI (pc := 1) (c := 229) (r := 106) (as := []) (rest := []) (zDk zD_281_ok 1 rfl) zc_281 (by decide +kernel) zk_229 ⟨(Nat.le_of_ble_eq_true rfl), rfl, rfl⟩ (Nat.le_of_ble_eq_true rfl) (zr_229 _) (Nat.lt_of_lt_of_le (by decide) hq) (by rw [zm_229]; exact (Nat.le_of_ble_eq_true rfl)) ⟨zc_229, by decide⟩ zis_8_106 (ok_lm_asksState ⟨r1_, e1, ?_⟩)
  refine E_if (pc := 4) (t := 10) (zDk zD_281_ok 2 rfl) rfl (fun hz => ?_) (fun hz => ?_)
  · have h := zS_f h (T_ne hz)
    refine E_aload_n (pc := 10) (zDk zD_281_ok 5 rfl) rfl ?_
    obtain ⟨v11, e11, h⟩ := zS_bind h
    refine E_virI (pc := 11) (c := 247) (r := 106) (as := []) (rest := []) (zDk zD_281_ok 6 rfl) zc_281 (by decide +kernel) zk_247 ⟨(Nat.le_of_ble_eq_true rfl), rfl, rfl⟩ (Nat.le_of_ble_eq_true rfl) (zr_247 _) (Nat.lt_of_lt_of_le (by decide) hq) (by rw [zm_247]; exact (Nat.le_of_ble_eq_true rfl)) ⟨zc_247, by decide⟩ zis_8_106 (ok_lm_manySigned ⟨v11, e11, ?_⟩)
    refine W_istore_n (pc := 14) (L' := [some (.inr (.inr 106)), some (.inl v11), none, none, none]) (zDk zD_281_ok 7 rfl) zm_281 (by decide) rfl ?_
    refine E_iconst (pc := 15) (zDk zD_281_ok 8 rfl) (by decide +kernel) ?_
    refine W_istore_n (pc := 16) (L' := [some (.inr (.inr 106)), some (.inl v11), some (.inl (-1 : Int)), none, none]) (zDk zD_281_ok 9 rfl) zm_281 (by decide) rfl ?_
    refine E_iconst (pc := 17) (zDk zD_281_ok 10 rfl) (by decide +kernel) ?_
    refine W_istore_n (pc := 18) (L' := [some (.inr (.inr 106)), some (.inl v11), some (.inl (-1 : Int)), some (.inl (0 : Int)), none]) (zDk zD_281_ok 11 rfl) zm_281 (by decide) rfl ?_
    exact ok_lm_dig_c19 hq zN v11 (-1 : Int) (0 : Int) r1_.2 none h
  · have h := zS_t h (F_ne hz)
    refine E_bipush (pc := 7) (zDk zD_281_ok 3 rfl) (by decide +kernel) ?_
    have h := zS_some h
    exact E_ireturn (pc := 9) (zDk zD_281_ok 4 rfl) zt_281 h
def zD_282 : List (Nat × Instr × Nat) := [(0, .aload_n (0), 1), (1, .invokevirtual (308), 3), (4, .ifCond .ne (6), 3), (7, .bipush (-2), 2), (9, .ireturn, 1), (10, .aload_n (0), 1), (11, .invokevirtual (366), 3), (14, .istore_n (1), 1), (15, .iconst (-1), 1), (16, .istore_n (2), 1), (17, .aload_n (0), 1), (18, .getfield (239), 3), (21, .istore_n (3), 1), (22, .iconst (0), 1), (23, .istore (4), 2), (25, .iload (4), 2), (27, .aload_n (0), 1), (28, .getfield (9), 3), (31, .iconst (4), 1), (32, .iaload, 1), (33, .if_icmp .ge (45), 3), (36, .aload_n (0), 1), (37, .iload_n (3), 1), (38, .iconst (1), 1), (39, .iload (4), 2), (41, .ishl, 1), (42, .ior, 1), (43, .putfield (239), 3), (46, .aload_n (0), 1), (47, .invokevirtual (369), 3), (50, .istore (5), 2), (52, .aload_n (0), 1), (53, .iload_n (3), 1), (54, .putfield (239), 3), (57, .iload (5), 2), (59, .iload_n (1), 1), (60, .if_icmp .gt (6), 3), (63, .goto (9), 3), (66, .iload (5), 2), (68, .istore_n (1), 1), (69, .iload (4), 2), (71, .istore_n (2), 1), (72, .iinc (4) (1), 3), (75, .goto (-50), 3), (78, .iload_n (2), 1), (79, .ireturn, 1)]
set_option maxRecDepth 100000 in
theorem zD_282_ok : zDo 282 zD_282 = true := by decide +kernel
theorem zc_282 : zcls 282 = 8 := by decide +kernel
theorem zm_282 : zml 282 = 6 := by decide +kernel
theorem zt_282 : zrt 282 = (some (.int)) := by decide +kernel
theorem zk_282 : zkd 282 = 1 ∧ znp 282 + 1 = 1 := by decide +kernel
theorem zr_282 (as : List zV) : zrk 282 as = 5 := by unfold zrk; rw [if_neg (by decide)]; decide +kernel
def lm_shut_c25 : Nat → Int → Int → Int → Int → (Nat → Nat → Int) → Option (Int × (Nat → Nat → Int))
  | 0, _, _, _, _, _ => none
  | n + 1, y1, y2, y3, y4, M =>
    ((rdI 107 (4 : Int) M).bind (fun v32 =>
    (if y4 < v32 then
    ((some (zup M 106 15 (zor y3 (zshl (1 : Int) y4)))).bind (fun M43 =>
    ((lm_signsNow M43).bind (fun r47_ =>
    ((some (zup r47_.2 106 15 y3)).bind (fun M54 =>
    (if y1 < r47_.1 then
    ((lm_shut_c25 n) r47_.1 y4 y3 (w32 (y4 + 1)) M54)
    else
    ((lm_shut_c25 n) y1 y2 y3 (w32 (y4 + 1)) M54))))))))
    else
    (some (y2, M)))))
set_option maxRecDepth 100000 in
theorem ok_lm_shut_c25 {sc : zSc} {q : Nat} {P : Option zV → (Nat → Nat → Int) → Prop} (hq : 5 ≤ q) : ∀ (n : Nat) (y1 : Int) (y2 : Int) (y3 : Int) (y4 : Int) (M : Nat → Nat → Int) (d5 : Option zV), zS (lm_shut_c25 n y1 y2 y3 y4 M) (fun r => P (some (.inl r.1)) r.2) → zWp sc q 282 25 [some (.inr (.inr 106)), some (.inl y1), some (.inl y2), some (.inl y3), some (.inl y4), d5] [] M P := by
  intro n
  induction n with
  | zero => intro y1 y2 y3 y4 M d5 h; exact (zS_none h).elim
  | succ n ih =>
    intro y1 y2 y3 y4 M d5 h
    rw [lm_shut_c25] at h
    refine E_iload (pc := 25) (zDk zD_282_ok 15 rfl) rfl ?_
    refine E_aload_n (pc := 27) (zDk zD_282_ok 16 rfl) rfl ?_
    refine E_getR (pc := 28) (ci := 8) (f := 1) (r := 107) (zDk zD_282_ok 17 rfl) zc_282 (by decide +kernel) (by decide) zis_8_106 (by decide +kernel) (by decide) ?_
    refine E_iconst (pc := 31) (zDk zD_282_ok 18 rfl) (by decide +kernel) ?_
    obtain ⟨v32, e32, h⟩ := zS_bind h
    refine E_iaload (pc := 32) (zDk zD_282_ok 19 rfl) e32 ?_
    refine E_icmp (pc := 33) (t := 78) (zDk zD_282_ok 20 rfl) rfl (fun hz => ?_) (fun hz => ?_)
    · have h := zS_f h (Int.not_lt.mpr (T_ge hz))
      refine E_iload_n (pc := 78) (zDk zD_282_ok 44 rfl) rfl ?_
      have h := zS_some h
      exact E_ireturn (pc := 79) (zDk zD_282_ok 45 rfl) zt_282 h
    · have h := zS_t h (F_ge hz)
      refine E_aload_n (pc := 36) (zDk zD_282_ok 21 rfl) rfl ?_
      refine E_iload_n (pc := 37) (zDk zD_282_ok 22 rfl) rfl ?_
      refine E_iconst (pc := 38) (zDk zD_282_ok 23 rfl) (by decide +kernel) ?_
      refine E_iload (pc := 39) (zDk zD_282_ok 24 rfl) rfl ?_
      refine E_ishl (pc := 41) (zDk zD_282_ok 25 rfl) ?_
      refine E_ior (pc := 42) (zDk zD_282_ok 26 rfl) ?_
      obtain ⟨M43, e43, h⟩ := zS_bind h
      refine W_putI (pc := 43) (ci := 8) (f := 15) (zDk zD_282_ok 27 rfl) zc_282 (by decide +kernel) (by decide) zis_8_106 (Option.some.inj e43) ?_
      refine E_aload_n (pc := 46) (zDk zD_282_ok 28 rfl) rfl ?_
      obtain ⟨r47_, e47, h⟩ := zS_bind h
      refine E_virI (pc := 47) (c := 275) (r := 106) (as := []) (rest := []) (zDk zD_282_ok 29 rfl) zc_282 (by decide +kernel) zk_275 ⟨(Nat.le_of_ble_eq_true rfl), rfl, rfl⟩ (Nat.le_of_ble_eq_true rfl) (zr_275 _) (Nat.lt_of_lt_of_le (by decide) hq) (by rw [zm_275]; exact (Nat.le_of_ble_eq_true rfl)) ⟨zc_275, by decide⟩ zis_8_106 (ok_lm_signsNow ⟨r47_, e47, ?_⟩)
      refine W_istore (pc := 50) (L' := [some (.inr (.inr 106)), some (.inl y1), some (.inl y2), some (.inl y3), some (.inl y4), some (.inl r47_.1)]) (zDk zD_282_ok 30 rfl) zm_282 (by decide) rfl ?_
      refine E_aload_n (pc := 52) (zDk zD_282_ok 31 rfl) rfl ?_
      refine E_iload_n (pc := 53) (zDk zD_282_ok 32 rfl) rfl ?_
      obtain ⟨M54, e54, h⟩ := zS_bind h
      refine W_putI (pc := 54) (ci := 8) (f := 15) (zDk zD_282_ok 33 rfl) zc_282 (by decide +kernel) (by decide) zis_8_106 (Option.some.inj e54) ?_
      refine E_iload (pc := 57) (zDk zD_282_ok 34 rfl) rfl ?_
      refine E_iload_n (pc := 59) (zDk zD_282_ok 35 rfl) rfl ?_
      refine E_icmp (pc := 60) (t := 66) (zDk zD_282_ok 36 rfl) rfl (fun hz => ?_) (fun hz => ?_)
      · have h := zS_t h (T_gt hz)
        refine E_iload (pc := 66) (zDk zD_282_ok 38 rfl) rfl ?_
        refine W_istore_n (pc := 68) (L' := [some (.inr (.inr 106)), some (.inl r47_.1), some (.inl y2), some (.inl y3), some (.inl y4), some (.inl r47_.1)]) (zDk zD_282_ok 39 rfl) zm_282 (by decide) rfl ?_
        refine E_iload (pc := 69) (zDk zD_282_ok 40 rfl) rfl ?_
        refine W_istore_n (pc := 71) (L' := [some (.inr (.inr 106)), some (.inl r47_.1), some (.inl y4), some (.inl y3), some (.inl y4), some (.inl r47_.1)]) (zDk zD_282_ok 41 rfl) zm_282 (by decide) rfl ?_
        refine W_iinc (pc := 72) (L' := [some (.inr (.inr 106)), some (.inl r47_.1), some (.inl y4), some (.inl y3), some (.inl (w32 (y4 + 1))), some (.inl r47_.1)]) (zDk zD_282_ok 42 rfl) rfl zm_282 (by decide) rfl ?_
        refine E_goto (pc := 75) (t := 25) (zDk zD_282_ok 43 rfl) rfl ?_
        exact (ih) r47_.1 y4 y3 (w32 (y4 + 1)) M54 (some (.inl r47_.1)) h
      · have h := zS_f h (Int.not_lt.mpr (F_gt hz))
        refine E_goto (pc := 63) (t := 72) (zDk zD_282_ok 37 rfl) rfl ?_
        refine W_iinc (pc := 72) (L' := [some (.inr (.inr 106)), some (.inl y1), some (.inl y2), some (.inl y3), some (.inl (w32 (y4 + 1))), some (.inl r47_.1)]) (zDk zD_282_ok 42 rfl) rfl zm_282 (by decide) rfl ?_
        refine E_goto (pc := 75) (t := 25) (zDk zD_282_ok 43 rfl) rfl ?_
        exact (ih) y1 y2 y3 (w32 (y4 + 1)) M54 (some (.inl r47_.1)) h
def lm_shut (M : Nat → Nat → Int) : Option (Int × (Nat → Nat → Int)) :=
    ((lm_asksState M).bind (fun r1_ =>
    (if r1_.1 = 0 then
    (some ((-2 : Int), r1_.2))
    else
    ((lm_manySigned r1_.2).bind (fun v11 =>
    (lm_shut_c25 zN v11 (-1 : Int) (r1_.2 106 15) (0 : Int) r1_.2))))))
set_option maxRecDepth 100000 in
theorem ok_lm_shut {sc : zSc} {M : Nat → Nat → Int} {P : Int → (Nat → Nat → Int) → Prop} (h : zS (lm_shut M) (fun r => P r.1 r.2)) : zCi sc 282 [.inr (.inr 106)] M P := by
  have ea : zarg (zml 282) [.inr (.inr 106)] = [some (.inr (.inr 106)), none, none, none, none, none] := by rw [zm_282]; rfl
  unfold zCi zCw
  rw [ea, zr_282]
  have hq : 5 ≤ 5 := Nat.le_refl _
  unfold lm_shut at h
  have h := zS_mono h (fun x hx => (⟨x.1, rfl, hx⟩ : ∃ y, (some (.inl x.1) : Option zV) = some (.inl y) ∧ P y x.2))
  skip
  refine E_aload_n (pc := 0) (zDk zD_282_ok 0 rfl) rfl ?_
  obtain ⟨r1_, e1, h⟩ := zS_bind h
  refine E_virI (pc := 1) (c := 229) (r := 106) (as := []) (rest := []) (zDk zD_282_ok 1 rfl) zc_282 (by decide +kernel) zk_229 ⟨(Nat.le_of_ble_eq_true rfl), rfl, rfl⟩ (Nat.le_of_ble_eq_true rfl) (zr_229 _) (Nat.lt_of_lt_of_le (by decide) hq) (by rw [zm_229]; exact (Nat.le_of_ble_eq_true rfl)) ⟨zc_229, by decide⟩ zis_8_106 (ok_lm_asksState ⟨r1_, e1, ?_⟩)
  refine E_if (pc := 4) (t := 10) (zDk zD_282_ok 2 rfl) rfl (fun hz => ?_) (fun hz => ?_)
  · have h := zS_f h (T_ne hz)
    refine E_aload_n (pc := 10) (zDk zD_282_ok 5 rfl) rfl ?_
    obtain ⟨v11, e11, h⟩ := zS_bind h
    refine E_virI (pc := 11) (c := 247) (r := 106) (as := []) (rest := []) (zDk zD_282_ok 6 rfl) zc_282 (by decide +kernel) zk_247 ⟨(Nat.le_of_ble_eq_true rfl), rfl, rfl⟩ (Nat.le_of_ble_eq_true rfl) (zr_247 _) (Nat.lt_of_lt_of_le (by decide) hq) (by rw [zm_247]; exact (Nat.le_of_ble_eq_true rfl)) ⟨zc_247, by decide⟩ zis_8_106 (ok_lm_manySigned ⟨v11, e11, ?_⟩)
    refine W_istore_n (pc := 14) (L' := [some (.inr (.inr 106)), some (.inl v11), none, none, none, none]) (zDk zD_282_ok 7 rfl) zm_282 (by decide) rfl ?_
    refine E_iconst (pc := 15) (zDk zD_282_ok 8 rfl) (by decide +kernel) ?_
    refine W_istore_n (pc := 16) (L' := [some (.inr (.inr 106)), some (.inl v11), some (.inl (-1 : Int)), none, none, none]) (zDk zD_282_ok 9 rfl) zm_282 (by decide) rfl ?_
    refine E_aload_n (pc := 17) (zDk zD_282_ok 10 rfl) rfl ?_
    refine E_getI (pc := 18) (ci := 8) (f := 15) (zDk zD_282_ok 11 rfl) zc_282 (by decide +kernel) (by decide) zis_8_106 ?_
    refine W_istore_n (pc := 21) (L' := [some (.inr (.inr 106)), some (.inl v11), some (.inl (-1 : Int)), some (.inl (r1_.2 106 15)), none, none]) (zDk zD_282_ok 12 rfl) zm_282 (by decide) rfl ?_
    refine E_iconst (pc := 22) (zDk zD_282_ok 13 rfl) (by decide +kernel) ?_
    refine W_istore (pc := 23) (L' := [some (.inr (.inr 106)), some (.inl v11), some (.inl (-1 : Int)), some (.inl (r1_.2 106 15)), some (.inl (0 : Int)), none]) (zDk zD_282_ok 14 rfl) zm_282 (by decide) rfl ?_
    exact ok_lm_shut_c25 hq zN v11 (-1 : Int) (r1_.2 106 15) (0 : Int) r1_.2 none h
  · have h := zS_t h (F_ne hz)
    refine E_bipush (pc := 7) (zDk zD_282_ok 3 rfl) (by decide +kernel) ?_
    have h := zS_some h
    exact E_ireturn (pc := 9) (zDk zD_282_ok 4 rfl) zt_282 h
def zD_285 : List (Nat × Instr × Nat) := [(0, .aload_n (0), 1), (1, .iload_n (1), 1), (2, .iload_n (2), 1), (3, .invokevirtual (382), 3), (6, .ireturn, 1)]
set_option maxRecDepth 100000 in
theorem zD_285_ok : zDo 285 zD_285 = true := by decide +kernel
theorem zc_285 : zcls 285 = 8 := by decide +kernel
theorem zm_285 : zml 285 = 3 := by decide +kernel
theorem zt_285 : zrt 285 = (some (.int)) := by decide +kernel
theorem zk_285 : zkd 285 = 1 ∧ znp 285 + 1 = 3 := by decide +kernel
theorem zr_285 (as : List zV) : zrk 285 as = 5 := by unfold zrk; rw [if_neg (by decide)]; decide +kernel
def lm_homes (x1 : Int) (x2 : Int) (M : Nat → Nat → Int) : Option (Int × (Nat → Nat → Int)) :=
    ((lm_layHomes x1 x2 M).bind (fun r3_ =>
    (some (r3_.1, r3_.2))))
set_option maxRecDepth 100000 in
theorem ok_lm_homes {sc : zSc} {x1 : Int} {x2 : Int} {M : Nat → Nat → Int} {P : Int → (Nat → Nat → Int) → Prop} (h : zS (lm_homes x1 x2 M) (fun r => P r.1 r.2)) : zCi sc 285 [.inr (.inr 106), .inl x1, .inl x2] M P := by
  have ea : zarg (zml 285) [.inr (.inr 106), .inl x1, .inl x2] = [some (.inr (.inr 106)), some (.inl x1), some (.inl x2)] := by rw [zm_285]; rfl
  unfold zCi zCw
  rw [ea, zr_285]
  have hq : 5 ≤ 5 := Nat.le_refl _
  unfold lm_homes at h
  have h := zS_mono h (fun x hx => (⟨x.1, rfl, hx⟩ : ∃ y, (some (.inl x.1) : Option zV) = some (.inl y) ∧ P y x.2))
  skip
  refine E_aload_n (pc := 0) (zDk zD_285_ok 0 rfl) rfl ?_
  refine E_iload_n (pc := 1) (zDk zD_285_ok 1 rfl) rfl ?_
  refine E_iload_n (pc := 2) (zDk zD_285_ok 2 rfl) rfl ?_
  obtain ⟨r3_, e3, h⟩ := zS_bind h
  refine E_virI (pc := 3) (c := 284) (r := 106) (as := [.inl x1, .inl x2]) (rest := []) (zDk zD_285_ok 3 rfl) zc_285 (by decide +kernel) zk_284 ⟨(Nat.le_of_ble_eq_true rfl), rfl, rfl⟩ (Nat.le_of_ble_eq_true rfl) (zr_284 _) (Nat.lt_of_lt_of_le (by decide) hq) (by rw [zm_284]; exact (Nat.le_of_ble_eq_true rfl)) ⟨zc_284, by decide⟩ zis_8_106 (ok_lm_layHomes ⟨r3_, e3, ?_⟩)
  have h := zS_some h
  exact E_ireturn (pc := 6) (zDk zD_285_ok 4 rfl) zt_285 h
def zD_287 : List (Nat × Instr × Nat) := [(0, .aload_n (0), 1), (1, .iload_n (1), 1), (2, .iload_n (2), 1), (3, .invokevirtual (382), 3), (6, .istore_n (3), 1), (7, .iload_n (3), 1), (8, .ifCond .ge (7), 3), (11, .iload_n (3), 1), (12, .goto (8), 3), (15, .aload_n (0), 1), (16, .iload_n (3), 1), (17, .invokevirtual (388), 3), (20, .ireturn, 1)]
set_option maxRecDepth 100000 in
theorem zD_287_ok : zDo 287 zD_287 = true := by decide +kernel
theorem zc_287 : zcls 287 = 8 := by decide +kernel
theorem zm_287 : zml 287 = 4 := by decide +kernel
theorem zt_287 : zrt 287 = (some (.int)) := by decide +kernel
theorem zk_287 : zkd 287 = 1 ∧ znp 287 + 1 = 3 := by decide +kernel
theorem zr_287 (as : List zV) : zrk 287 as = 5 := by unfold zrk; rw [if_neg (by decide)]; decide +kernel
def lm_ask (x1 : Int) (x2 : Int) (M : Nat → Nat → Int) : Option (Int × (Nat → Nat → Int)) :=
    ((lm_layHomes x1 x2 M).bind (fun r3_ =>
    (if r3_.1 < 0 then
    (some (r3_.1, r3_.2))
    else
    ((lm_askOf r3_.1 r3_.2).bind (fun r17_ =>
    (some (r17_.1, r17_.2)))))))
set_option maxRecDepth 100000 in
theorem ok_lm_ask {sc : zSc} {x1 : Int} {x2 : Int} {M : Nat → Nat → Int} {P : Int → (Nat → Nat → Int) → Prop} (h : zS (lm_ask x1 x2 M) (fun r => P r.1 r.2)) : zCi sc 287 [.inr (.inr 106), .inl x1, .inl x2] M P := by
  have ea : zarg (zml 287) [.inr (.inr 106), .inl x1, .inl x2] = [some (.inr (.inr 106)), some (.inl x1), some (.inl x2), none] := by rw [zm_287]; rfl
  unfold zCi zCw
  rw [ea, zr_287]
  have hq : 5 ≤ 5 := Nat.le_refl _
  unfold lm_ask at h
  have h := zS_mono h (fun x hx => (⟨x.1, rfl, hx⟩ : ∃ y, (some (.inl x.1) : Option zV) = some (.inl y) ∧ P y x.2))
  skip
  refine E_aload_n (pc := 0) (zDk zD_287_ok 0 rfl) rfl ?_
  refine E_iload_n (pc := 1) (zDk zD_287_ok 1 rfl) rfl ?_
  refine E_iload_n (pc := 2) (zDk zD_287_ok 2 rfl) rfl ?_
  obtain ⟨r3_, e3, h⟩ := zS_bind h
  refine E_virI (pc := 3) (c := 284) (r := 106) (as := [.inl x1, .inl x2]) (rest := []) (zDk zD_287_ok 3 rfl) zc_287 (by decide +kernel) zk_284 ⟨(Nat.le_of_ble_eq_true rfl), rfl, rfl⟩ (Nat.le_of_ble_eq_true rfl) (zr_284 _) (Nat.lt_of_lt_of_le (by decide) hq) (by rw [zm_284]; exact (Nat.le_of_ble_eq_true rfl)) ⟨zc_284, by decide⟩ zis_8_106 (ok_lm_layHomes ⟨r3_, e3, ?_⟩)
  refine W_istore_n (pc := 6) (L' := [some (.inr (.inr 106)), some (.inl x1), some (.inl x2), some (.inl r3_.1)]) (zDk zD_287_ok 4 rfl) zm_287 (by decide) rfl ?_
  refine E_iload_n (pc := 7) (zDk zD_287_ok 5 rfl) rfl ?_
  refine E_if (pc := 8) (t := 15) (zDk zD_287_ok 6 rfl) rfl (fun hz => ?_) (fun hz => ?_)
  · have h := zS_f h (Int.not_lt.mpr (T_ge hz))
    refine E_aload_n (pc := 15) (zDk zD_287_ok 9 rfl) rfl ?_
    refine E_iload_n (pc := 16) (zDk zD_287_ok 10 rfl) rfl ?_
    obtain ⟨r17_, e17, h⟩ := zS_bind h
    refine E_virI (pc := 17) (c := 286) (r := 106) (as := [.inl r3_.1]) (rest := []) (zDk zD_287_ok 11 rfl) zc_287 (by decide +kernel) zk_286 ⟨(Nat.le_of_ble_eq_true rfl), rfl, rfl⟩ (Nat.le_of_ble_eq_true rfl) (zr_286 _) (Nat.lt_of_lt_of_le (by decide) hq) (by rw [zm_286]; exact (Nat.le_of_ble_eq_true rfl)) ⟨zc_286, by decide⟩ zis_8_106 (ok_lm_askOf ⟨r17_, e17, ?_⟩)
    have h := zS_some h
    exact E_ireturn (pc := 20) (zDk zD_287_ok 12 rfl) zt_287 h
  · have h := zS_t h (F_ge hz)
    refine E_iload_n (pc := 11) (zDk zD_287_ok 7 rfl) rfl ?_
    refine E_goto (pc := 12) (t := 20) (zDk zD_287_ok 8 rfl) rfl ?_
    have h := zS_some h
    exact E_ireturn (pc := 20) (zDk zD_287_ok 12 rfl) zt_287 h
def zD_288 : List (Nat × Instr × Nat) := [(0, .aload_n (0), 1), (1, .iload_n (1), 1), (2, .iload_n (2), 1), (3, .invokevirtual (382), 3), (6, .istore_n (3), 1), (7, .iload_n (3), 1), (8, .ifCond .ge (5), 3), (11, .iload_n (3), 1), (12, .ireturn, 1), (13, .aload_n (0), 1), (14, .iload_n (3), 1), (15, .invokevirtual (388), 3), (18, .pop, 1), (19, .aload_n (0), 1), (20, .getfield (385), 3), (23, .ireturn, 1)]
set_option maxRecDepth 100000 in
theorem zD_288_ok : zDo 288 zD_288 = true := by decide +kernel
theorem zc_288 : zcls 288 = 8 := by decide +kernel
theorem zm_288 : zml 288 = 4 := by decide +kernel
theorem zt_288 : zrt 288 = (some (.int)) := by decide +kernel
theorem zk_288 : zkd 288 = 1 ∧ znp 288 + 1 = 3 := by decide +kernel
theorem zr_288 (as : List zV) : zrk 288 as = 5 := by unfold zrk; rw [if_neg (by decide)]; decide +kernel
def lm_leaves (x1 : Int) (x2 : Int) (M : Nat → Nat → Int) : Option (Int × (Nat → Nat → Int)) :=
    ((lm_layHomes x1 x2 M).bind (fun r3_ =>
    (if r3_.1 < 0 then
    (some (r3_.1, r3_.2))
    else
    ((lm_askOf r3_.1 r3_.2).bind (fun r15_ =>
    (some ((r15_.2 106 32), r15_.2)))))))
set_option maxRecDepth 100000 in
theorem ok_lm_leaves {sc : zSc} {x1 : Int} {x2 : Int} {M : Nat → Nat → Int} {P : Int → (Nat → Nat → Int) → Prop} (h : zS (lm_leaves x1 x2 M) (fun r => P r.1 r.2)) : zCi sc 288 [.inr (.inr 106), .inl x1, .inl x2] M P := by
  have ea : zarg (zml 288) [.inr (.inr 106), .inl x1, .inl x2] = [some (.inr (.inr 106)), some (.inl x1), some (.inl x2), none] := by rw [zm_288]; rfl
  unfold zCi zCw
  rw [ea, zr_288]
  have hq : 5 ≤ 5 := Nat.le_refl _
  unfold lm_leaves at h
  have h := zS_mono h (fun x hx => (⟨x.1, rfl, hx⟩ : ∃ y, (some (.inl x.1) : Option zV) = some (.inl y) ∧ P y x.2))
  skip
  refine E_aload_n (pc := 0) (zDk zD_288_ok 0 rfl) rfl ?_
  refine E_iload_n (pc := 1) (zDk zD_288_ok 1 rfl) rfl ?_
  refine E_iload_n (pc := 2) (zDk zD_288_ok 2 rfl) rfl ?_
  obtain ⟨r3_, e3, h⟩ := zS_bind h
  refine E_virI (pc := 3) (c := 284) (r := 106) (as := [.inl x1, .inl x2]) (rest := []) (zDk zD_288_ok 3 rfl) zc_288 (by decide +kernel) zk_284 ⟨(Nat.le_of_ble_eq_true rfl), rfl, rfl⟩ (Nat.le_of_ble_eq_true rfl) (zr_284 _) (Nat.lt_of_lt_of_le (by decide) hq) (by rw [zm_284]; exact (Nat.le_of_ble_eq_true rfl)) ⟨zc_284, by decide⟩ zis_8_106 (ok_lm_layHomes ⟨r3_, e3, ?_⟩)
  refine W_istore_n (pc := 6) (L' := [some (.inr (.inr 106)), some (.inl x1), some (.inl x2), some (.inl r3_.1)]) (zDk zD_288_ok 4 rfl) zm_288 (by decide) rfl ?_
  refine E_iload_n (pc := 7) (zDk zD_288_ok 5 rfl) rfl ?_
  refine E_if (pc := 8) (t := 13) (zDk zD_288_ok 6 rfl) rfl (fun hz => ?_) (fun hz => ?_)
  · have h := zS_f h (Int.not_lt.mpr (T_ge hz))
    refine E_aload_n (pc := 13) (zDk zD_288_ok 9 rfl) rfl ?_
    refine E_iload_n (pc := 14) (zDk zD_288_ok 10 rfl) rfl ?_
    obtain ⟨r15_, e15, h⟩ := zS_bind h
    refine E_virI (pc := 15) (c := 286) (r := 106) (as := [.inl r3_.1]) (rest := []) (zDk zD_288_ok 11 rfl) zc_288 (by decide +kernel) zk_286 ⟨(Nat.le_of_ble_eq_true rfl), rfl, rfl⟩ (Nat.le_of_ble_eq_true rfl) (zr_286 _) (Nat.lt_of_lt_of_le (by decide) hq) (by rw [zm_286]; exact (Nat.le_of_ble_eq_true rfl)) ⟨zc_286, by decide⟩ zis_8_106 (ok_lm_askOf ⟨r15_, e15, ?_⟩)
    refine E_pop (pc := 18) (zDk zD_288_ok 12 rfl) rfl ?_
    refine E_aload_n (pc := 19) (zDk zD_288_ok 13 rfl) rfl ?_
    refine E_getI (pc := 20) (ci := 8) (f := 32) (zDk zD_288_ok 14 rfl) zc_288 (by decide +kernel) (by decide) zis_8_106 ?_
    have h := zS_some h
    exact E_ireturn (pc := 23) (zDk zD_288_ok 15 rfl) zt_288 h
  · have h := zS_t h (F_ge hz)
    refine E_iload_n (pc := 11) (zDk zD_288_ok 7 rfl) rfl ?_
    have h := zS_some h
    exact E_ireturn (pc := 12) (zDk zD_288_ok 8 rfl) zt_288 h
def zD_299 : List (Nat × Instr × Nat) := [(0, .aload_n (0), 1), (1, .iload_n (1), 1), (2, .iload_n (2), 1), (3, .invokevirtual (360), 3), (6, .ifCond .ne (6), 3), (9, .bipush (-2), 2), (11, .ireturn, 1), (12, .iconst (0), 1), (13, .istore_n (3), 1), (14, .iconst (0), 1), (15, .istore (4), 2), (17, .iload (4), 2), (19, .iconst (4), 1), (20, .if_icmp .ge (98), 3), (23, .iload (4), 2), (25, .iconst (1), 1), (26, .iand, 1), (27, .istore (5), 2), (29, .iload (4), 2), (31, .iconst (1), 1), (32, .ishr, 1), (33, .istore (6), 2), (35, .aload_n (0), 1), (36, .iload_n (1), 1), (37, .iload_n (2), 1), (38, .iload (5), 2), (40, .iload (6), 2), (42, .iconst (0), 1), (43, .invokevirtual (419), 3), (46, .aload_n (0), 1), (47, .iload_n (1), 1), (48, .iload_n (2), 1), (49, .iconst (1), 1), (50, .iload (5), 2), (52, .isub, 1), (53, .iload (6), 2), (55, .iconst (0), 1), (56, .invokevirtual (419), 3), (59, .if_icmp .lt (34), 3), (62, .aload_n (0), 1), (63, .iload_n (1), 1), (64, .iload_n (2), 1), (65, .iload (5), 2), (67, .iload (6), 2), (69, .iconst (1), 1), (70, .invokevirtual (419), 3), (73, .aload_n (0), 1), (74, .iload_n (1), 1), (75, .iload_n (2), 1), (76, .iload (5), 2), (78, .iconst (1), 1), (79, .iload (6), 2), (81, .isub, 1), (82, .iconst (1), 1), (83, .invokevirtual (419), 3), (86, .if_icmp .lt (7), 3), (89, .iconst (1), 1), (90, .goto (4), 3), (93, .iconst (0), 1), (94, .istore (7), 2), (96, .iload_n (3), 1), (97, .iload (7), 2), (99, .ifCond .eq (10), 3), (102, .iconst (1), 1), (103, .iload (4), 2), (105, .ishl, 1), (106, .goto (4), 3), (109, .iconst (0), 1), (110, .ior, 1), (111, .istore_n (3), 1), (112, .iinc (4) (1), 3), (115, .goto (-98), 3), (118, .iload_n (3), 1), (119, .ireturn, 1)]
set_option maxRecDepth 100000 in
theorem zD_299_ok : zDo 299 zD_299 = true := by decide +kernel
theorem zc_299 : zcls 299 = 8 := by decide +kernel
theorem zm_299 : zml 299 = 8 := by decide +kernel
theorem zt_299 : zrt 299 = (some (.int)) := by decide +kernel
theorem zk_299 : zkd 299 = 1 ∧ znp 299 + 1 = 3 := by decide +kernel
theorem zr_299 (as : List zV) : zrk 299 as = 5 := by unfold zrk; rw [if_neg (by decide)]; decide +kernel
def lm_rests_c94 (x1 : Int) (x2 : Int) (h17 : Int → Int → (Nat → Nat → Int) → Option (Int × (Nat → Nat → Int))) (y3 : Int) (y4 : Int) (s0 : Int) (M : Nat → Nat → Int) : Option (Int × (Nat → Nat → Int)) :=
    (if s0 = 0 then
    (h17 (zor y3 (0 : Int)) (w32 (y4 + 1)) M)
    else
    (h17 (zor y3 (zshl (1 : Int) y4)) (w32 (y4 + 1)) M))
set_option maxRecDepth 100000 in
theorem ok_lm_rests_c94 {sc : zSc} {q : Nat} {P : Option zV → (Nat → Nat → Int) → Prop} (hq : 5 ≤ q) (x1 : Int) (x2 : Int) (h17 : Int → Int → (Nat → Nat → Int) → Option (Int × (Nat → Nat → Int))) (H17 : ∀ (y3 : Int) (y4 : Int) (M : Nat → Nat → Int) (d5 d6 d7 : Option zV), zS (h17 y3 y4 M) (fun r => P (some (.inl r.1)) r.2) → zWp sc q 299 17 [some (.inr (.inr 106)), some (.inl x1), some (.inl x2), some (.inl y3), some (.inl y4), d5, d6, d7] [] M P) : ∀ (y3 : Int) (y4 : Int) (s0 : Int) (M : Nat → Nat → Int) (d5 d6 d7 : Option zV), zS (lm_rests_c94 x1 x2 h17 y3 y4 s0 M) (fun r => P (some (.inl r.1)) r.2) → zWp sc q 299 94 [some (.inr (.inr 106)), some (.inl x1), some (.inl x2), some (.inl y3), some (.inl y4), d5, d6, d7] [(.inl s0 : zV)] M P := by
  intro y3 y4 s0 M d5 d6 d7 h
  unfold lm_rests_c94 at h
  obtain ⟨d6_94, hL94⟩ : ∃ d6_94 : Option zV, zs_1 [some (.inr (.inr 106)), some (.inl x1), some (.inl x2), some (.inl y3), some (.inl y4), d5, d6, d7] 7 (.inl s0) = [some (.inr (.inr 106)), some (.inl x1), some (.inl x2), some (.inl y3), some (.inl y4), d5, d6_94, some (.inl s0)] := by rcases d6 with _ | _ | _ | _ <;> exact ⟨_, rfl⟩
  refine W_istore (pc := 94) (L' := [some (.inr (.inr 106)), some (.inl x1), some (.inl x2), some (.inl y3), some (.inl y4), d5, d6_94, some (.inl s0)]) (zDk zD_299_ok 59 rfl) zm_299 (by decide) hL94 ?_
  refine E_iload_n (pc := 96) (zDk zD_299_ok 60 rfl) rfl ?_
  refine E_iload (pc := 97) (zDk zD_299_ok 61 rfl) rfl ?_
  refine E_if (pc := 99) (t := 109) (zDk zD_299_ok 62 rfl) rfl (fun hz => ?_) (fun hz => ?_)
  · have h := zS_t h (T_eq hz)
    refine E_iconst (pc := 109) (zDk zD_299_ok 67 rfl) (by decide +kernel) ?_
    refine E_ior (pc := 110) (zDk zD_299_ok 68 rfl) ?_
    refine W_istore_n (pc := 111) (L' := [some (.inr (.inr 106)), some (.inl x1), some (.inl x2), some (.inl (zor y3 (0 : Int))), some (.inl y4), d5, d6_94, some (.inl s0)]) (zDk zD_299_ok 69 rfl) zm_299 (by decide) rfl ?_
    refine W_iinc (pc := 112) (L' := [some (.inr (.inr 106)), some (.inl x1), some (.inl x2), some (.inl (zor y3 (0 : Int))), some (.inl (w32 (y4 + 1))), d5, d6_94, some (.inl s0)]) (zDk zD_299_ok 70 rfl) rfl zm_299 (by decide) rfl ?_
    refine E_goto (pc := 115) (t := 17) (zDk zD_299_ok 71 rfl) rfl ?_
    exact H17 (zor y3 (0 : Int)) (w32 (y4 + 1)) M d5 d6_94 (some (.inl s0)) h
  · have h := zS_f h (F_eq hz)
    refine E_iconst (pc := 102) (zDk zD_299_ok 63 rfl) (by decide +kernel) ?_
    refine E_iload (pc := 103) (zDk zD_299_ok 64 rfl) rfl ?_
    refine E_ishl (pc := 105) (zDk zD_299_ok 65 rfl) ?_
    refine E_goto (pc := 106) (t := 110) (zDk zD_299_ok 66 rfl) rfl ?_
    refine E_ior (pc := 110) (zDk zD_299_ok 68 rfl) ?_
    refine W_istore_n (pc := 111) (L' := [some (.inr (.inr 106)), some (.inl x1), some (.inl x2), some (.inl (zor y3 (zshl (1 : Int) y4))), some (.inl y4), d5, d6_94, some (.inl s0)]) (zDk zD_299_ok 69 rfl) zm_299 (by decide) rfl ?_
    refine W_iinc (pc := 112) (L' := [some (.inr (.inr 106)), some (.inl x1), some (.inl x2), some (.inl (zor y3 (zshl (1 : Int) y4))), some (.inl (w32 (y4 + 1))), d5, d6_94, some (.inl s0)]) (zDk zD_299_ok 70 rfl) rfl zm_299 (by decide) rfl ?_
    refine E_goto (pc := 115) (t := 17) (zDk zD_299_ok 71 rfl) rfl ?_
    exact H17 (zor y3 (zshl (1 : Int) y4)) (w32 (y4 + 1)) M d5 d6_94 (some (.inl s0)) h
def lm_rests_c17 (x1 : Int) (x2 : Int) : Nat → Int → Int → (Nat → Nat → Int) → Option (Int × (Nat → Nat → Int))
  | 0, _, _, _ => none
  | n + 1, y3, y4, M =>
    (if y4 < (4 : Int) then
    ((lm_getsBy x1 x2 (zand y4 (1 : Int)) (zshr y4 (1 : Int)) (0 : Int) M).bind (fun r43_ =>
    ((lm_getsBy x1 x2 (w32 ((1 : Int) - (zand y4 (1 : Int)))) (zshr y4 (1 : Int)) (0 : Int) r43_.2).bind (fun r56_ =>
    (if r43_.1 < r56_.1 then
    (lm_rests_c94 x1 x2 (lm_rests_c17 x1 x2 n) y3 y4 (0 : Int) r56_.2)
    else
    ((lm_getsBy x1 x2 (zand y4 (1 : Int)) (zshr y4 (1 : Int)) (1 : Int) r56_.2).bind (fun r70_ =>
    ((lm_getsBy x1 x2 (zand y4 (1 : Int)) (w32 ((1 : Int) - (zshr y4 (1 : Int)))) (1 : Int) r70_.2).bind (fun r83_ =>
    (if r70_.1 < r83_.1 then
    (lm_rests_c94 x1 x2 (lm_rests_c17 x1 x2 n) y3 y4 (0 : Int) r83_.2)
    else
    (lm_rests_c94 x1 x2 (lm_rests_c17 x1 x2 n) y3 y4 (1 : Int) r83_.2)))))))))))
    else
    (some (y3, M)))
set_option maxRecDepth 100000 in
theorem ok_lm_rests_c17 {sc : zSc} {q : Nat} {P : Option zV → (Nat → Nat → Int) → Prop} (hq : 5 ≤ q) (x1 : Int) (x2 : Int) : ∀ (n : Nat) (y3 : Int) (y4 : Int) (M : Nat → Nat → Int) (d5 d6 d7 : Option zV), zS (lm_rests_c17 x1 x2 n y3 y4 M) (fun r => P (some (.inl r.1)) r.2) → zWp sc q 299 17 [some (.inr (.inr 106)), some (.inl x1), some (.inl x2), some (.inl y3), some (.inl y4), d5, d6, d7] [] M P := by
  intro n
  induction n with
  | zero => intro y3 y4 M d5 d6 d7 h; exact (zS_none h).elim
  | succ n ih =>
    intro y3 y4 M d5 d6 d7 h
    rw [lm_rests_c17] at h
    refine E_iload (pc := 17) (zDk zD_299_ok 11 rfl) rfl ?_
    refine E_iconst (pc := 19) (zDk zD_299_ok 12 rfl) (by decide +kernel) ?_
    refine E_icmp (pc := 20) (t := 118) (zDk zD_299_ok 13 rfl) rfl (fun hz => ?_) (fun hz => ?_)
    · have h := zS_f h (Int.not_lt.mpr (T_ge hz))
      refine E_iload_n (pc := 118) (zDk zD_299_ok 72 rfl) rfl ?_
      have h := zS_some h
      exact E_ireturn (pc := 119) (zDk zD_299_ok 73 rfl) zt_299 h
    · have h := zS_t h (F_ge hz)
      refine E_iload (pc := 23) (zDk zD_299_ok 14 rfl) rfl ?_
      refine E_iconst (pc := 25) (zDk zD_299_ok 15 rfl) (by decide +kernel) ?_
      refine E_iand (pc := 26) (zDk zD_299_ok 16 rfl) ?_
      refine W_istore (pc := 27) (L' := [some (.inr (.inr 106)), some (.inl x1), some (.inl x2), some (.inl y3), some (.inl y4), some (.inl (zand y4 (1 : Int))), d6, d7]) (zDk zD_299_ok 17 rfl) zm_299 (by decide) rfl ?_
      refine E_iload (pc := 29) (zDk zD_299_ok 18 rfl) rfl ?_
      refine E_iconst (pc := 31) (zDk zD_299_ok 19 rfl) (by decide +kernel) ?_
      refine E_ishr (pc := 32) (zDk zD_299_ok 20 rfl) ?_
      refine W_istore (pc := 33) (L' := [some (.inr (.inr 106)), some (.inl x1), some (.inl x2), some (.inl y3), some (.inl y4), some (.inl (zand y4 (1 : Int))), some (.inl (zshr y4 (1 : Int))), d7]) (zDk zD_299_ok 21 rfl) zm_299 (by decide) rfl ?_
      refine E_aload_n (pc := 35) (zDk zD_299_ok 22 rfl) rfl ?_
      refine E_iload_n (pc := 36) (zDk zD_299_ok 23 rfl) rfl ?_
      refine E_iload_n (pc := 37) (zDk zD_299_ok 24 rfl) rfl ?_
      refine E_iload (pc := 38) (zDk zD_299_ok 25 rfl) rfl ?_
      refine E_iload (pc := 40) (zDk zD_299_ok 26 rfl) rfl ?_
      refine E_iconst (pc := 42) (zDk zD_299_ok 27 rfl) (by decide +kernel) ?_
      obtain ⟨r43_, e43, h⟩ := zS_bind h
      refine E_virI (pc := 43) (c := 298) (r := 106) (as := [.inl x1, .inl x2, .inl (zand y4 (1 : Int)), .inl (zshr y4 (1 : Int)), .inl (0 : Int)]) (rest := []) (zDk zD_299_ok 28 rfl) zc_299 (by decide +kernel) zk_298 ⟨(Nat.le_of_ble_eq_true rfl), rfl, rfl⟩ (Nat.le_of_ble_eq_true rfl) (zr_298 _) (Nat.lt_of_lt_of_le (by decide) hq) (by rw [zm_298]; exact (Nat.le_of_ble_eq_true rfl)) ⟨zc_298, by decide⟩ zis_8_106 (ok_lm_getsBy ⟨r43_, e43, ?_⟩)
      refine E_aload_n (pc := 46) (zDk zD_299_ok 29 rfl) rfl ?_
      refine E_iload_n (pc := 47) (zDk zD_299_ok 30 rfl) rfl ?_
      refine E_iload_n (pc := 48) (zDk zD_299_ok 31 rfl) rfl ?_
      refine E_iconst (pc := 49) (zDk zD_299_ok 32 rfl) (by decide +kernel) ?_
      refine E_iload (pc := 50) (zDk zD_299_ok 33 rfl) rfl ?_
      refine W_isub (pc := 52) (zDk zD_299_ok 34 rfl) ?_
      refine E_iload (pc := 53) (zDk zD_299_ok 35 rfl) rfl ?_
      refine E_iconst (pc := 55) (zDk zD_299_ok 36 rfl) (by decide +kernel) ?_
      obtain ⟨r56_, e56, h⟩ := zS_bind h
      refine E_virI (pc := 56) (c := 298) (r := 106) (as := [.inl x1, .inl x2, .inl (w32 ((1 : Int) - (zand y4 (1 : Int)))), .inl (zshr y4 (1 : Int)), .inl (0 : Int)]) (rest := [.inl r43_.1]) (zDk zD_299_ok 37 rfl) zc_299 (by decide +kernel) zk_298 ⟨(Nat.le_of_ble_eq_true rfl), rfl, rfl⟩ (Nat.le_of_ble_eq_true rfl) (zr_298 _) (Nat.lt_of_lt_of_le (by decide) hq) (by rw [zm_298]; exact (Nat.le_of_ble_eq_true rfl)) ⟨zc_298, by decide⟩ zis_8_106 (ok_lm_getsBy ⟨r56_, e56, ?_⟩)
      refine E_icmp (pc := 59) (t := 93) (zDk zD_299_ok 38 rfl) rfl (fun hz => ?_) (fun hz => ?_)
      · have h := zS_t h (T_lt hz)
        refine E_iconst (pc := 93) (zDk zD_299_ok 58 rfl) (by decide +kernel) ?_
        exact ok_lm_rests_c94 hq x1 x2 (lm_rests_c17 x1 x2 n) (ih) y3 y4 (0 : Int) r56_.2 (some (.inl (zand y4 (1 : Int)))) (some (.inl (zshr y4 (1 : Int)))) d7 h
      · have h := zS_f h (Int.not_lt.mpr (F_lt hz))
        refine E_aload_n (pc := 62) (zDk zD_299_ok 39 rfl) rfl ?_
        refine E_iload_n (pc := 63) (zDk zD_299_ok 40 rfl) rfl ?_
        refine E_iload_n (pc := 64) (zDk zD_299_ok 41 rfl) rfl ?_
        refine E_iload (pc := 65) (zDk zD_299_ok 42 rfl) rfl ?_
        refine E_iload (pc := 67) (zDk zD_299_ok 43 rfl) rfl ?_
        refine E_iconst (pc := 69) (zDk zD_299_ok 44 rfl) (by decide +kernel) ?_
        obtain ⟨r70_, e70, h⟩ := zS_bind h
        refine E_virI (pc := 70) (c := 298) (r := 106) (as := [.inl x1, .inl x2, .inl (zand y4 (1 : Int)), .inl (zshr y4 (1 : Int)), .inl (1 : Int)]) (rest := []) (zDk zD_299_ok 45 rfl) zc_299 (by decide +kernel) zk_298 ⟨(Nat.le_of_ble_eq_true rfl), rfl, rfl⟩ (Nat.le_of_ble_eq_true rfl) (zr_298 _) (Nat.lt_of_lt_of_le (by decide) hq) (by rw [zm_298]; exact (Nat.le_of_ble_eq_true rfl)) ⟨zc_298, by decide⟩ zis_8_106 (ok_lm_getsBy ⟨r70_, e70, ?_⟩)
        refine E_aload_n (pc := 73) (zDk zD_299_ok 46 rfl) rfl ?_
        refine E_iload_n (pc := 74) (zDk zD_299_ok 47 rfl) rfl ?_
        refine E_iload_n (pc := 75) (zDk zD_299_ok 48 rfl) rfl ?_
        refine E_iload (pc := 76) (zDk zD_299_ok 49 rfl) rfl ?_
        refine E_iconst (pc := 78) (zDk zD_299_ok 50 rfl) (by decide +kernel) ?_
        refine E_iload (pc := 79) (zDk zD_299_ok 51 rfl) rfl ?_
        refine W_isub (pc := 81) (zDk zD_299_ok 52 rfl) ?_
        refine E_iconst (pc := 82) (zDk zD_299_ok 53 rfl) (by decide +kernel) ?_
        obtain ⟨r83_, e83, h⟩ := zS_bind h
        refine E_virI (pc := 83) (c := 298) (r := 106) (as := [.inl x1, .inl x2, .inl (zand y4 (1 : Int)), .inl (w32 ((1 : Int) - (zshr y4 (1 : Int)))), .inl (1 : Int)]) (rest := [.inl r70_.1]) (zDk zD_299_ok 54 rfl) zc_299 (by decide +kernel) zk_298 ⟨(Nat.le_of_ble_eq_true rfl), rfl, rfl⟩ (Nat.le_of_ble_eq_true rfl) (zr_298 _) (Nat.lt_of_lt_of_le (by decide) hq) (by rw [zm_298]; exact (Nat.le_of_ble_eq_true rfl)) ⟨zc_298, by decide⟩ zis_8_106 (ok_lm_getsBy ⟨r83_, e83, ?_⟩)
        refine E_icmp (pc := 86) (t := 93) (zDk zD_299_ok 55 rfl) rfl (fun hz => ?_) (fun hz => ?_)
        · have h := zS_t h (T_lt hz)
          refine E_iconst (pc := 93) (zDk zD_299_ok 58 rfl) (by decide +kernel) ?_
          exact ok_lm_rests_c94 hq x1 x2 (lm_rests_c17 x1 x2 n) (ih) y3 y4 (0 : Int) r83_.2 (some (.inl (zand y4 (1 : Int)))) (some (.inl (zshr y4 (1 : Int)))) d7 h
        · have h := zS_f h (Int.not_lt.mpr (F_lt hz))
          refine E_iconst (pc := 89) (zDk zD_299_ok 56 rfl) (by decide +kernel) ?_
          refine E_goto (pc := 90) (t := 94) (zDk zD_299_ok 57 rfl) rfl ?_
          exact ok_lm_rests_c94 hq x1 x2 (lm_rests_c17 x1 x2 n) (ih) y3 y4 (1 : Int) r83_.2 (some (.inl (zand y4 (1 : Int)))) (some (.inl (zshr y4 (1 : Int)))) d7 h
def lm_rests (x1 : Int) (x2 : Int) (M : Nat → Nat → Int) : Option (Int × (Nat → Nat → Int)) :=
    ((lm_areTwo x1 x2 M).bind (fun v3 =>
    (if v3 = 0 then
    (some ((-2 : Int), M))
    else
    (lm_rests_c17 x1 x2 zN (0 : Int) (0 : Int) M))))
set_option maxRecDepth 100000 in
theorem ok_lm_rests {sc : zSc} {x1 : Int} {x2 : Int} {M : Nat → Nat → Int} {P : Int → (Nat → Nat → Int) → Prop} (h : zS (lm_rests x1 x2 M) (fun r => P r.1 r.2)) : zCi sc 299 [.inr (.inr 106), .inl x1, .inl x2] M P := by
  have ea : zarg (zml 299) [.inr (.inr 106), .inl x1, .inl x2] = [some (.inr (.inr 106)), some (.inl x1), some (.inl x2), none, none, none, none, none] := by rw [zm_299]; rfl
  unfold zCi zCw
  rw [ea, zr_299]
  have hq : 5 ≤ 5 := Nat.le_refl _
  unfold lm_rests at h
  have h := zS_mono h (fun x hx => (⟨x.1, rfl, hx⟩ : ∃ y, (some (.inl x.1) : Option zV) = some (.inl y) ∧ P y x.2))
  skip
  refine E_aload_n (pc := 0) (zDk zD_299_ok 0 rfl) rfl ?_
  refine E_iload_n (pc := 1) (zDk zD_299_ok 1 rfl) rfl ?_
  refine E_iload_n (pc := 2) (zDk zD_299_ok 2 rfl) rfl ?_
  obtain ⟨v3, e3, h⟩ := zS_bind h
  refine E_virI (pc := 3) (c := 272) (r := 106) (as := [.inl x1, .inl x2]) (rest := []) (zDk zD_299_ok 3 rfl) zc_299 (by decide +kernel) zk_272 ⟨(Nat.le_of_ble_eq_true rfl), rfl, rfl⟩ (Nat.le_of_ble_eq_true rfl) (zr_272 _) (Nat.lt_of_lt_of_le (by decide) hq) (by rw [zm_272]; exact (Nat.le_of_ble_eq_true rfl)) ⟨zc_272, by decide⟩ zis_8_106 (ok_lm_areTwo ⟨v3, e3, ?_⟩)
  refine E_if (pc := 6) (t := 12) (zDk zD_299_ok 4 rfl) rfl (fun hz => ?_) (fun hz => ?_)
  · have h := zS_f h (T_ne hz)
    refine E_iconst (pc := 12) (zDk zD_299_ok 7 rfl) (by decide +kernel) ?_
    refine W_istore_n (pc := 13) (L' := [some (.inr (.inr 106)), some (.inl x1), some (.inl x2), some (.inl (0 : Int)), none, none, none, none]) (zDk zD_299_ok 8 rfl) zm_299 (by decide) rfl ?_
    refine E_iconst (pc := 14) (zDk zD_299_ok 9 rfl) (by decide +kernel) ?_
    refine W_istore (pc := 15) (L' := [some (.inr (.inr 106)), some (.inl x1), some (.inl x2), some (.inl (0 : Int)), some (.inl (0 : Int)), none, none, none]) (zDk zD_299_ok 10 rfl) zm_299 (by decide) rfl ?_
    exact ok_lm_rests_c17 hq x1 x2 zN (0 : Int) (0 : Int) M none none none h
  · have h := zS_t h (F_ne hz)
    refine E_bipush (pc := 9) (zDk zD_299_ok 5 rfl) (by decide +kernel) ?_
    have h := zS_some h
    exact E_ireturn (pc := 11) (zDk zD_299_ok 6 rfl) zt_299 h
def zD_300 : List (Nat × Instr × Nat) := [(0, .aload_n (0), 1), (1, .iload_n (1), 1), (2, .iload_n (2), 1), (3, .invokevirtual (360), 3), (6, .ifCond .eq (37), 3), (9, .iload_n (3), 1), (10, .i2l, 1), (11, .lconst (0), 1), (12, .lconst (1), 1), (13, .invokestatic (91), 3), (16, .ifCond .eq (27), 3), (19, .iload (4), 2), (21, .i2l, 1), (22, .lconst (0), 1), (23, .lconst (1), 1), (24, .invokestatic (91), 3), (27, .ifCond .eq (16), 3), (30, .aload_n (0), 1), (31, .iload_n (1), 1), (32, .iload_n (2), 1), (33, .iload_n (3), 1), (34, .iload (4), 2), (36, .iconst (0), 1), (37, .invokevirtual (419), 3), (40, .goto (6), 3), (43, .sipush (-1000), 3), (46, .ireturn, 1)]
set_option maxRecDepth 100000 in
theorem zD_300_ok : zDo 300 zD_300 = true := by decide +kernel
theorem zc_300 : zcls 300 = 8 := by decide +kernel
theorem zm_300 : zml 300 = 5 := by decide +kernel
theorem zt_300 : zrt 300 = (some (.int)) := by decide +kernel
theorem zk_300 : zkd 300 = 1 ∧ znp 300 + 1 = 5 := by decide +kernel
theorem zr_300 (as : List zV) : zrk 300 as = 5 := by unfold zrk; rw [if_neg (by decide)]; decide +kernel
def lm_gets (x1 : Int) (x2 : Int) (x3 : Int) (x4 : Int) (M : Nat → Nat → Int) : Option (Int × (Nat → Nat → Int)) :=
    ((lm_areTwo x1 x2 M).bind (fun v3 =>
    (if v3 = 0 then
    (some ((-1000 : Int), M))
    else
    ((lm_in x3 (0 : Int) (1 : Int) M).bind (fun v13 =>
    (if v13 = 0 then
    (some ((-1000 : Int), M))
    else
    ((lm_in x4 (0 : Int) (1 : Int) M).bind (fun v24 =>
    (if v24 = 0 then
    (some ((-1000 : Int), M))
    else
    ((lm_getsBy x1 x2 x3 x4 (0 : Int) M).bind (fun r37_ =>
    (some (r37_.1, r37_.2)))))))))))))
set_option maxRecDepth 100000 in
theorem ok_lm_gets {sc : zSc} {x1 : Int} {x2 : Int} {x3 : Int} {x4 : Int} {M : Nat → Nat → Int} {P : Int → (Nat → Nat → Int) → Prop} (h : zS (lm_gets x1 x2 x3 x4 M) (fun r => P r.1 r.2)) : zCi sc 300 [.inr (.inr 106), .inl x1, .inl x2, .inl x3, .inl x4] M P := by
  have ea : zarg (zml 300) [.inr (.inr 106), .inl x1, .inl x2, .inl x3, .inl x4] = [some (.inr (.inr 106)), some (.inl x1), some (.inl x2), some (.inl x3), some (.inl x4)] := by rw [zm_300]; rfl
  unfold zCi zCw
  rw [ea, zr_300]
  have hq : 5 ≤ 5 := Nat.le_refl _
  unfold lm_gets at h
  have h := zS_mono h (fun x hx => (⟨x.1, rfl, hx⟩ : ∃ y, (some (.inl x.1) : Option zV) = some (.inl y) ∧ P y x.2))
  skip
  refine E_aload_n (pc := 0) (zDk zD_300_ok 0 rfl) rfl ?_
  refine E_iload_n (pc := 1) (zDk zD_300_ok 1 rfl) rfl ?_
  refine E_iload_n (pc := 2) (zDk zD_300_ok 2 rfl) rfl ?_
  obtain ⟨v3, e3, h⟩ := zS_bind h
  refine E_virI (pc := 3) (c := 272) (r := 106) (as := [.inl x1, .inl x2]) (rest := []) (zDk zD_300_ok 3 rfl) zc_300 (by decide +kernel) zk_272 ⟨(Nat.le_of_ble_eq_true rfl), rfl, rfl⟩ (Nat.le_of_ble_eq_true rfl) (zr_272 _) (Nat.lt_of_lt_of_le (by decide) hq) (by rw [zm_272]; exact (Nat.le_of_ble_eq_true rfl)) ⟨zc_272, by decide⟩ zis_8_106 (ok_lm_areTwo ⟨v3, e3, ?_⟩)
  refine E_if (pc := 6) (t := 43) (zDk zD_300_ok 4 rfl) rfl (fun hz => ?_) (fun hz => ?_)
  · have h := zS_t h (T_eq hz)
    refine E_sipush (pc := 43) (zDk zD_300_ok 25 rfl) (by decide +kernel) ?_
    have h := zS_some h
    exact E_ireturn (pc := 46) (zDk zD_300_ok 26 rfl) zt_300 h
  · have h := zS_f h (F_eq hz)
    refine E_iload_n (pc := 9) (zDk zD_300_ok 5 rfl) rfl ?_
    refine E_i2l (pc := 10) (zDk zD_300_ok 6 rfl) ?_
    refine E_lconst (pc := 11) (v := 0) (zDk zD_300_ok 7 rfl) (by decide +kernel) ?_
    refine E_lconst (pc := 12) (v := 1) (zDk zD_300_ok 8 rfl) (by decide +kernel) ?_
    obtain ⟨v13, e13, h⟩ := zS_bind h
    refine E_staI (pc := 13) (c := 176) (as := [.inr (.inl x3), .inr (.inl (0 : Int)), .inr (.inl (1 : Int))]) (rest := []) (zDk zD_300_ok 9 rfl) zc_300 (by decide +kernel) (by decide +kernel) zk_176 ⟨(Nat.le_of_ble_eq_true rfl), rfl, rfl⟩ (Nat.le_of_ble_eq_true rfl) (zr_176 _) (Nat.lt_of_lt_of_le (by decide) hq) (by rw [zm_176]; exact (Nat.le_of_ble_eq_true rfl)) (ok_lm_in ⟨v13, e13, ?_⟩)
    refine E_if (pc := 16) (t := 43) (zDk zD_300_ok 10 rfl) rfl (fun hz => ?_) (fun hz => ?_)
    · have h := zS_t h (T_eq hz)
      refine E_sipush (pc := 43) (zDk zD_300_ok 25 rfl) (by decide +kernel) ?_
      have h := zS_some h
      exact E_ireturn (pc := 46) (zDk zD_300_ok 26 rfl) zt_300 h
    · have h := zS_f h (F_eq hz)
      refine E_iload (pc := 19) (zDk zD_300_ok 11 rfl) rfl ?_
      refine E_i2l (pc := 21) (zDk zD_300_ok 12 rfl) ?_
      refine E_lconst (pc := 22) (v := 0) (zDk zD_300_ok 13 rfl) (by decide +kernel) ?_
      refine E_lconst (pc := 23) (v := 1) (zDk zD_300_ok 14 rfl) (by decide +kernel) ?_
      obtain ⟨v24, e24, h⟩ := zS_bind h
      refine E_staI (pc := 24) (c := 176) (as := [.inr (.inl x4), .inr (.inl (0 : Int)), .inr (.inl (1 : Int))]) (rest := []) (zDk zD_300_ok 15 rfl) zc_300 (by decide +kernel) (by decide +kernel) zk_176 ⟨(Nat.le_of_ble_eq_true rfl), rfl, rfl⟩ (Nat.le_of_ble_eq_true rfl) (zr_176 _) (Nat.lt_of_lt_of_le (by decide) hq) (by rw [zm_176]; exact (Nat.le_of_ble_eq_true rfl)) (ok_lm_in ⟨v24, e24, ?_⟩)
      refine E_if (pc := 27) (t := 43) (zDk zD_300_ok 16 rfl) rfl (fun hz => ?_) (fun hz => ?_)
      · have h := zS_t h (T_eq hz)
        refine E_sipush (pc := 43) (zDk zD_300_ok 25 rfl) (by decide +kernel) ?_
        have h := zS_some h
        exact E_ireturn (pc := 46) (zDk zD_300_ok 26 rfl) zt_300 h
      · have h := zS_f h (F_eq hz)
        refine E_aload_n (pc := 30) (zDk zD_300_ok 17 rfl) rfl ?_
        refine E_iload_n (pc := 31) (zDk zD_300_ok 18 rfl) rfl ?_
        refine E_iload_n (pc := 32) (zDk zD_300_ok 19 rfl) rfl ?_
        refine E_iload_n (pc := 33) (zDk zD_300_ok 20 rfl) rfl ?_
        refine E_iload (pc := 34) (zDk zD_300_ok 21 rfl) rfl ?_
        refine E_iconst (pc := 36) (zDk zD_300_ok 22 rfl) (by decide +kernel) ?_
        obtain ⟨r37_, e37, h⟩ := zS_bind h
        refine E_virI (pc := 37) (c := 298) (r := 106) (as := [.inl x1, .inl x2, .inl x3, .inl x4, .inl (0 : Int)]) (rest := []) (zDk zD_300_ok 23 rfl) zc_300 (by decide +kernel) zk_298 ⟨(Nat.le_of_ble_eq_true rfl), rfl, rfl⟩ (Nat.le_of_ble_eq_true rfl) (zr_298 _) (Nat.lt_of_lt_of_le (by decide) hq) (by rw [zm_298]; exact (Nat.le_of_ble_eq_true rfl)) ⟨zc_298, by decide⟩ zis_8_106 (ok_lm_getsBy ⟨r37_, e37, ?_⟩)
        refine E_goto (pc := 40) (t := 46) (zDk zD_300_ok 24 rfl) rfl ?_
        have h := zS_some h
        exact E_ireturn (pc := 46) (zDk zD_300_ok 26 rfl) zt_300 h
def zD_303 : List (Nat × Instr × Nat) := [(0, .aload_n (0), 1), (1, .iload_n (1), 1), (2, .invokevirtual (270), 3), (5, .ifCond .eq (12), 3), (8, .aload_n (0), 1), (9, .iload_n (2), 1), (10, .iload_n (3), 1), (11, .invokevirtual (438), 3), (14, .ifCond .ne (7), 3), (17, .ldc2_w (441), 3), (20, .lreturn, 1), (21, .aload_n (0), 1), (22, .iload_n (1), 1), (23, .iload_n (2), 1), (24, .invokevirtual (443), 3), (27, .aload_n (0), 1), (28, .getfield (427), 3), (31, .aload_n (0), 1), (32, .getfield (423), 3), (35, .iload_n (3), 1), (36, .invokestatic (415), 3), (39, .lreturn, 1)]
set_option maxRecDepth 100000 in
theorem zD_303_ok : zDo 303 zD_303 = true := by decide +kernel
theorem zc_303 : zcls 303 = 8 := by decide +kernel
theorem zm_303 : zml 303 = 4 := by decide +kernel
theorem zt_303 : zrt 303 = (some (.long)) := by decide +kernel
theorem zk_303 : zkd 303 = 1 ∧ znp 303 + 1 = 4 := by decide +kernel
theorem zr_303 (as : List zV) : zrk 303 as = 5 := by unfold zrk; rw [if_neg (by decide)]; decide +kernel
def lm_chance (x1 : Int) (x2 : Int) (x3 : Int) (M : Nat → Nat → Int) : Option (Int × (Nat → Nat → Int)) :=
    ((lm_isContract x1 M).bind (fun v2 =>
    (if v2 = 0 then
    (some ((-2 : Int), M))
    else
    ((lm_isRain x2 x3 M).bind (fun v11 =>
    (if v11 = 0 then
    (some ((-2 : Int), M))
    else
    ((lm_layRain x1 x2 M).bind (fun M24 =>
    ((lm_part (M24 106 34) (M24 106 33) x3 M24).bind (fun v36 =>
    (some (v36, M24))))))))))))
set_option maxRecDepth 100000 in
theorem ok_lm_chance {sc : zSc} {x1 : Int} {x2 : Int} {x3 : Int} {M : Nat → Nat → Int} {P : Int → (Nat → Nat → Int) → Prop} (h : zS (lm_chance x1 x2 x3 M) (fun r => P r.1 r.2)) : zCl sc 303 [.inr (.inr 106), .inl x1, .inl x2, .inl x3] M P := by
  have ea : zarg (zml 303) [.inr (.inr 106), .inl x1, .inl x2, .inl x3] = [some (.inr (.inr 106)), some (.inl x1), some (.inl x2), some (.inl x3)] := by rw [zm_303]; rfl
  unfold zCl zCw
  rw [ea, zr_303]
  have hq : 5 ≤ 5 := Nat.le_refl _
  unfold lm_chance at h
  have h := zS_mono h (fun x hx => (⟨x.1, rfl, hx⟩ : ∃ y, (some (.inr (.inl x.1)) : Option zV) = some (.inr (.inl y)) ∧ P y x.2))
  skip
  refine E_aload_n (pc := 0) (zDk zD_303_ok 0 rfl) rfl ?_
  refine E_iload_n (pc := 1) (zDk zD_303_ok 1 rfl) rfl ?_
  obtain ⟨v2, e2, h⟩ := zS_bind h
  refine E_virI (pc := 2) (c := 187) (r := 106) (as := [.inl x1]) (rest := []) (zDk zD_303_ok 2 rfl) zc_303 (by decide +kernel) zk_187 ⟨(Nat.le_of_ble_eq_true rfl), rfl, rfl⟩ (Nat.le_of_ble_eq_true rfl) (zr_187 _) (Nat.lt_of_lt_of_le (by decide) hq) (by rw [zm_187]; exact (Nat.le_of_ble_eq_true rfl)) ⟨zc_187, by decide⟩ zis_8_106 (ok_lm_isContract ⟨v2, e2, ?_⟩)
  refine E_if (pc := 5) (t := 17) (zDk zD_303_ok 3 rfl) rfl (fun hz => ?_) (fun hz => ?_)
  · have h := zS_t h (T_eq hz)
    refine E_ldc2_w (pc := 17) (v := .inr (.inl (-2 : Int))) (zDk zD_303_ok 9 rfl) zc_303 (by decide +kernel) ?_
    have h := zS_some h
    exact E_lreturn (pc := 20) (zDk zD_303_ok 10 rfl) zt_303 h
  · have h := zS_f h (F_eq hz)
    refine E_aload_n (pc := 8) (zDk zD_303_ok 4 rfl) rfl ?_
    refine E_iload_n (pc := 9) (zDk zD_303_ok 5 rfl) rfl ?_
    refine E_iload_n (pc := 10) (zDk zD_303_ok 6 rfl) rfl ?_
    obtain ⟨v11, e11, h⟩ := zS_bind h
    refine E_virI (pc := 11) (c := 302) (r := 106) (as := [.inl x2, .inl x3]) (rest := []) (zDk zD_303_ok 7 rfl) zc_303 (by decide +kernel) zk_302 ⟨(Nat.le_of_ble_eq_true rfl), rfl, rfl⟩ (Nat.le_of_ble_eq_true rfl) (zr_302 _) (Nat.lt_of_lt_of_le (by decide) hq) (by rw [zm_302]; exact (Nat.le_of_ble_eq_true rfl)) ⟨zc_302, by decide⟩ zis_8_106 (ok_lm_isRain ⟨v11, e11, ?_⟩)
    refine E_if (pc := 14) (t := 21) (zDk zD_303_ok 8 rfl) rfl (fun hz => ?_) (fun hz => ?_)
    · have h := zS_f h (T_ne hz)
      refine E_aload_n (pc := 21) (zDk zD_303_ok 11 rfl) rfl ?_
      refine E_iload_n (pc := 22) (zDk zD_303_ok 12 rfl) rfl ?_
      refine E_iload_n (pc := 23) (zDk zD_303_ok 13 rfl) rfl ?_
      obtain ⟨M24, e24, h⟩ := zS_bind h
      refine E_virV (pc := 24) (c := 301) (r := 106) (as := [.inl x1, .inl x2]) (rest := []) (zDk zD_303_ok 14 rfl) zc_303 (by decide +kernel) zk_301 ⟨(Nat.le_of_ble_eq_true rfl), rfl, rfl⟩ (Nat.le_of_ble_eq_true rfl) (zr_301 _) (Nat.lt_of_lt_of_le (by decide) hq) (by rw [zm_301]; exact (Nat.le_of_ble_eq_true rfl)) ⟨zc_301, by decide⟩ zis_8_106 (ok_lm_layRain ⟨M24, e24, ?_⟩)
      refine E_aload_n (pc := 27) (zDk zD_303_ok 15 rfl) rfl ?_
      refine E_getL (pc := 28) (ci := 8) (f := 34) (zDk zD_303_ok 16 rfl) zc_303 (by decide +kernel) (by decide) zis_8_106 ?_
      refine E_aload_n (pc := 31) (zDk zD_303_ok 17 rfl) rfl ?_
      refine E_getL (pc := 32) (ci := 8) (f := 33) (zDk zD_303_ok 18 rfl) zc_303 (by decide +kernel) (by decide) zis_8_106 ?_
      refine E_iload_n (pc := 35) (zDk zD_303_ok 19 rfl) rfl ?_
      obtain ⟨v36, e36, h⟩ := zS_bind h
      refine E_staL (pc := 36) (c := 296) (as := [.inr (.inl (M24 106 34)), .inr (.inl (M24 106 33)), .inl x3]) (rest := []) (zDk zD_303_ok 20 rfl) zc_303 (by decide +kernel) (by decide +kernel) zk_296 ⟨(Nat.le_of_ble_eq_true rfl), rfl, rfl⟩ (Nat.le_of_ble_eq_true rfl) (zr_296 _) (Nat.lt_of_lt_of_le (by decide) hq) (by rw [zm_296]; exact (Nat.le_of_ble_eq_true rfl)) (ok_lm_part ⟨v36, e36, ?_⟩)
      have h := zS_some h
      exact E_lreturn (pc := 39) (zDk zD_303_ok 21 rfl) zt_303 h
    · have h := zS_t h (F_ne hz)
      refine E_ldc2_w (pc := 17) (v := .inr (.inl (-2 : Int))) (zDk zD_303_ok 9 rfl) zc_303 (by decide +kernel) ?_
      have h := zS_some h
      exact E_lreturn (pc := 20) (zDk zD_303_ok 10 rfl) zt_303 h
def zD_304 : List (Nat × Instr × Nat) := [(0, .aload_n (0), 1), (1, .iload_n (1), 1), (2, .iload_n (2), 1), (3, .invokevirtual (438), 3), (6, .ifCond .ne (7), 3), (9, .ldc2_w (441), 3), (12, .lreturn, 1), (13, .aload_n (0), 1), (14, .iconst (0), 1), (15, .iload_n (1), 1), (16, .invokevirtual (443), 3), (19, .aload_n (0), 1), (20, .getfield (430), 3), (23, .aload_n (0), 1), (24, .getfield (423), 3), (27, .iload_n (2), 1), (28, .invokestatic (415), 3), (31, .lreturn, 1)]
set_option maxRecDepth 100000 in
theorem zD_304_ok : zDo 304 zD_304 = true := by decide +kernel
theorem zc_304 : zcls 304 = 8 := by decide +kernel
theorem zm_304 : zml 304 = 3 := by decide +kernel
theorem zt_304 : zrt 304 = (some (.long)) := by decide +kernel
theorem zk_304 : zkd 304 = 1 ∧ znp 304 + 1 = 3 := by decide +kernel
theorem zr_304 (as : List zV) : zrk 304 as = 5 := by unfold zrk; rw [if_neg (by decide)]; decide +kernel
def lm_mean (x1 : Int) (x2 : Int) (M : Nat → Nat → Int) : Option (Int × (Nat → Nat → Int)) :=
    ((lm_isRain x1 x2 M).bind (fun v3 =>
    (if v3 = 0 then
    (some ((-2 : Int), M))
    else
    ((lm_layRain (0 : Int) x1 M).bind (fun M16 =>
    ((lm_part (M16 106 35) (M16 106 33) x2 M16).bind (fun v28 =>
    (some (v28, M16)))))))))
set_option maxRecDepth 100000 in
theorem ok_lm_mean {sc : zSc} {x1 : Int} {x2 : Int} {M : Nat → Nat → Int} {P : Int → (Nat → Nat → Int) → Prop} (h : zS (lm_mean x1 x2 M) (fun r => P r.1 r.2)) : zCl sc 304 [.inr (.inr 106), .inl x1, .inl x2] M P := by
  have ea : zarg (zml 304) [.inr (.inr 106), .inl x1, .inl x2] = [some (.inr (.inr 106)), some (.inl x1), some (.inl x2)] := by rw [zm_304]; rfl
  unfold zCl zCw
  rw [ea, zr_304]
  have hq : 5 ≤ 5 := Nat.le_refl _
  unfold lm_mean at h
  have h := zS_mono h (fun x hx => (⟨x.1, rfl, hx⟩ : ∃ y, (some (.inr (.inl x.1)) : Option zV) = some (.inr (.inl y)) ∧ P y x.2))
  skip
  refine E_aload_n (pc := 0) (zDk zD_304_ok 0 rfl) rfl ?_
  refine E_iload_n (pc := 1) (zDk zD_304_ok 1 rfl) rfl ?_
  refine E_iload_n (pc := 2) (zDk zD_304_ok 2 rfl) rfl ?_
  obtain ⟨v3, e3, h⟩ := zS_bind h
  refine E_virI (pc := 3) (c := 302) (r := 106) (as := [.inl x1, .inl x2]) (rest := []) (zDk zD_304_ok 3 rfl) zc_304 (by decide +kernel) zk_302 ⟨(Nat.le_of_ble_eq_true rfl), rfl, rfl⟩ (Nat.le_of_ble_eq_true rfl) (zr_302 _) (Nat.lt_of_lt_of_le (by decide) hq) (by rw [zm_302]; exact (Nat.le_of_ble_eq_true rfl)) ⟨zc_302, by decide⟩ zis_8_106 (ok_lm_isRain ⟨v3, e3, ?_⟩)
  refine E_if (pc := 6) (t := 13) (zDk zD_304_ok 4 rfl) rfl (fun hz => ?_) (fun hz => ?_)
  · have h := zS_f h (T_ne hz)
    refine E_aload_n (pc := 13) (zDk zD_304_ok 7 rfl) rfl ?_
    refine E_iconst (pc := 14) (zDk zD_304_ok 8 rfl) (by decide +kernel) ?_
    refine E_iload_n (pc := 15) (zDk zD_304_ok 9 rfl) rfl ?_
    obtain ⟨M16, e16, h⟩ := zS_bind h
    refine E_virV (pc := 16) (c := 301) (r := 106) (as := [.inl (0 : Int), .inl x1]) (rest := []) (zDk zD_304_ok 10 rfl) zc_304 (by decide +kernel) zk_301 ⟨(Nat.le_of_ble_eq_true rfl), rfl, rfl⟩ (Nat.le_of_ble_eq_true rfl) (zr_301 _) (Nat.lt_of_lt_of_le (by decide) hq) (by rw [zm_301]; exact (Nat.le_of_ble_eq_true rfl)) ⟨zc_301, by decide⟩ zis_8_106 (ok_lm_layRain ⟨M16, e16, ?_⟩)
    refine E_aload_n (pc := 19) (zDk zD_304_ok 11 rfl) rfl ?_
    refine E_getL (pc := 20) (ci := 8) (f := 35) (zDk zD_304_ok 12 rfl) zc_304 (by decide +kernel) (by decide) zis_8_106 ?_
    refine E_aload_n (pc := 23) (zDk zD_304_ok 13 rfl) rfl ?_
    refine E_getL (pc := 24) (ci := 8) (f := 33) (zDk zD_304_ok 14 rfl) zc_304 (by decide +kernel) (by decide) zis_8_106 ?_
    refine E_iload_n (pc := 27) (zDk zD_304_ok 15 rfl) rfl ?_
    obtain ⟨v28, e28, h⟩ := zS_bind h
    refine E_staL (pc := 28) (c := 296) (as := [.inr (.inl (M16 106 35)), .inr (.inl (M16 106 33)), .inl x2]) (rest := []) (zDk zD_304_ok 16 rfl) zc_304 (by decide +kernel) (by decide +kernel) zk_296 ⟨(Nat.le_of_ble_eq_true rfl), rfl, rfl⟩ (Nat.le_of_ble_eq_true rfl) (zr_296 _) (Nat.lt_of_lt_of_le (by decide) hq) (by rw [zm_296]; exact (Nat.le_of_ble_eq_true rfl)) (ok_lm_part ⟨v28, e28, ?_⟩)
    have h := zS_some h
    exact E_lreturn (pc := 31) (zDk zD_304_ok 17 rfl) zt_304 h
  · have h := zS_t h (F_ne hz)
    refine E_ldc2_w (pc := 9) (v := .inr (.inl (-2 : Int))) (zDk zD_304_ok 5 rfl) zc_304 (by decide +kernel) ?_
    have h := zS_some h
    exact E_lreturn (pc := 12) (zDk zD_304_ok 6 rfl) zt_304 h
def zD_306 : List (Nat × Instr × Nat) := [(0, .aload_n (0), 1), (1, .iload_n (1), 1), (2, .invokevirtual (265), 3), (5, .ifCond .eq (20), 3), (8, .aload_n (0), 1), (9, .iload_n (2), 1), (10, .i2l, 1), (11, .invokevirtual (261), 3), (14, .ifCond .eq (11), 3), (17, .aload_n (0), 1), (18, .iload_n (3), 1), (19, .invokevirtual (433), 3), (22, .ifCond .ne (6), 3), (25, .bipush (-2), 2), (27, .ireturn, 1), (28, .aload_n (0), 1), (29, .sipush (10000), 3), (32, .iload_n (1), 1), (33, .iconst (1), 1), (34, .iadd, 1), (35, .imul, 1), (36, .bipush (100), 2), (38, .iload_n (2), 1), (39, .imul, 1), (40, .iadd, 1), (41, .iload_n (3), 1), (42, .iadd, 1), (43, .invokevirtual (447), 3), (46, .ifCond .ge (6), 3), (49, .bipush (-5), 2), (51, .ireturn, 1), (52, .aload_n (0), 1), (53, .invokevirtual (308), 3), (56, .pop, 1), (57, .aload_n (0), 1), (58, .iload_n (1), 1), (59, .aload_n (0), 1), (60, .invokevirtual (99), 3), (63, .invokevirtual (276), 3), (66, .ireturn, 1)]
set_option maxRecDepth 100000 in
theorem zD_306_ok : zDo 306 zD_306 = true := by decide +kernel
theorem zc_306 : zcls 306 = 8 := by decide +kernel
theorem zm_306 : zml 306 = 4 := by decide +kernel
theorem zt_306 : zrt 306 = (some (.int)) := by decide +kernel
theorem zk_306 : zkd 306 = 1 ∧ znp 306 + 1 = 4 := by decide +kernel
theorem zr_306 (as : List zV) : zrk 306 as = 5 := by unfold zrk; rw [if_neg (by decide)]; decide +kernel
def lm_send (x1 : Int) (x2 : Int) (x3 : Int) (M : Nat → Nat → Int) : Option (Int × (Nat → Nat → Int)) :=
    ((lm_isName x1 M).bind (fun v2 =>
    (if v2 = 0 then
    (some ((-2 : Int), M))
    else
    ((lm_isCorner x2 M).bind (fun v11 =>
    (if v11 = 0 then
    (some ((-2 : Int), M))
    else
    ((lm_isAhead x3 M).bind (fun v19 =>
    (if v19 = 0 then
    (some ((-2 : Int), M))
    else
    ((lm_keepAct (w32 ((w32 ((w32 ((10000 : Int) * (w32 (x1 + (1 : Int))))) + (w32 ((100 : Int) * x2)))) + x3)) M).bind (fun r43_ =>
    (if r43_.1 < 0 then
    (some ((-5 : Int), r43_.2))
    else
    ((lm_asksState r43_.2).bind (fun r53_ =>
    ((lm_last r53_.2).bind (fun v60 =>
    ((lm_placeOf x1 v60 r53_.2).bind (fun v63 =>
    (some (v63, r53_.2))))))))))))))))))))
set_option maxRecDepth 100000 in
theorem ok_lm_send {sc : zSc} {x1 : Int} {x2 : Int} {x3 : Int} {M : Nat → Nat → Int} {P : Int → (Nat → Nat → Int) → Prop} (h : zS (lm_send x1 x2 x3 M) (fun r => P r.1 r.2)) : zCi sc 306 [.inr (.inr 106), .inl x1, .inl x2, .inl x3] M P := by
  have ea : zarg (zml 306) [.inr (.inr 106), .inl x1, .inl x2, .inl x3] = [some (.inr (.inr 106)), some (.inl x1), some (.inl x2), some (.inl x3)] := by rw [zm_306]; rfl
  unfold zCi zCw
  rw [ea, zr_306]
  have hq : 5 ≤ 5 := Nat.le_refl _
  unfold lm_send at h
  have h := zS_mono h (fun x hx => (⟨x.1, rfl, hx⟩ : ∃ y, (some (.inl x.1) : Option zV) = some (.inl y) ∧ P y x.2))
  skip
  refine E_aload_n (pc := 0) (zDk zD_306_ok 0 rfl) rfl ?_
  refine E_iload_n (pc := 1) (zDk zD_306_ok 1 rfl) rfl ?_
  obtain ⟨v2, e2, h⟩ := zS_bind h
  refine E_virI (pc := 2) (c := 186) (r := 106) (as := [.inl x1]) (rest := []) (zDk zD_306_ok 2 rfl) zc_306 (by decide +kernel) zk_186 ⟨(Nat.le_of_ble_eq_true rfl), rfl, rfl⟩ (Nat.le_of_ble_eq_true rfl) (zr_186 _) (Nat.lt_of_lt_of_le (by decide) hq) (by rw [zm_186]; exact (Nat.le_of_ble_eq_true rfl)) ⟨zc_186, by decide⟩ zis_8_106 (ok_lm_isName ⟨v2, e2, ?_⟩)
  refine E_if (pc := 5) (t := 25) (zDk zD_306_ok 3 rfl) rfl (fun hz => ?_) (fun hz => ?_)
  · have h := zS_t h (T_eq hz)
    refine E_bipush (pc := 25) (zDk zD_306_ok 13 rfl) (by decide +kernel) ?_
    have h := zS_some h
    exact E_ireturn (pc := 27) (zDk zD_306_ok 14 rfl) zt_306 h
  · have h := zS_f h (F_eq hz)
    refine E_aload_n (pc := 8) (zDk zD_306_ok 4 rfl) rfl ?_
    refine E_iload_n (pc := 9) (zDk zD_306_ok 5 rfl) rfl ?_
    refine E_i2l (pc := 10) (zDk zD_306_ok 6 rfl) ?_
    obtain ⟨v11, e11, h⟩ := zS_bind h
    refine E_virI (pc := 11) (c := 185) (r := 106) (as := [.inr (.inl x2)]) (rest := []) (zDk zD_306_ok 7 rfl) zc_306 (by decide +kernel) zk_185 ⟨(Nat.le_of_ble_eq_true rfl), rfl, rfl⟩ (Nat.le_of_ble_eq_true rfl) (zr_185 _) (Nat.lt_of_lt_of_le (by decide) hq) (by rw [zm_185]; exact (Nat.le_of_ble_eq_true rfl)) ⟨zc_185, by decide⟩ zis_8_106 (ok_lm_isCorner ⟨v11, e11, ?_⟩)
    refine E_if (pc := 14) (t := 25) (zDk zD_306_ok 8 rfl) rfl (fun hz => ?_) (fun hz => ?_)
    · have h := zS_t h (T_eq hz)
      refine E_bipush (pc := 25) (zDk zD_306_ok 13 rfl) (by decide +kernel) ?_
      have h := zS_some h
      exact E_ireturn (pc := 27) (zDk zD_306_ok 14 rfl) zt_306 h
    · have h := zS_f h (F_eq hz)
      refine E_aload_n (pc := 17) (zDk zD_306_ok 9 rfl) rfl ?_
      refine E_iload_n (pc := 18) (zDk zD_306_ok 10 rfl) rfl ?_
      obtain ⟨v19, e19, h⟩ := zS_bind h
      refine E_virI (pc := 19) (c := 184) (r := 106) (as := [.inl x3]) (rest := []) (zDk zD_306_ok 11 rfl) zc_306 (by decide +kernel) zk_184 ⟨(Nat.le_of_ble_eq_true rfl), rfl, rfl⟩ (Nat.le_of_ble_eq_true rfl) (zr_184 _) (Nat.lt_of_lt_of_le (by decide) hq) (by rw [zm_184]; exact (Nat.le_of_ble_eq_true rfl)) ⟨zc_184, by decide⟩ zis_8_106 (ok_lm_isAhead ⟨v19, e19, ?_⟩)
      refine E_if (pc := 22) (t := 28) (zDk zD_306_ok 12 rfl) rfl (fun hz => ?_) (fun hz => ?_)
      · have h := zS_f h (T_ne hz)
        refine E_aload_n (pc := 28) (zDk zD_306_ok 15 rfl) rfl ?_
        refine E_sipush (pc := 29) (zDk zD_306_ok 16 rfl) (by decide +kernel) ?_
        refine E_iload_n (pc := 32) (zDk zD_306_ok 17 rfl) rfl ?_
        refine E_iconst (pc := 33) (zDk zD_306_ok 18 rfl) (by decide +kernel) ?_
        refine W_iadd (pc := 34) (zDk zD_306_ok 19 rfl) ?_
        refine W_imul (pc := 35) (zDk zD_306_ok 20 rfl) ?_
        refine E_bipush (pc := 36) (zDk zD_306_ok 21 rfl) (by decide +kernel) ?_
        refine E_iload_n (pc := 38) (zDk zD_306_ok 22 rfl) rfl ?_
        refine W_imul (pc := 39) (zDk zD_306_ok 23 rfl) ?_
        refine W_iadd (pc := 40) (zDk zD_306_ok 24 rfl) ?_
        refine E_iload_n (pc := 41) (zDk zD_306_ok 25 rfl) rfl ?_
        refine W_iadd (pc := 42) (zDk zD_306_ok 26 rfl) ?_
        obtain ⟨r43_, e43, h⟩ := zS_bind h
        refine E_virI (pc := 43) (c := 305) (r := 106) (as := [.inl (w32 ((w32 ((w32 ((10000 : Int) * (w32 (x1 + (1 : Int))))) + (w32 ((100 : Int) * x2)))) + x3))]) (rest := []) (zDk zD_306_ok 27 rfl) zc_306 (by decide +kernel) zk_305 ⟨(Nat.le_of_ble_eq_true rfl), rfl, rfl⟩ (Nat.le_of_ble_eq_true rfl) (zr_305 _) (Nat.lt_of_lt_of_le (by decide) hq) (by rw [zm_305]; exact (Nat.le_of_ble_eq_true rfl)) ⟨zc_305, by decide⟩ zis_8_106 (ok_lm_keepAct ⟨r43_, e43, ?_⟩)
        refine E_if (pc := 46) (t := 52) (zDk zD_306_ok 28 rfl) rfl (fun hz => ?_) (fun hz => ?_)
        · have h := zS_f h (Int.not_lt.mpr (T_ge hz))
          refine E_aload_n (pc := 52) (zDk zD_306_ok 31 rfl) rfl ?_
          obtain ⟨r53_, e53, h⟩ := zS_bind h
          refine E_virI (pc := 53) (c := 229) (r := 106) (as := []) (rest := []) (zDk zD_306_ok 32 rfl) zc_306 (by decide +kernel) zk_229 ⟨(Nat.le_of_ble_eq_true rfl), rfl, rfl⟩ (Nat.le_of_ble_eq_true rfl) (zr_229 _) (Nat.lt_of_lt_of_le (by decide) hq) (by rw [zm_229]; exact (Nat.le_of_ble_eq_true rfl)) ⟨zc_229, by decide⟩ zis_8_106 (ok_lm_asksState ⟨r53_, e53, ?_⟩)
          refine E_pop (pc := 56) (zDk zD_306_ok 33 rfl) rfl ?_
          refine E_aload_n (pc := 57) (zDk zD_306_ok 34 rfl) rfl ?_
          refine E_iload_n (pc := 58) (zDk zD_306_ok 35 rfl) rfl ?_
          refine E_aload_n (pc := 59) (zDk zD_306_ok 36 rfl) rfl ?_
          obtain ⟨v60, e60, h⟩ := zS_bind h
          refine E_virI (pc := 60) (c := 182) (r := 106) (as := []) (rest := [.inl x1, .inr (.inr 106)]) (zDk zD_306_ok 37 rfl) zc_306 (by decide +kernel) zk_182 ⟨(Nat.le_of_ble_eq_true rfl), rfl, rfl⟩ (Nat.le_of_ble_eq_true rfl) (zr_182 _) (Nat.lt_of_lt_of_le (by decide) hq) (by rw [zm_182]; exact (Nat.le_of_ble_eq_true rfl)) ⟨zc_182, by decide⟩ zis_8_106 (ok_lm_last ⟨v60, e60, ?_⟩)
          obtain ⟨v63, e63, h⟩ := zS_bind h
          refine E_virI (pc := 63) (c := 221) (r := 106) (as := [.inl x1, .inl v60]) (rest := []) (zDk zD_306_ok 38 rfl) zc_306 (by decide +kernel) zk_221 ⟨(Nat.le_of_ble_eq_true rfl), rfl, rfl⟩ (Nat.le_of_ble_eq_true rfl) (zr_221 _) (Nat.lt_of_lt_of_le (by decide) hq) (by rw [zm_221]; exact (Nat.le_of_ble_eq_true rfl)) ⟨zc_221, by decide⟩ zis_8_106 (ok_lm_placeOf ⟨v63, e63, ?_⟩)
          have h := zS_some h
          exact E_ireturn (pc := 66) (zDk zD_306_ok 39 rfl) zt_306 h
        · have h := zS_t h (F_ge hz)
          refine E_bipush (pc := 49) (zDk zD_306_ok 29 rfl) (by decide +kernel) ?_
          have h := zS_some h
          exact E_ireturn (pc := 51) (zDk zD_306_ok 30 rfl) zt_306 h
      · have h := zS_t h (F_ne hz)
        refine E_bipush (pc := 25) (zDk zD_306_ok 13 rfl) (by decide +kernel) ?_
        have h := zS_some h
        exact E_ireturn (pc := 27) (zDk zD_306_ok 14 rfl) zt_306 h
def zD_312 : List (Nat × Instr × Nat) := [(0, .aload_n (0), 1), (1, .invokevirtual (95), 3), (4, .ifCond .eq (20), 3), (7, .iload_n (1), 1), (8, .invokestatic (462), 3), (11, .ifCond .eq (13), 3), (14, .iload_n (2), 1), (15, .i2l, 1), (16, .lconst (0), 1), (17, .lconst (1), 1), (18, .invokestatic (91), 3), (21, .ifCond .ne (6), 3), (24, .bipush (-2), 2), (26, .ireturn, 1), (27, .aload_n (0), 1), (28, .iload_n (1), 1), (29, .i2l, 1), (30, .invokevirtual (465), 3), (33, .iload_n (2), 1), (34, .ifCond .ne (10), 3), (37, .aload_n (0), 1), (38, .getfield (245), 3), (41, .goto (11), 3), (44, .aload_n (0), 1), (45, .aload_n (0), 1), (46, .invokevirtual (99), 3), (49, .invokevirtual (329), 3), (52, .ireturn, 1)]
set_option maxRecDepth 100000 in
theorem zD_312_ok : zDo 312 zD_312 = true := by decide +kernel
theorem zc_312 : zcls 312 = 8 := by decide +kernel
theorem zm_312 : zml 312 = 3 := by decide +kernel
theorem zt_312 : zrt 312 = (some (.int)) := by decide +kernel
theorem zk_312 : zkd 312 = 1 ∧ znp 312 + 1 = 3 := by decide +kernel
theorem zr_312 (as : List zV) : zrk 312 as = 5 := by unfold zrk; rw [if_neg (by decide)]; decide +kernel
def lm_drawn (x1 : Int) (x2 : Int) (M : Nat → Nat → Int) : Option (Int × (Nat → Nat → Int)) :=
    ((lm_isState M).bind (fun v1 =>
    (if v1 = 0 then
    (some ((-2 : Int), M))
    else
    ((lm_isSeed x1 M).bind (fun v8 =>
    (if v8 = 0 then
    (some ((-2 : Int), M))
    else
    ((lm_in x2 (0 : Int) (1 : Int) M).bind (fun v18 =>
    (if v18 = 0 then
    (some ((-2 : Int), M))
    else
    ((lm_goDrawn x1 M).bind (fun M30 =>
    (if x2 = 0 then
    (some ((M30 106 17), M30))
    else
    ((lm_last M30).bind (fun v46 =>
    ((lm_signsTo v46 M30).bind (fun v49 =>
    (some (v49, M30))))))))))))))))))
set_option maxRecDepth 100000 in
theorem ok_lm_drawn {sc : zSc} {x1 : Int} {x2 : Int} {M : Nat → Nat → Int} {P : Int → (Nat → Nat → Int) → Prop} (h : zS (lm_drawn x1 x2 M) (fun r => P r.1 r.2)) : zCi sc 312 [.inr (.inr 106), .inl x1, .inl x2] M P := by
  have ea : zarg (zml 312) [.inr (.inr 106), .inl x1, .inl x2] = [some (.inr (.inr 106)), some (.inl x1), some (.inl x2)] := by rw [zm_312]; rfl
  unfold zCi zCw
  rw [ea, zr_312]
  have hq : 5 ≤ 5 := Nat.le_refl _
  unfold lm_drawn at h
  have h := zS_mono h (fun x hx => (⟨x.1, rfl, hx⟩ : ∃ y, (some (.inl x.1) : Option zV) = some (.inl y) ∧ P y x.2))
  skip
  refine E_aload_n (pc := 0) (zDk zD_312_ok 0 rfl) rfl ?_
  obtain ⟨v1, e1, h⟩ := zS_bind h
  refine E_virI (pc := 1) (c := 181) (r := 106) (as := []) (rest := []) (zDk zD_312_ok 1 rfl) zc_312 (by decide +kernel) zk_181 ⟨(Nat.le_of_ble_eq_true rfl), rfl, rfl⟩ (Nat.le_of_ble_eq_true rfl) (zr_181 _) (Nat.lt_of_lt_of_le (by decide) hq) (by rw [zm_181]; exact (Nat.le_of_ble_eq_true rfl)) ⟨zc_181, by decide⟩ zis_8_106 (ok_lm_isState ⟨v1, e1, ?_⟩)
  refine E_if (pc := 4) (t := 24) (zDk zD_312_ok 2 rfl) rfl (fun hz => ?_) (fun hz => ?_)
  · have h := zS_t h (T_eq hz)
    refine E_bipush (pc := 24) (zDk zD_312_ok 12 rfl) (by decide +kernel) ?_
    have h := zS_some h
    exact E_ireturn (pc := 26) (zDk zD_312_ok 13 rfl) zt_312 h
  · have h := zS_f h (F_eq hz)
    refine E_iload_n (pc := 7) (zDk zD_312_ok 3 rfl) rfl ?_
    obtain ⟨v8, e8, h⟩ := zS_bind h
    refine E_staI (pc := 8) (c := 311) (as := [.inl x1]) (rest := []) (zDk zD_312_ok 4 rfl) zc_312 (by decide +kernel) (by decide +kernel) zk_311 ⟨(Nat.le_of_ble_eq_true rfl), rfl, rfl⟩ (Nat.le_of_ble_eq_true rfl) (zr_311 _) (Nat.lt_of_lt_of_le (by decide) hq) (by rw [zm_311]; exact (Nat.le_of_ble_eq_true rfl)) (ok_lm_isSeed ⟨v8, e8, ?_⟩)
    refine E_if (pc := 11) (t := 24) (zDk zD_312_ok 5 rfl) rfl (fun hz => ?_) (fun hz => ?_)
    · have h := zS_t h (T_eq hz)
      refine E_bipush (pc := 24) (zDk zD_312_ok 12 rfl) (by decide +kernel) ?_
      have h := zS_some h
      exact E_ireturn (pc := 26) (zDk zD_312_ok 13 rfl) zt_312 h
    · have h := zS_f h (F_eq hz)
      refine E_iload_n (pc := 14) (zDk zD_312_ok 6 rfl) rfl ?_
      refine E_i2l (pc := 15) (zDk zD_312_ok 7 rfl) ?_
      refine E_lconst (pc := 16) (v := 0) (zDk zD_312_ok 8 rfl) (by decide +kernel) ?_
      refine E_lconst (pc := 17) (v := 1) (zDk zD_312_ok 9 rfl) (by decide +kernel) ?_
      obtain ⟨v18, e18, h⟩ := zS_bind h
      refine E_staI (pc := 18) (c := 176) (as := [.inr (.inl x2), .inr (.inl (0 : Int)), .inr (.inl (1 : Int))]) (rest := []) (zDk zD_312_ok 10 rfl) zc_312 (by decide +kernel) (by decide +kernel) zk_176 ⟨(Nat.le_of_ble_eq_true rfl), rfl, rfl⟩ (Nat.le_of_ble_eq_true rfl) (zr_176 _) (Nat.lt_of_lt_of_le (by decide) hq) (by rw [zm_176]; exact (Nat.le_of_ble_eq_true rfl)) (ok_lm_in ⟨v18, e18, ?_⟩)
      refine E_if (pc := 21) (t := 27) (zDk zD_312_ok 11 rfl) rfl (fun hz => ?_) (fun hz => ?_)
      · have h := zS_f h (T_ne hz)
        refine E_aload_n (pc := 27) (zDk zD_312_ok 14 rfl) rfl ?_
        refine E_iload_n (pc := 28) (zDk zD_312_ok 15 rfl) rfl ?_
        refine E_i2l (pc := 29) (zDk zD_312_ok 16 rfl) ?_
        obtain ⟨M30, e30, h⟩ := zS_bind h
        refine E_virV (pc := 30) (c := 310) (r := 106) (as := [.inr (.inl x1)]) (rest := []) (zDk zD_312_ok 17 rfl) zc_312 (by decide +kernel) zk_310 ⟨(Nat.le_of_ble_eq_true rfl), rfl, rfl⟩ (Nat.le_of_ble_eq_true rfl) (zr_310 _) (Nat.lt_of_lt_of_le (by decide) hq) (by rw [zm_310]; exact (Nat.le_of_ble_eq_true rfl)) ⟨zc_310, by decide⟩ zis_8_106 (ok_lm_goDrawn ⟨M30, e30, ?_⟩)
        refine E_iload_n (pc := 33) (zDk zD_312_ok 18 rfl) rfl ?_
        refine E_if (pc := 34) (t := 44) (zDk zD_312_ok 19 rfl) rfl (fun hz => ?_) (fun hz => ?_)
        · have h := zS_f h (T_ne hz)
          refine E_aload_n (pc := 44) (zDk zD_312_ok 23 rfl) rfl ?_
          refine E_aload_n (pc := 45) (zDk zD_312_ok 24 rfl) rfl ?_
          obtain ⟨v46, e46, h⟩ := zS_bind h
          refine E_virI (pc := 46) (c := 182) (r := 106) (as := []) (rest := [.inr (.inr 106)]) (zDk zD_312_ok 25 rfl) zc_312 (by decide +kernel) zk_182 ⟨(Nat.le_of_ble_eq_true rfl), rfl, rfl⟩ (Nat.le_of_ble_eq_true rfl) (zr_182 _) (Nat.lt_of_lt_of_le (by decide) hq) (by rw [zm_182]; exact (Nat.le_of_ble_eq_true rfl)) ⟨zc_182, by decide⟩ zis_8_106 (ok_lm_last ⟨v46, e46, ?_⟩)
          obtain ⟨v49, e49, h⟩ := zS_bind h
          refine E_virI (pc := 49) (c := 246) (r := 106) (as := [.inl v46]) (rest := []) (zDk zD_312_ok 26 rfl) zc_312 (by decide +kernel) zk_246 ⟨(Nat.le_of_ble_eq_true rfl), rfl, rfl⟩ (Nat.le_of_ble_eq_true rfl) (zr_246 _) (Nat.lt_of_lt_of_le (by decide) hq) (by rw [zm_246]; exact (Nat.le_of_ble_eq_true rfl)) ⟨zc_246, by decide⟩ zis_8_106 (ok_lm_signsTo ⟨v49, e49, ?_⟩)
          have h := zS_some h
          exact E_ireturn (pc := 52) (zDk zD_312_ok 27 rfl) zt_312 h
        · have h := zS_t h (F_ne hz)
          refine E_aload_n (pc := 37) (zDk zD_312_ok 20 rfl) rfl ?_
          refine E_getI (pc := 38) (ci := 8) (f := 17) (zDk zD_312_ok 21 rfl) zc_312 (by decide +kernel) (by decide) zis_8_106 ?_
          refine E_goto (pc := 41) (t := 52) (zDk zD_312_ok 22 rfl) rfl ?_
          have h := zS_some h
          exact E_ireturn (pc := 52) (zDk zD_312_ok 27 rfl) zt_312 h
      · have h := zS_t h (F_ne hz)
        refine E_bipush (pc := 24) (zDk zD_312_ok 12 rfl) (by decide +kernel) ?_
        have h := zS_some h
        exact E_ireturn (pc := 26) (zDk zD_312_ok 13 rfl) zt_312 h
def zD_313 : List (Nat × Instr × Nat) := [(0, .iload_n (1), 1), (1, .invokestatic (462), 3), (4, .ifCond .eq (23), 3), (7, .iload_n (2), 1), (8, .i2l, 1), (9, .lconst (1), 1), (10, .ldc2_w (469), 3), (13, .invokestatic (91), 3), (16, .ifCond .eq (11), 3), (19, .aload_n (0), 1), (20, .iload_n (3), 1), (21, .invokevirtual (270), 3), (24, .ifCond .ne (6), 3), (27, .bipush (-2), 2), (29, .ireturn, 1), (30, .iconst (0), 1), (31, .istore (4), 2), (33, .iconst (0), 1), (34, .istore (5), 2), (36, .iload (5), 2), (38, .iload_n (2), 1), (39, .if_icmp .ge (39), 3), (42, .aload_n (0), 1), (43, .iload_n (1), 1), (44, .i2l, 1), (45, .iload (5), 2), (47, .i2l, 1), (48, .ladd, 1), (49, .invokevirtual (465), 3), (52, .iload (4), 2), (54, .aload_n (0), 1), (55, .getfield (52), 3), (58, .iload_n (3), 1), (59, .iaload, 1), (60, .iconst (-1), 1), (61, .if_icmp .ne (7), 3), (64, .iconst (0), 1), (65, .goto (4), 3), (68, .iconst (1), 1), (69, .iadd, 1), (70, .istore (4), 2), (72, .iinc (5) (1), 3), (75, .goto (-39), 3), (78, .iload (4), 2), (80, .ireturn, 1)]
set_option maxRecDepth 100000 in
theorem zD_313_ok : zDo 313 zD_313 = true := by decide +kernel
theorem zc_313 : zcls 313 = 8 := by decide +kernel
theorem zm_313 : zml 313 = 6 := by decide +kernel
theorem zt_313 : zrt 313 = (some (.int)) := by decide +kernel
theorem zk_313 : zkd 313 = 1 ∧ znp 313 + 1 = 4 := by decide +kernel
theorem zr_313 (as : List zV) : zrk 313 as = 5 := by unfold zrk; rw [if_neg (by decide)]; decide +kernel
def lm_luck_c36 (x1 : Int) (x2 : Int) (x3 : Int) : Nat → Int → Int → (Nat → Nat → Int) → Option (Int × (Nat → Nat → Int))
  | 0, _, _, _ => none
  | n + 1, y4, y5, M =>
    (if y5 < x2 then
    ((lm_goDrawn (w64 (x1 + y5)) M).bind (fun M49 =>
    ((rdI 119 x3 M49).bind (fun v59 =>
    (if v59 = (-1 : Int) then
    ((lm_luck_c36 x1 x2 x3 n) (w32 (y4 + (0 : Int))) (w32 (y5 + 1)) M49)
    else
    ((lm_luck_c36 x1 x2 x3 n) (w32 (y4 + (1 : Int))) (w32 (y5 + 1)) M49))))))
    else
    (some (y4, M)))
set_option maxRecDepth 100000 in
theorem ok_lm_luck_c36 {sc : zSc} {q : Nat} {P : Option zV → (Nat → Nat → Int) → Prop} (hq : 5 ≤ q) (x1 : Int) (x2 : Int) (x3 : Int) : ∀ (n : Nat) (y4 : Int) (y5 : Int) (M : Nat → Nat → Int), zS (lm_luck_c36 x1 x2 x3 n y4 y5 M) (fun r => P (some (.inl r.1)) r.2) → zWp sc q 313 36 [some (.inr (.inr 106)), some (.inl x1), some (.inl x2), some (.inl x3), some (.inl y4), some (.inl y5)] [] M P := by
  intro n
  induction n with
  | zero => intro y4 y5 M h; exact (zS_none h).elim
  | succ n ih =>
    intro y4 y5 M h
    rw [lm_luck_c36] at h
    refine E_iload (pc := 36) (zDk zD_313_ok 19 rfl) rfl ?_
    refine E_iload_n (pc := 38) (zDk zD_313_ok 20 rfl) rfl ?_
    refine E_icmp (pc := 39) (t := 78) (zDk zD_313_ok 21 rfl) rfl (fun hz => ?_) (fun hz => ?_)
    · have h := zS_f h (Int.not_lt.mpr (T_ge hz))
      refine E_iload (pc := 78) (zDk zD_313_ok 43 rfl) rfl ?_
      have h := zS_some h
      exact E_ireturn (pc := 80) (zDk zD_313_ok 44 rfl) zt_313 h
    · have h := zS_t h (F_ge hz)
      refine E_aload_n (pc := 42) (zDk zD_313_ok 22 rfl) rfl ?_
      refine E_iload_n (pc := 43) (zDk zD_313_ok 23 rfl) rfl ?_
      refine E_i2l (pc := 44) (zDk zD_313_ok 24 rfl) ?_
      refine E_iload (pc := 45) (zDk zD_313_ok 25 rfl) rfl ?_
      refine E_i2l (pc := 47) (zDk zD_313_ok 26 rfl) ?_
      refine W_ladd (pc := 48) (zDk zD_313_ok 27 rfl) ?_
      obtain ⟨M49, e49, h⟩ := zS_bind h
      refine E_virV (pc := 49) (c := 310) (r := 106) (as := [.inr (.inl (w64 (x1 + y5)))]) (rest := []) (zDk zD_313_ok 28 rfl) zc_313 (by decide +kernel) zk_310 ⟨(Nat.le_of_ble_eq_true rfl), rfl, rfl⟩ (Nat.le_of_ble_eq_true rfl) (zr_310 _) (Nat.lt_of_lt_of_le (by decide) hq) (by rw [zm_310]; exact (Nat.le_of_ble_eq_true rfl)) ⟨zc_310, by decide⟩ zis_8_106 (ok_lm_goDrawn ⟨M49, e49, ?_⟩)
      refine E_iload (pc := 52) (zDk zD_313_ok 29 rfl) rfl ?_
      refine E_aload_n (pc := 54) (zDk zD_313_ok 30 rfl) rfl ?_
      refine E_getR (pc := 55) (ci := 8) (f := 25) (r := 119) (zDk zD_313_ok 31 rfl) zc_313 (by decide +kernel) (by decide) zis_8_106 (by decide +kernel) (by decide) ?_
      refine E_iload_n (pc := 58) (zDk zD_313_ok 32 rfl) rfl ?_
      obtain ⟨v59, e59, h⟩ := zS_bind h
      refine E_iaload (pc := 59) (zDk zD_313_ok 33 rfl) e59 ?_
      refine E_iconst (pc := 60) (zDk zD_313_ok 34 rfl) (by decide +kernel) ?_
      refine E_icmp (pc := 61) (t := 68) (zDk zD_313_ok 35 rfl) rfl (fun hz => ?_) (fun hz => ?_)
      · have h := zS_f h (T_ne hz)
        refine E_iconst (pc := 68) (zDk zD_313_ok 38 rfl) (by decide +kernel) ?_
        refine W_iadd (pc := 69) (zDk zD_313_ok 39 rfl) ?_
        refine W_istore (pc := 70) (L' := [some (.inr (.inr 106)), some (.inl x1), some (.inl x2), some (.inl x3), some (.inl (w32 (y4 + (1 : Int)))), some (.inl y5)]) (zDk zD_313_ok 40 rfl) zm_313 (by decide) rfl ?_
        refine W_iinc (pc := 72) (L' := [some (.inr (.inr 106)), some (.inl x1), some (.inl x2), some (.inl x3), some (.inl (w32 (y4 + (1 : Int)))), some (.inl (w32 (y5 + 1)))]) (zDk zD_313_ok 41 rfl) rfl zm_313 (by decide) rfl ?_
        refine E_goto (pc := 75) (t := 36) (zDk zD_313_ok 42 rfl) rfl ?_
        exact (ih) (w32 (y4 + (1 : Int))) (w32 (y5 + 1)) M49 h
      · have h := zS_t h (F_ne hz)
        refine E_iconst (pc := 64) (zDk zD_313_ok 36 rfl) (by decide +kernel) ?_
        refine E_goto (pc := 65) (t := 69) (zDk zD_313_ok 37 rfl) rfl ?_
        refine W_iadd (pc := 69) (zDk zD_313_ok 39 rfl) ?_
        refine W_istore (pc := 70) (L' := [some (.inr (.inr 106)), some (.inl x1), some (.inl x2), some (.inl x3), some (.inl (w32 (y4 + (0 : Int)))), some (.inl y5)]) (zDk zD_313_ok 40 rfl) zm_313 (by decide) rfl ?_
        refine W_iinc (pc := 72) (L' := [some (.inr (.inr 106)), some (.inl x1), some (.inl x2), some (.inl x3), some (.inl (w32 (y4 + (0 : Int)))), some (.inl (w32 (y5 + 1)))]) (zDk zD_313_ok 41 rfl) rfl zm_313 (by decide) rfl ?_
        refine E_goto (pc := 75) (t := 36) (zDk zD_313_ok 42 rfl) rfl ?_
        exact (ih) (w32 (y4 + (0 : Int))) (w32 (y5 + 1)) M49 h
def lm_luck (x1 : Int) (x2 : Int) (x3 : Int) (M : Nat → Nat → Int) : Option (Int × (Nat → Nat → Int)) :=
    ((lm_isSeed x1 M).bind (fun v1 =>
    (if v1 = 0 then
    (some ((-2 : Int), M))
    else
    ((lm_in x2 (1 : Int) (20 : Int) M).bind (fun v13 =>
    (if v13 = 0 then
    (some ((-2 : Int), M))
    else
    ((lm_isContract x3 M).bind (fun v21 =>
    (if v21 = 0 then
    (some ((-2 : Int), M))
    else
    (lm_luck_c36 x1 x2 x3 zN (0 : Int) (0 : Int) M))))))))))
set_option maxRecDepth 100000 in
theorem ok_lm_luck {sc : zSc} {x1 : Int} {x2 : Int} {x3 : Int} {M : Nat → Nat → Int} {P : Int → (Nat → Nat → Int) → Prop} (h : zS (lm_luck x1 x2 x3 M) (fun r => P r.1 r.2)) : zCi sc 313 [.inr (.inr 106), .inl x1, .inl x2, .inl x3] M P := by
  have ea : zarg (zml 313) [.inr (.inr 106), .inl x1, .inl x2, .inl x3] = [some (.inr (.inr 106)), some (.inl x1), some (.inl x2), some (.inl x3), none, none] := by rw [zm_313]; rfl
  unfold zCi zCw
  rw [ea, zr_313]
  have hq : 5 ≤ 5 := Nat.le_refl _
  unfold lm_luck at h
  have h := zS_mono h (fun x hx => (⟨x.1, rfl, hx⟩ : ∃ y, (some (.inl x.1) : Option zV) = some (.inl y) ∧ P y x.2))
  skip
  refine E_iload_n (pc := 0) (zDk zD_313_ok 0 rfl) rfl ?_
  obtain ⟨v1, e1, h⟩ := zS_bind h
  refine E_staI (pc := 1) (c := 311) (as := [.inl x1]) (rest := []) (zDk zD_313_ok 1 rfl) zc_313 (by decide +kernel) (by decide +kernel) zk_311 ⟨(Nat.le_of_ble_eq_true rfl), rfl, rfl⟩ (Nat.le_of_ble_eq_true rfl) (zr_311 _) (Nat.lt_of_lt_of_le (by decide) hq) (by rw [zm_311]; exact (Nat.le_of_ble_eq_true rfl)) (ok_lm_isSeed ⟨v1, e1, ?_⟩)
  refine E_if (pc := 4) (t := 27) (zDk zD_313_ok 2 rfl) rfl (fun hz => ?_) (fun hz => ?_)
  · have h := zS_t h (T_eq hz)
    refine E_bipush (pc := 27) (zDk zD_313_ok 13 rfl) (by decide +kernel) ?_
    have h := zS_some h
    exact E_ireturn (pc := 29) (zDk zD_313_ok 14 rfl) zt_313 h
  · have h := zS_f h (F_eq hz)
    refine E_iload_n (pc := 7) (zDk zD_313_ok 3 rfl) rfl ?_
    refine E_i2l (pc := 8) (zDk zD_313_ok 4 rfl) ?_
    refine E_lconst (pc := 9) (v := 1) (zDk zD_313_ok 5 rfl) (by decide +kernel) ?_
    refine E_ldc2_w (pc := 10) (v := .inr (.inl (20 : Int))) (zDk zD_313_ok 6 rfl) zc_313 (by decide +kernel) ?_
    obtain ⟨v13, e13, h⟩ := zS_bind h
    refine E_staI (pc := 13) (c := 176) (as := [.inr (.inl x2), .inr (.inl (1 : Int)), .inr (.inl (20 : Int))]) (rest := []) (zDk zD_313_ok 7 rfl) zc_313 (by decide +kernel) (by decide +kernel) zk_176 ⟨(Nat.le_of_ble_eq_true rfl), rfl, rfl⟩ (Nat.le_of_ble_eq_true rfl) (zr_176 _) (Nat.lt_of_lt_of_le (by decide) hq) (by rw [zm_176]; exact (Nat.le_of_ble_eq_true rfl)) (ok_lm_in ⟨v13, e13, ?_⟩)
    refine E_if (pc := 16) (t := 27) (zDk zD_313_ok 8 rfl) rfl (fun hz => ?_) (fun hz => ?_)
    · have h := zS_t h (T_eq hz)
      refine E_bipush (pc := 27) (zDk zD_313_ok 13 rfl) (by decide +kernel) ?_
      have h := zS_some h
      exact E_ireturn (pc := 29) (zDk zD_313_ok 14 rfl) zt_313 h
    · have h := zS_f h (F_eq hz)
      refine E_aload_n (pc := 19) (zDk zD_313_ok 9 rfl) rfl ?_
      refine E_iload_n (pc := 20) (zDk zD_313_ok 10 rfl) rfl ?_
      obtain ⟨v21, e21, h⟩ := zS_bind h
      refine E_virI (pc := 21) (c := 187) (r := 106) (as := [.inl x3]) (rest := []) (zDk zD_313_ok 11 rfl) zc_313 (by decide +kernel) zk_187 ⟨(Nat.le_of_ble_eq_true rfl), rfl, rfl⟩ (Nat.le_of_ble_eq_true rfl) (zr_187 _) (Nat.lt_of_lt_of_le (by decide) hq) (by rw [zm_187]; exact (Nat.le_of_ble_eq_true rfl)) ⟨zc_187, by decide⟩ zis_8_106 (ok_lm_isContract ⟨v21, e21, ?_⟩)
      refine E_if (pc := 24) (t := 30) (zDk zD_313_ok 12 rfl) rfl (fun hz => ?_) (fun hz => ?_)
      · have h := zS_f h (T_ne hz)
        refine E_iconst (pc := 30) (zDk zD_313_ok 15 rfl) (by decide +kernel) ?_
        refine W_istore (pc := 31) (L' := [some (.inr (.inr 106)), some (.inl x1), some (.inl x2), some (.inl x3), some (.inl (0 : Int)), none]) (zDk zD_313_ok 16 rfl) zm_313 (by decide) rfl ?_
        refine E_iconst (pc := 33) (zDk zD_313_ok 17 rfl) (by decide +kernel) ?_
        refine W_istore (pc := 34) (L' := [some (.inr (.inr 106)), some (.inl x1), some (.inl x2), some (.inl x3), some (.inl (0 : Int)), some (.inl (0 : Int))]) (zDk zD_313_ok 18 rfl) zm_313 (by decide) rfl ?_
        exact ok_lm_luck_c36 hq x1 x2 x3 zN (0 : Int) (0 : Int) M h
      · have h := zS_t h (F_ne hz)
        refine E_bipush (pc := 27) (zDk zD_313_ok 13 rfl) (by decide +kernel) ?_
        have h := zS_some h
        exact E_ireturn (pc := 29) (zDk zD_313_ok 14 rfl) zt_313 h
def zD_45 : List (Nat × Instr × Nat) := [(0, .aload_n (0), 1), (1, .ldc (80), 2), (3, .invokevirtual (82), 3), (6, .aload_n (0), 1), (7, .ldc (86), 2), (9, .invokevirtual (82), 3), (12, .aload_n (1), 1), (13, .aload_n (0), 1), (14, .iconst (1), 1), (15, .bipush (8), 2), (17, .iconst (0), 1), (18, .invokevirtual (88), 3), (21, .putfield (92), 3), (24, .aload_n (0), 1), (25, .ldc (94), 2), (27, .invokevirtual (82), 3), (30, .aload_n (1), 1), (31, .aload_n (0), 1), (32, .iconst (1), 1), (33, .bipush (20), 2), (35, .iconst (0), 1), (36, .invokevirtual (88), 3), (39, .putfield (96), 3), (42, .aload_n (0), 1), (43, .ldc (98), 2), (45, .invokevirtual (82), 3), (48, .aload_n (1), 1), (49, .aload_n (0), 1), (50, .iconst (0), 1), (51, .iconst (3), 1), (52, .iconst (0), 1), (53, .invokevirtual (88), 3), (56, .putfield (100), 3), (59, .aload_n (0), 1), (60, .ldc (102), 2), (62, .invokevirtual (82), 3), (65, .aload_n (1), 1), (66, .aload_n (0), 1), (67, .iconst (0), 1), (68, .bipush (10), 2), (70, .iconst (0), 1), (71, .invokevirtual (88), 3), (74, .putfield (104), 3), (77, .return_, 1)]
set_option maxRecDepth 100000 in
theorem zD_45_ok : zDo 45 zD_45 = true := by decide +kernel
theorem zc_45 : zcls 45 = 4 := by decide +kernel
theorem zm_45 : zml 45 = 2 := by decide +kernel
theorem zt_45 : zrt 45 = none := by decide +kernel
theorem zk_45 : zkd 45 = 1 ∧ znp 45 + 1 = 2 := by decide +kernel
theorem zr_45 (as : List zV) : zrk 45 as = 6 := by unfold zrk; rw [if_neg (by decide)]; decide +kernel
def lR_readHead (r1 : Nat) (M : Nat → Nat → Int) : Option (Nat → Nat → Int) :=
    (if zis 6 r1 = true then
    ((lR_takeWord 5003 M).bind (fun M3 =>
    ((lR_takeWord 5004 M3).bind (fun M9 =>
    ((lR_takeNumber (1 : Int) (8 : Int) (0 : Int) M9).bind (fun r18_ =>
    ((some (zup r18_.2 r1 0 r18_.1)).bind (fun M21 =>
    ((lR_takeWord 5005 M21).bind (fun M27 =>
    ((lR_takeNumber (1 : Int) (20 : Int) (0 : Int) M27).bind (fun r36_ =>
    ((some (zup r36_.2 r1 1 r36_.1)).bind (fun M39 =>
    ((lR_takeWord 5006 M39).bind (fun M45 =>
    ((lR_takeNumber (0 : Int) (3 : Int) (0 : Int) M45).bind (fun r53_ =>
    ((some (zup r53_.2 r1 2 r53_.1)).bind (fun M56 =>
    ((lR_takeWord 5007 M56).bind (fun M62 =>
    ((lR_takeNumber (0 : Int) (10 : Int) (0 : Int) M62).bind (fun r71_ =>
    ((some (zup r71_.2 r1 3 r71_.1)).bind (fun M74 =>
    (some M74)))))))))))))))))))))))))))
    else none)
set_option maxRecDepth 100000 in
theorem ok_lR_readHead {sc : zSc} {r1 : Nat} {M : Nat → Nat → Int} {P : (Nat → Nat → Int) → Prop} (h : zS (lR_readHead r1 M) P) : zCv sc 45 [.inr (.inr 1), .inr (.inr r1)] M P := by
  have ea : zarg (zml 45) [.inr (.inr 1), .inr (.inr r1)] = [some (.inr (.inr 1)), some (.inr (.inr r1))] := by rw [zm_45]; rfl
  unfold zCv zCw
  rw [ea, zr_45]
  have hq : 6 ≤ 6 := Nat.le_refl _
  unfold lR_readHead at h
  have h := zS_mono h (fun x hx => (⟨rfl, hx⟩ : (none : Option zV) = none ∧ P x))
  obtain ⟨hr1, h⟩ := zS_c h
  skip
  refine E_aload_n (pc := 0) (zDk zD_45_ok 0 rfl) rfl ?_
  refine E_ldc (pc := 1) (v := .inr (.inr 5003)) (zDk zD_45_ok 1 rfl) zc_45 (by decide +kernel) ?_
  obtain ⟨M3, e3, h⟩ := zS_bind h
  refine E_virV (pc := 3) (c := 52) (r := 1) (as := [.inr (.inr 5003)]) (rest := []) (zDk zD_45_ok 2 rfl) zc_45 (by decide +kernel) zk_52 ⟨(Nat.le_of_ble_eq_true rfl), rfl, rfl⟩ (Nat.le_of_ble_eq_true rfl) (zr_52 _) (Nat.lt_of_lt_of_le (by decide) hq) (by rw [zm_52]; exact (Nat.le_of_ble_eq_true rfl)) ⟨zc_52, by decide⟩ zis_4_1 (ok_lR_takeWord ⟨M3, e3, ?_⟩)
  refine E_aload_n (pc := 6) (zDk zD_45_ok 3 rfl) rfl ?_
  refine E_ldc (pc := 7) (v := .inr (.inr 5004)) (zDk zD_45_ok 4 rfl) zc_45 (by decide +kernel) ?_
  obtain ⟨M9, e9, h⟩ := zS_bind h
  refine E_virV (pc := 9) (c := 52) (r := 1) (as := [.inr (.inr 5004)]) (rest := []) (zDk zD_45_ok 5 rfl) zc_45 (by decide +kernel) zk_52 ⟨(Nat.le_of_ble_eq_true rfl), rfl, rfl⟩ (Nat.le_of_ble_eq_true rfl) (zr_52 _) (Nat.lt_of_lt_of_le (by decide) hq) (by rw [zm_52]; exact (Nat.le_of_ble_eq_true rfl)) ⟨zc_52, by decide⟩ zis_4_1 (ok_lR_takeWord ⟨M9, e9, ?_⟩)
  refine E_aload_n (pc := 12) (zDk zD_45_ok 6 rfl) rfl ?_
  refine E_aload_n (pc := 13) (zDk zD_45_ok 7 rfl) rfl ?_
  refine E_iconst (pc := 14) (zDk zD_45_ok 8 rfl) (by decide +kernel) ?_
  refine E_bipush (pc := 15) (zDk zD_45_ok 9 rfl) (by decide +kernel) ?_
  refine E_iconst (pc := 17) (zDk zD_45_ok 10 rfl) (by decide +kernel) ?_
  obtain ⟨r18_, e18, h⟩ := zS_bind h
  refine E_virI (pc := 18) (c := 54) (r := 1) (as := [.inl (1 : Int), .inl (8 : Int), .inl (0 : Int)]) (rest := [.inr (.inr r1)]) (zDk zD_45_ok 11 rfl) zc_45 (by decide +kernel) zk_54 ⟨(Nat.le_of_ble_eq_true rfl), rfl, rfl⟩ (Nat.le_of_ble_eq_true rfl) (zr_54 _) (Nat.lt_of_lt_of_le (by decide) hq) (by rw [zm_54]; exact (Nat.le_of_ble_eq_true rfl)) ⟨zc_54, by decide⟩ zis_4_1 (ok_lR_takeNumber ⟨r18_, e18, ?_⟩)
  obtain ⟨M21, e21, h⟩ := zS_bind h
  refine W_putI (pc := 21) (ci := 6) (f := 0) (zDk zD_45_ok 12 rfl) zc_45 (by decide +kernel) (by decide) hr1 (Option.some.inj e21) ?_
  refine E_aload_n (pc := 24) (zDk zD_45_ok 13 rfl) rfl ?_
  refine E_ldc (pc := 25) (v := .inr (.inr 5005)) (zDk zD_45_ok 14 rfl) zc_45 (by decide +kernel) ?_
  obtain ⟨M27, e27, h⟩ := zS_bind h
  refine E_virV (pc := 27) (c := 52) (r := 1) (as := [.inr (.inr 5005)]) (rest := []) (zDk zD_45_ok 15 rfl) zc_45 (by decide +kernel) zk_52 ⟨(Nat.le_of_ble_eq_true rfl), rfl, rfl⟩ (Nat.le_of_ble_eq_true rfl) (zr_52 _) (Nat.lt_of_lt_of_le (by decide) hq) (by rw [zm_52]; exact (Nat.le_of_ble_eq_true rfl)) ⟨zc_52, by decide⟩ zis_4_1 (ok_lR_takeWord ⟨M27, e27, ?_⟩)
  refine E_aload_n (pc := 30) (zDk zD_45_ok 16 rfl) rfl ?_
  refine E_aload_n (pc := 31) (zDk zD_45_ok 17 rfl) rfl ?_
  refine E_iconst (pc := 32) (zDk zD_45_ok 18 rfl) (by decide +kernel) ?_
  refine E_bipush (pc := 33) (zDk zD_45_ok 19 rfl) (by decide +kernel) ?_
  refine E_iconst (pc := 35) (zDk zD_45_ok 20 rfl) (by decide +kernel) ?_
  obtain ⟨r36_, e36, h⟩ := zS_bind h
  refine E_virI (pc := 36) (c := 54) (r := 1) (as := [.inl (1 : Int), .inl (20 : Int), .inl (0 : Int)]) (rest := [.inr (.inr r1)]) (zDk zD_45_ok 21 rfl) zc_45 (by decide +kernel) zk_54 ⟨(Nat.le_of_ble_eq_true rfl), rfl, rfl⟩ (Nat.le_of_ble_eq_true rfl) (zr_54 _) (Nat.lt_of_lt_of_le (by decide) hq) (by rw [zm_54]; exact (Nat.le_of_ble_eq_true rfl)) ⟨zc_54, by decide⟩ zis_4_1 (ok_lR_takeNumber ⟨r36_, e36, ?_⟩)
  obtain ⟨M39, e39, h⟩ := zS_bind h
  refine W_putI (pc := 39) (ci := 6) (f := 1) (zDk zD_45_ok 22 rfl) zc_45 (by decide +kernel) (by decide) hr1 (Option.some.inj e39) ?_
  refine E_aload_n (pc := 42) (zDk zD_45_ok 23 rfl) rfl ?_
  refine E_ldc (pc := 43) (v := .inr (.inr 5006)) (zDk zD_45_ok 24 rfl) zc_45 (by decide +kernel) ?_
  obtain ⟨M45, e45, h⟩ := zS_bind h
  refine E_virV (pc := 45) (c := 52) (r := 1) (as := [.inr (.inr 5006)]) (rest := []) (zDk zD_45_ok 25 rfl) zc_45 (by decide +kernel) zk_52 ⟨(Nat.le_of_ble_eq_true rfl), rfl, rfl⟩ (Nat.le_of_ble_eq_true rfl) (zr_52 _) (Nat.lt_of_lt_of_le (by decide) hq) (by rw [zm_52]; exact (Nat.le_of_ble_eq_true rfl)) ⟨zc_52, by decide⟩ zis_4_1 (ok_lR_takeWord ⟨M45, e45, ?_⟩)
  refine E_aload_n (pc := 48) (zDk zD_45_ok 26 rfl) rfl ?_
  refine E_aload_n (pc := 49) (zDk zD_45_ok 27 rfl) rfl ?_
  refine E_iconst (pc := 50) (zDk zD_45_ok 28 rfl) (by decide +kernel) ?_
  refine E_iconst (pc := 51) (zDk zD_45_ok 29 rfl) (by decide +kernel) ?_
  refine E_iconst (pc := 52) (zDk zD_45_ok 30 rfl) (by decide +kernel) ?_
  obtain ⟨r53_, e53, h⟩ := zS_bind h
  refine E_virI (pc := 53) (c := 54) (r := 1) (as := [.inl (0 : Int), .inl (3 : Int), .inl (0 : Int)]) (rest := [.inr (.inr r1)]) (zDk zD_45_ok 31 rfl) zc_45 (by decide +kernel) zk_54 ⟨(Nat.le_of_ble_eq_true rfl), rfl, rfl⟩ (Nat.le_of_ble_eq_true rfl) (zr_54 _) (Nat.lt_of_lt_of_le (by decide) hq) (by rw [zm_54]; exact (Nat.le_of_ble_eq_true rfl)) ⟨zc_54, by decide⟩ zis_4_1 (ok_lR_takeNumber ⟨r53_, e53, ?_⟩)
  obtain ⟨M56, e56, h⟩ := zS_bind h
  refine W_putI (pc := 56) (ci := 6) (f := 2) (zDk zD_45_ok 32 rfl) zc_45 (by decide +kernel) (by decide) hr1 (Option.some.inj e56) ?_
  refine E_aload_n (pc := 59) (zDk zD_45_ok 33 rfl) rfl ?_
  refine E_ldc (pc := 60) (v := .inr (.inr 5007)) (zDk zD_45_ok 34 rfl) zc_45 (by decide +kernel) ?_
  obtain ⟨M62, e62, h⟩ := zS_bind h
  refine E_virV (pc := 62) (c := 52) (r := 1) (as := [.inr (.inr 5007)]) (rest := []) (zDk zD_45_ok 35 rfl) zc_45 (by decide +kernel) zk_52 ⟨(Nat.le_of_ble_eq_true rfl), rfl, rfl⟩ (Nat.le_of_ble_eq_true rfl) (zr_52 _) (Nat.lt_of_lt_of_le (by decide) hq) (by rw [zm_52]; exact (Nat.le_of_ble_eq_true rfl)) ⟨zc_52, by decide⟩ zis_4_1 (ok_lR_takeWord ⟨M62, e62, ?_⟩)
  refine E_aload_n (pc := 65) (zDk zD_45_ok 36 rfl) rfl ?_
  refine E_aload_n (pc := 66) (zDk zD_45_ok 37 rfl) rfl ?_
  refine E_iconst (pc := 67) (zDk zD_45_ok 38 rfl) (by decide +kernel) ?_
  refine E_bipush (pc := 68) (zDk zD_45_ok 39 rfl) (by decide +kernel) ?_
  refine E_iconst (pc := 70) (zDk zD_45_ok 40 rfl) (by decide +kernel) ?_
  obtain ⟨r71_, e71, h⟩ := zS_bind h
  refine E_virI (pc := 71) (c := 54) (r := 1) (as := [.inl (0 : Int), .inl (10 : Int), .inl (0 : Int)]) (rest := [.inr (.inr r1)]) (zDk zD_45_ok 41 rfl) zc_45 (by decide +kernel) zk_54 ⟨(Nat.le_of_ble_eq_true rfl), rfl, rfl⟩ (Nat.le_of_ble_eq_true rfl) (zr_54 _) (Nat.lt_of_lt_of_le (by decide) hq) (by rw [zm_54]; exact (Nat.le_of_ble_eq_true rfl)) ⟨zc_54, by decide⟩ zis_4_1 (ok_lR_takeNumber ⟨r71_, e71, ?_⟩)
  obtain ⟨M74, e74, h⟩ := zS_bind h
  refine W_putI (pc := 74) (ci := 6) (f := 3) (zDk zD_45_ok 42 rfl) zc_45 (by decide +kernel) (by decide) hr1 (Option.some.inj e74) ?_
  have h := zS_some h
  exact E_return (x := ()) (pc := 77) (zDk zD_45_ok 43 rfl) zt_45 h
def zD_46 : List (Nat × Instr × Nat) := [(0, .aload_n (1), 1), (1, .getfield (106), 3), (4, .bipush (12), 2), (6, .if_icmp .lt (9), 3), (9, .aload_n (0), 1), (10, .iconst (3), 1), (11, .invokevirtual (73), 3), (14, .return_, 1), (15, .aload_n (0), 1), (16, .ldc (49), 2), (18, .invokevirtual (82), 3), (21, .aload_n (0), 1), (22, .iconst (0), 1), (23, .aload_n (1), 1), (24, .getfield (92), 3), (27, .iconst (1), 1), (28, .isub, 1), (29, .iconst (0), 1), (30, .invokevirtual (88), 3), (33, .istore_n (2), 1), (34, .aload_n (0), 1), (35, .ldc (109), 2), (37, .invokevirtual (82), 3), (40, .aload_n (1), 1), (41, .getfield (111), 3), (44, .aload_n (1), 1), (45, .getfield (106), 3), (48, .iload_n (2), 1), (49, .iastore, 1), (50, .aload_n (1), 1), (51, .getfield (114), 3), (54, .aload_n (1), 1), (55, .getfield (106), 3), (58, .aload_n (0), 1), (59, .iconst (0), 1), (60, .aload_n (1), 1), (61, .getfield (92), 3), (64, .iconst (1), 1), (65, .isub, 1), (66, .iconst (1), 1), (67, .iload_n (2), 1), (68, .ishl, 1), (69, .invokevirtual (88), 3), (72, .iastore, 1), (73, .aload_n (1), 1), (74, .dup, 1), (75, .getfield (106), 3), (78, .iconst (1), 1), (79, .iadd, 1), (80, .putfield (106), 3), (83, .return_, 1)]
set_option maxRecDepth 100000 in
theorem zD_46_ok : zDo 46 zD_46 = true := by decide +kernel
theorem zc_46 : zcls 46 = 4 := by decide +kernel
theorem zm_46 : zml 46 = 3 := by decide +kernel
theorem zt_46 : zrt 46 = none := by decide +kernel
theorem zk_46 : zkd 46 = 1 ∧ znp 46 + 1 = 2 := by decide +kernel
theorem zr_46 (as : List zV) : zrk 46 as = 6 := by unfold zrk; rw [if_neg (by decide)]; decide +kernel
def lR_readStreet (r1 : Nat) (M : Nat → Nat → Int) : Option (Nat → Nat → Int) :=
    (if zis 6 r1 = true then
    (if (M r1 5) < (12 : Int) then
    ((lR_takeWord 5008 M).bind (fun M18 =>
    ((lR_takeNumber (0 : Int) (w32 ((M18 r1 0) - (1 : Int))) (0 : Int) M18).bind (fun r30_ =>
    ((lR_takeWord 5009 r30_.2).bind (fun M37 =>
    ((wrI (r1 + 1) (M37 r1 5) r30_.1 M37).bind (fun M49 =>
    ((lR_takeNumber (0 : Int) (w32 ((M49 r1 0) - (1 : Int))) (zshl (1 : Int) r30_.1) M49).bind (fun r69_ =>
    ((wrI (r1 + 2) (M49 r1 5) r69_.1 r69_.2).bind (fun M72 =>
    ((some (zup M72 r1 5 (w32 ((M72 r1 5) + (1 : Int))))).bind (fun M80 =>
    (some M80)))))))))))))))
    else
    ((lR_fail (3 : Int) M).bind (fun M11 =>
    (some M11))))
    else none)
set_option maxRecDepth 100000 in
theorem ok_lR_readStreet {sc : zSc} {r1 : Nat} {M : Nat → Nat → Int} {P : (Nat → Nat → Int) → Prop} (h : zS (lR_readStreet r1 M) P) : zCv sc 46 [.inr (.inr 1), .inr (.inr r1)] M P := by
  have ea : zarg (zml 46) [.inr (.inr 1), .inr (.inr r1)] = [some (.inr (.inr 1)), some (.inr (.inr r1)), none] := by rw [zm_46]; rfl
  unfold zCv zCw
  rw [ea, zr_46]
  have hq : 6 ≤ 6 := Nat.le_refl _
  unfold lR_readStreet at h
  have h := zS_mono h (fun x hx => (⟨rfl, hx⟩ : (none : Option zV) = none ∧ P x))
  obtain ⟨hr1, h⟩ := zS_c h
  skip
  refine E_aload_n (pc := 0) (zDk zD_46_ok 0 rfl) rfl ?_
  refine E_getI (pc := 1) (ci := 6) (f := 5) (zDk zD_46_ok 1 rfl) zc_46 (by decide +kernel) (by decide) hr1 ?_
  refine E_bipush (pc := 4) (zDk zD_46_ok 2 rfl) (by decide +kernel) ?_
  refine E_icmp (pc := 6) (t := 15) (zDk zD_46_ok 3 rfl) rfl (fun hz => ?_) (fun hz => ?_)
  · have h := zS_t h (T_lt hz)
    refine E_aload_n (pc := 15) (zDk zD_46_ok 8 rfl) rfl ?_
    refine E_ldc (pc := 16) (v := .inr (.inr 5008)) (zDk zD_46_ok 9 rfl) zc_46 (by decide +kernel) ?_
    obtain ⟨M18, e18, h⟩ := zS_bind h
    refine E_virV (pc := 18) (c := 52) (r := 1) (as := [.inr (.inr 5008)]) (rest := []) (zDk zD_46_ok 10 rfl) zc_46 (by decide +kernel) zk_52 ⟨(Nat.le_of_ble_eq_true rfl), rfl, rfl⟩ (Nat.le_of_ble_eq_true rfl) (zr_52 _) (Nat.lt_of_lt_of_le (by decide) hq) (by rw [zm_52]; exact (Nat.le_of_ble_eq_true rfl)) ⟨zc_52, by decide⟩ zis_4_1 (ok_lR_takeWord ⟨M18, e18, ?_⟩)
    refine E_aload_n (pc := 21) (zDk zD_46_ok 11 rfl) rfl ?_
    refine E_iconst (pc := 22) (zDk zD_46_ok 12 rfl) (by decide +kernel) ?_
    refine E_aload_n (pc := 23) (zDk zD_46_ok 13 rfl) rfl ?_
    refine E_getI (pc := 24) (ci := 6) (f := 0) (zDk zD_46_ok 14 rfl) zc_46 (by decide +kernel) (by decide) hr1 ?_
    refine E_iconst (pc := 27) (zDk zD_46_ok 15 rfl) (by decide +kernel) ?_
    refine W_isub (pc := 28) (zDk zD_46_ok 16 rfl) ?_
    refine E_iconst (pc := 29) (zDk zD_46_ok 17 rfl) (by decide +kernel) ?_
    obtain ⟨r30_, e30, h⟩ := zS_bind h
    refine E_virI (pc := 30) (c := 54) (r := 1) (as := [.inl (0 : Int), .inl (w32 ((M18 r1 0) - (1 : Int))), .inl (0 : Int)]) (rest := []) (zDk zD_46_ok 18 rfl) zc_46 (by decide +kernel) zk_54 ⟨(Nat.le_of_ble_eq_true rfl), rfl, rfl⟩ (Nat.le_of_ble_eq_true rfl) (zr_54 _) (Nat.lt_of_lt_of_le (by decide) hq) (by rw [zm_54]; exact (Nat.le_of_ble_eq_true rfl)) ⟨zc_54, by decide⟩ zis_4_1 (ok_lR_takeNumber ⟨r30_, e30, ?_⟩)
    refine W_istore_n (pc := 33) (L' := [some (.inr (.inr 1)), some (.inr (.inr r1)), some (.inl r30_.1)]) (zDk zD_46_ok 19 rfl) zm_46 (by decide) rfl ?_
    refine E_aload_n (pc := 34) (zDk zD_46_ok 20 rfl) rfl ?_
    refine E_ldc (pc := 35) (v := .inr (.inr 5009)) (zDk zD_46_ok 21 rfl) zc_46 (by decide +kernel) ?_
    obtain ⟨M37, e37, h⟩ := zS_bind h
    refine E_virV (pc := 37) (c := 52) (r := 1) (as := [.inr (.inr 5009)]) (rest := []) (zDk zD_46_ok 22 rfl) zc_46 (by decide +kernel) zk_52 ⟨(Nat.le_of_ble_eq_true rfl), rfl, rfl⟩ (Nat.le_of_ble_eq_true rfl) (zr_52 _) (Nat.lt_of_lt_of_le (by decide) hq) (by rw [zm_52]; exact (Nat.le_of_ble_eq_true rfl)) ⟨zc_52, by decide⟩ zis_4_1 (ok_lR_takeWord ⟨M37, e37, ?_⟩)
    refine E_aload_n (pc := 40) (zDk zD_46_ok 23 rfl) rfl ?_
    refine E_getR (pc := 41) (ci := 6) (f := 9) (r := (r1 + 1)) (zDk zD_46_ok 24 rfl) zc_46 (by decide +kernel) (by decide) hr1 (zg_6_9 hr1) (zh_6_9 hr1) ?_
    refine E_aload_n (pc := 44) (zDk zD_46_ok 25 rfl) rfl ?_
    refine E_getI (pc := 45) (ci := 6) (f := 5) (zDk zD_46_ok 26 rfl) zc_46 (by decide +kernel) (by decide) hr1 ?_
    refine E_iload_n (pc := 48) (zDk zD_46_ok 27 rfl) rfl ?_
    obtain ⟨M49, e49, h⟩ := zS_bind h
    refine E_iastore (pc := 49) (zDk zD_46_ok 28 rfl) e49 ?_
    refine E_aload_n (pc := 50) (zDk zD_46_ok 29 rfl) rfl ?_
    refine E_getR (pc := 51) (ci := 6) (f := 10) (r := (r1 + 2)) (zDk zD_46_ok 30 rfl) zc_46 (by decide +kernel) (by decide) hr1 (zg_6_10 hr1) (zh_6_10 hr1) ?_
    refine E_aload_n (pc := 54) (zDk zD_46_ok 31 rfl) rfl ?_
    refine E_getI (pc := 55) (ci := 6) (f := 5) (zDk zD_46_ok 32 rfl) zc_46 (by decide +kernel) (by decide) hr1 ?_
    refine E_aload_n (pc := 58) (zDk zD_46_ok 33 rfl) rfl ?_
    refine E_iconst (pc := 59) (zDk zD_46_ok 34 rfl) (by decide +kernel) ?_
    refine E_aload_n (pc := 60) (zDk zD_46_ok 35 rfl) rfl ?_
    refine E_getI (pc := 61) (ci := 6) (f := 0) (zDk zD_46_ok 36 rfl) zc_46 (by decide +kernel) (by decide) hr1 ?_
    refine E_iconst (pc := 64) (zDk zD_46_ok 37 rfl) (by decide +kernel) ?_
    refine W_isub (pc := 65) (zDk zD_46_ok 38 rfl) ?_
    refine E_iconst (pc := 66) (zDk zD_46_ok 39 rfl) (by decide +kernel) ?_
    refine E_iload_n (pc := 67) (zDk zD_46_ok 40 rfl) rfl ?_
    refine E_ishl (pc := 68) (zDk zD_46_ok 41 rfl) ?_
    obtain ⟨r69_, e69, h⟩ := zS_bind h
    refine E_virI (pc := 69) (c := 54) (r := 1) (as := [.inl (0 : Int), .inl (w32 ((M49 r1 0) - (1 : Int))), .inl (zshl (1 : Int) r30_.1)]) (rest := [.inl (M49 r1 5), .inr (.inr (r1 + 2))]) (zDk zD_46_ok 42 rfl) zc_46 (by decide +kernel) zk_54 ⟨(Nat.le_of_ble_eq_true rfl), rfl, rfl⟩ (Nat.le_of_ble_eq_true rfl) (zr_54 _) (Nat.lt_of_lt_of_le (by decide) hq) (by rw [zm_54]; exact (Nat.le_of_ble_eq_true rfl)) ⟨zc_54, by decide⟩ zis_4_1 (ok_lR_takeNumber ⟨r69_, e69, ?_⟩)
    obtain ⟨M72, e72, h⟩ := zS_bind h
    refine E_iastore (pc := 72) (zDk zD_46_ok 43 rfl) e72 ?_
    refine E_aload_n (pc := 73) (zDk zD_46_ok 44 rfl) rfl ?_
    refine E_dup (pc := 74) (zDk zD_46_ok 45 rfl) rfl ?_
    refine E_getI (pc := 75) (ci := 6) (f := 5) (zDk zD_46_ok 46 rfl) zc_46 (by decide +kernel) (by decide) hr1 ?_
    refine E_iconst (pc := 78) (zDk zD_46_ok 47 rfl) (by decide +kernel) ?_
    refine W_iadd (pc := 79) (zDk zD_46_ok 48 rfl) ?_
    obtain ⟨M80, e80, h⟩ := zS_bind h
    refine W_putI (pc := 80) (ci := 6) (f := 5) (zDk zD_46_ok 49 rfl) zc_46 (by decide +kernel) (by decide) hr1 (Option.some.inj e80) ?_
    have h := zS_some h
    exact E_return (x := ()) (pc := 83) (zDk zD_46_ok 50 rfl) zt_46 h
  · have h := zS_f h (Int.not_lt.mpr (F_lt hz))
    refine E_aload_n (pc := 9) (zDk zD_46_ok 4 rfl) rfl ?_
    refine E_iconst (pc := 10) (zDk zD_46_ok 5 rfl) (by decide +kernel) ?_
    obtain ⟨M11, e11, h⟩ := zS_bind h
    refine E_virV (pc := 11) (c := 51) (r := 1) (as := [.inl (3 : Int)]) (rest := []) (zDk zD_46_ok 6 rfl) zc_46 (by decide +kernel) zk_51 ⟨(Nat.le_of_ble_eq_true rfl), rfl, rfl⟩ (Nat.le_of_ble_eq_true rfl) (zr_51 _) (Nat.lt_of_lt_of_le (by decide) hq) (by rw [zm_51]; exact (Nat.le_of_ble_eq_true rfl)) ⟨zc_51, by decide⟩ zis_4_1 (ok_lR_fail ⟨M11, e11, ?_⟩)
    have h := zS_some h
    exact E_return (x := ()) (pc := 14) (zDk zD_46_ok 7 rfl) zt_46 h
def zD_47 : List (Nat × Instr × Nat) := [(0, .aload_n (1), 1), (1, .getfield (117), 3), (4, .iconst (4), 1), (5, .if_icmp .lt (9), 3), (8, .aload_n (0), 1), (9, .iconst (3), 1), (10, .invokevirtual (73), 3), (13, .return_, 1), (14, .aload_n (0), 1), (15, .ldc (58), 2), (17, .invokevirtual (82), 3), (20, .aload_n (0), 1), (21, .iconst (0), 1), (22, .aload_n (1), 1), (23, .getfield (92), 3), (26, .iconst (1), 1), (27, .isub, 1), (28, .iconst (0), 1), (29, .invokevirtual (88), 3), (32, .istore_n (2), 1), (33, .aload_n (0), 1), (34, .ldc (120), 2), (36, .invokevirtual (82), 3), (39, .aload_n (1), 1), (40, .getfield (122), 3), (43, .iload_n (2), 1), (44, .dup2, 1), (45, .iaload, 1), (46, .aload_n (0), 1), (47, .iconst (1), 1), (48, .bipush (20), 2), (50, .iconst (0), 1), (51, .invokevirtual (88), 3), (54, .iadd, 1), (55, .iastore, 1), (56, .aload_n (1), 1), (57, .dup, 1), (58, .getfield (117), 3), (61, .iconst (1), 1), (62, .iadd, 1), (63, .putfield (117), 3), (66, .return_, 1)]
set_option maxRecDepth 100000 in
theorem zD_47_ok : zDo 47 zD_47 = true := by decide +kernel
theorem zc_47 : zcls 47 = 4 := by decide +kernel
theorem zm_47 : zml 47 = 3 := by decide +kernel
theorem zt_47 : zrt 47 = none := by decide +kernel
theorem zk_47 : zkd 47 = 1 ∧ znp 47 + 1 = 2 := by decide +kernel
theorem zr_47 (as : List zV) : zrk 47 as = 6 := by unfold zrk; rw [if_neg (by decide)]; decide +kernel
def lR_readWell (r1 : Nat) (M : Nat → Nat → Int) : Option (Nat → Nat → Int) :=
    (if zis 6 r1 = true then
    (if (M r1 6) < (4 : Int) then
    ((lR_takeWord 5010 M).bind (fun M17 =>
    ((lR_takeNumber (0 : Int) (w32 ((M17 r1 0) - (1 : Int))) (0 : Int) M17).bind (fun r29_ =>
    ((lR_takeWord 5011 r29_.2).bind (fun M36 =>
    ((rdI (r1 + 3) r29_.1 M36).bind (fun v45 =>
    ((lR_takeNumber (1 : Int) (20 : Int) (0 : Int) M36).bind (fun r51_ =>
    ((wrI (r1 + 3) r29_.1 (w32 (v45 + r51_.1)) r51_.2).bind (fun M55 =>
    ((some (zup M55 r1 6 (w32 ((M55 r1 6) + (1 : Int))))).bind (fun M63 =>
    (some M63)))))))))))))))
    else
    ((lR_fail (3 : Int) M).bind (fun M10 =>
    (some M10))))
    else none)
set_option maxRecDepth 100000 in
theorem ok_lR_readWell {sc : zSc} {r1 : Nat} {M : Nat → Nat → Int} {P : (Nat → Nat → Int) → Prop} (h : zS (lR_readWell r1 M) P) : zCv sc 47 [.inr (.inr 1), .inr (.inr r1)] M P := by
  have ea : zarg (zml 47) [.inr (.inr 1), .inr (.inr r1)] = [some (.inr (.inr 1)), some (.inr (.inr r1)), none] := by rw [zm_47]; rfl
  unfold zCv zCw
  rw [ea, zr_47]
  have hq : 6 ≤ 6 := Nat.le_refl _
  unfold lR_readWell at h
  have h := zS_mono h (fun x hx => (⟨rfl, hx⟩ : (none : Option zV) = none ∧ P x))
  obtain ⟨hr1, h⟩ := zS_c h
  skip
  refine E_aload_n (pc := 0) (zDk zD_47_ok 0 rfl) rfl ?_
  refine E_getI (pc := 1) (ci := 6) (f := 6) (zDk zD_47_ok 1 rfl) zc_47 (by decide +kernel) (by decide) hr1 ?_
  refine E_iconst (pc := 4) (zDk zD_47_ok 2 rfl) (by decide +kernel) ?_
  refine E_icmp (pc := 5) (t := 14) (zDk zD_47_ok 3 rfl) rfl (fun hz => ?_) (fun hz => ?_)
  · have h := zS_t h (T_lt hz)
    refine E_aload_n (pc := 14) (zDk zD_47_ok 8 rfl) rfl ?_
    refine E_ldc (pc := 15) (v := .inr (.inr 5010)) (zDk zD_47_ok 9 rfl) zc_47 (by decide +kernel) ?_
    obtain ⟨M17, e17, h⟩ := zS_bind h
    refine E_virV (pc := 17) (c := 52) (r := 1) (as := [.inr (.inr 5010)]) (rest := []) (zDk zD_47_ok 10 rfl) zc_47 (by decide +kernel) zk_52 ⟨(Nat.le_of_ble_eq_true rfl), rfl, rfl⟩ (Nat.le_of_ble_eq_true rfl) (zr_52 _) (Nat.lt_of_lt_of_le (by decide) hq) (by rw [zm_52]; exact (Nat.le_of_ble_eq_true rfl)) ⟨zc_52, by decide⟩ zis_4_1 (ok_lR_takeWord ⟨M17, e17, ?_⟩)
    refine E_aload_n (pc := 20) (zDk zD_47_ok 11 rfl) rfl ?_
    refine E_iconst (pc := 21) (zDk zD_47_ok 12 rfl) (by decide +kernel) ?_
    refine E_aload_n (pc := 22) (zDk zD_47_ok 13 rfl) rfl ?_
    refine E_getI (pc := 23) (ci := 6) (f := 0) (zDk zD_47_ok 14 rfl) zc_47 (by decide +kernel) (by decide) hr1 ?_
    refine E_iconst (pc := 26) (zDk zD_47_ok 15 rfl) (by decide +kernel) ?_
    refine W_isub (pc := 27) (zDk zD_47_ok 16 rfl) ?_
    refine E_iconst (pc := 28) (zDk zD_47_ok 17 rfl) (by decide +kernel) ?_
    obtain ⟨r29_, e29, h⟩ := zS_bind h
    refine E_virI (pc := 29) (c := 54) (r := 1) (as := [.inl (0 : Int), .inl (w32 ((M17 r1 0) - (1 : Int))), .inl (0 : Int)]) (rest := []) (zDk zD_47_ok 18 rfl) zc_47 (by decide +kernel) zk_54 ⟨(Nat.le_of_ble_eq_true rfl), rfl, rfl⟩ (Nat.le_of_ble_eq_true rfl) (zr_54 _) (Nat.lt_of_lt_of_le (by decide) hq) (by rw [zm_54]; exact (Nat.le_of_ble_eq_true rfl)) ⟨zc_54, by decide⟩ zis_4_1 (ok_lR_takeNumber ⟨r29_, e29, ?_⟩)
    refine W_istore_n (pc := 32) (L' := [some (.inr (.inr 1)), some (.inr (.inr r1)), some (.inl r29_.1)]) (zDk zD_47_ok 19 rfl) zm_47 (by decide) rfl ?_
    refine E_aload_n (pc := 33) (zDk zD_47_ok 20 rfl) rfl ?_
    refine E_ldc (pc := 34) (v := .inr (.inr 5011)) (zDk zD_47_ok 21 rfl) zc_47 (by decide +kernel) ?_
    obtain ⟨M36, e36, h⟩ := zS_bind h
    refine E_virV (pc := 36) (c := 52) (r := 1) (as := [.inr (.inr 5011)]) (rest := []) (zDk zD_47_ok 22 rfl) zc_47 (by decide +kernel) zk_52 ⟨(Nat.le_of_ble_eq_true rfl), rfl, rfl⟩ (Nat.le_of_ble_eq_true rfl) (zr_52 _) (Nat.lt_of_lt_of_le (by decide) hq) (by rw [zm_52]; exact (Nat.le_of_ble_eq_true rfl)) ⟨zc_52, by decide⟩ zis_4_1 (ok_lR_takeWord ⟨M36, e36, ?_⟩)
    refine E_aload_n (pc := 39) (zDk zD_47_ok 23 rfl) rfl ?_
    refine E_getR (pc := 40) (ci := 6) (f := 11) (r := (r1 + 3)) (zDk zD_47_ok 24 rfl) zc_47 (by decide +kernel) (by decide) hr1 (zg_6_11 hr1) (zh_6_11 hr1) ?_
    refine E_iload_n (pc := 43) (zDk zD_47_ok 25 rfl) rfl ?_
    refine E_dup2 (pc := 44) (zDk zD_47_ok 26 rfl) rfl rfl ?_
    obtain ⟨v45, e45, h⟩ := zS_bind h
    refine E_iaload (pc := 45) (zDk zD_47_ok 27 rfl) e45 ?_
    refine E_aload_n (pc := 46) (zDk zD_47_ok 28 rfl) rfl ?_
    refine E_iconst (pc := 47) (zDk zD_47_ok 29 rfl) (by decide +kernel) ?_
    refine E_bipush (pc := 48) (zDk zD_47_ok 30 rfl) (by decide +kernel) ?_
    refine E_iconst (pc := 50) (zDk zD_47_ok 31 rfl) (by decide +kernel) ?_
    obtain ⟨r51_, e51, h⟩ := zS_bind h
    refine E_virI (pc := 51) (c := 54) (r := 1) (as := [.inl (1 : Int), .inl (20 : Int), .inl (0 : Int)]) (rest := [.inl v45, .inl r29_.1, .inr (.inr (r1 + 3))]) (zDk zD_47_ok 32 rfl) zc_47 (by decide +kernel) zk_54 ⟨(Nat.le_of_ble_eq_true rfl), rfl, rfl⟩ (Nat.le_of_ble_eq_true rfl) (zr_54 _) (Nat.lt_of_lt_of_le (by decide) hq) (by rw [zm_54]; exact (Nat.le_of_ble_eq_true rfl)) ⟨zc_54, by decide⟩ zis_4_1 (ok_lR_takeNumber ⟨r51_, e51, ?_⟩)
    refine W_iadd (pc := 54) (zDk zD_47_ok 33 rfl) ?_
    obtain ⟨M55, e55, h⟩ := zS_bind h
    refine E_iastore (pc := 55) (zDk zD_47_ok 34 rfl) e55 ?_
    refine E_aload_n (pc := 56) (zDk zD_47_ok 35 rfl) rfl ?_
    refine E_dup (pc := 57) (zDk zD_47_ok 36 rfl) rfl ?_
    refine E_getI (pc := 58) (ci := 6) (f := 6) (zDk zD_47_ok 37 rfl) zc_47 (by decide +kernel) (by decide) hr1 ?_
    refine E_iconst (pc := 61) (zDk zD_47_ok 38 rfl) (by decide +kernel) ?_
    refine W_iadd (pc := 62) (zDk zD_47_ok 39 rfl) ?_
    obtain ⟨M63, e63, h⟩ := zS_bind h
    refine W_putI (pc := 63) (ci := 6) (f := 6) (zDk zD_47_ok 40 rfl) zc_47 (by decide +kernel) (by decide) hr1 (Option.some.inj e63) ?_
    have h := zS_some h
    exact E_return (x := ()) (pc := 66) (zDk zD_47_ok 41 rfl) zt_47 h
  · have h := zS_f h (Int.not_lt.mpr (F_lt hz))
    refine E_aload_n (pc := 8) (zDk zD_47_ok 4 rfl) rfl ?_
    refine E_iconst (pc := 9) (zDk zD_47_ok 5 rfl) (by decide +kernel) ?_
    obtain ⟨M10, e10, h⟩ := zS_bind h
    refine E_virV (pc := 10) (c := 51) (r := 1) (as := [.inl (3 : Int)]) (rest := []) (zDk zD_47_ok 6 rfl) zc_47 (by decide +kernel) zk_51 ⟨(Nat.le_of_ble_eq_true rfl), rfl, rfl⟩ (Nat.le_of_ble_eq_true rfl) (zr_51 _) (Nat.lt_of_lt_of_le (by decide) hq) (by rw [zm_51]; exact (Nat.le_of_ble_eq_true rfl)) ⟨zc_51, by decide⟩ zis_4_1 (ok_lR_fail ⟨M10, e10, ?_⟩)
    have h := zS_some h
    exact E_return (x := ()) (pc := 13) (zDk zD_47_ok 7 rfl) zt_47 h
def zD_49 : List (Nat × Instr × Nat) := [(0, .aload_n (1), 1), (1, .getfield (146), 3), (4, .iload_n (2), 1), (5, .iconst (0), 1), (6, .iastore, 1), (7, .iconst (0), 1), (8, .istore_n (3), 1), (9, .iload_n (3), 1), (10, .bipush (8), 2), (12, .if_icmp .ge (56), 3), (15, .aload_n (0), 1), (16, .ldc (149), 2), (18, .invokevirtual (51), 3), (21, .ifCond .eq (47), 3), (24, .aload_n (0), 1), (25, .ldc (149), 2), (27, .invokevirtual (82), 3), (30, .aload_n (1), 1), (31, .getfield (151), 3), (34, .iload_n (2), 1), (35, .bipush (8), 2), (37, .imul, 1), (38, .iload_n (3), 1), (39, .iadd, 1), (40, .aload_n (0), 1), (41, .iconst (0), 1), (42, .aload_n (1), 1), (43, .getfield (92), 3), (46, .iconst (1), 1), (47, .isub, 1), (48, .iconst (0), 1), (49, .invokevirtual (88), 3), (52, .iastore, 1), (53, .aload_n (1), 1), (54, .getfield (146), 3), (57, .iload_n (2), 1), (58, .iload_n (3), 1), (59, .iconst (1), 1), (60, .iadd, 1), (61, .iastore, 1), (62, .iinc (3) (1), 3), (65, .goto (-56), 3), (68, .aload_n (0), 1), (69, .ldc (149), 2), (71, .invokevirtual (51), 3), (74, .ifCond .eq (8), 3), (77, .aload_n (0), 1), (78, .iconst (3), 1), (79, .invokevirtual (73), 3), (82, .return_, 1)]
set_option maxRecDepth 100000 in
theorem zD_49_ok : zDo 49 zD_49 = true := by decide +kernel
theorem zc_49 : zcls 49 = 4 := by decide +kernel
theorem zm_49 : zml 49 = 4 := by decide +kernel
theorem zt_49 : zrt 49 = none := by decide +kernel
theorem zk_49 : zkd 49 = 1 ∧ znp 49 + 1 = 3 := by decide +kernel
theorem zr_49 (as : List zV) : zrk 49 as = 6 := by unfold zrk; rw [if_neg (by decide)]; decide +kernel
def lR_readWalk_c68 (r1 : Nat) (x2 : Int) (M : Nat → Nat → Int) : Option (Nat → Nat → Int) :=
    ((lR_isWord 5016 M).bind (fun v71 =>
    (if v71 = 0 then
    (some M)
    else
    ((lR_fail (3 : Int) M).bind (fun M79 =>
    (some M79))))))
set_option maxRecDepth 100000 in
theorem ok_lR_readWalk_c68 {sc : zSc} {q : Nat} {P : Option zV → (Nat → Nat → Int) → Prop} (hq : 6 ≤ q) (r1 : Nat) (x2 : Int) (hr1 : zis 6 r1 = true) : ∀ (M : Nat → Nat → Int) (d3 : Option zV), zS (lR_readWalk_c68 r1 x2 M) (fun M0 => P none M0) → zWp sc q 49 68 [some (.inr (.inr 1)), some (.inr (.inr r1)), some (.inl x2), d3] [] M P := by
  intro M d3 h
  unfold lR_readWalk_c68 at h
  refine E_aload_n (pc := 68) (zDk zD_49_ok 42 rfl) rfl ?_
  refine E_ldc (pc := 69) (v := .inr (.inr 5016)) (zDk zD_49_ok 43 rfl) zc_49 (by decide +kernel) ?_
  obtain ⟨v71, e71, h⟩ := zS_bind h
  refine E_virI (pc := 71) (c := 55) (r := 1) (as := [.inr (.inr 5016)]) (rest := []) (zDk zD_49_ok 44 rfl) zc_49 (by decide +kernel) zk_55 ⟨(Nat.le_of_ble_eq_true rfl), rfl, rfl⟩ (Nat.le_of_ble_eq_true rfl) (zr_55 _) (Nat.lt_of_lt_of_le (by decide) hq) (by rw [zm_55]; exact (Nat.le_of_ble_eq_true rfl)) ⟨zc_55, by decide⟩ zis_4_1 (ok_lR_isWord ⟨v71, e71, ?_⟩)
  refine E_if (pc := 74) (t := 82) (zDk zD_49_ok 45 rfl) rfl (fun hz => ?_) (fun hz => ?_)
  · have h := zS_t h (T_eq hz)
    have h := zS_some h
    exact E_return (x := ()) (pc := 82) (zDk zD_49_ok 49 rfl) zt_49 h
  · have h := zS_f h (F_eq hz)
    refine E_aload_n (pc := 77) (zDk zD_49_ok 46 rfl) rfl ?_
    refine E_iconst (pc := 78) (zDk zD_49_ok 47 rfl) (by decide +kernel) ?_
    obtain ⟨M79, e79, h⟩ := zS_bind h
    refine E_virV (pc := 79) (c := 51) (r := 1) (as := [.inl (3 : Int)]) (rest := []) (zDk zD_49_ok 48 rfl) zc_49 (by decide +kernel) zk_51 ⟨(Nat.le_of_ble_eq_true rfl), rfl, rfl⟩ (Nat.le_of_ble_eq_true rfl) (zr_51 _) (Nat.lt_of_lt_of_le (by decide) hq) (by rw [zm_51]; exact (Nat.le_of_ble_eq_true rfl)) ⟨zc_51, by decide⟩ zis_4_1 (ok_lR_fail ⟨M79, e79, ?_⟩)
    have h := zS_some h
    exact E_return (x := ()) (pc := 82) (zDk zD_49_ok 49 rfl) zt_49 h
def lR_readWalk_c9 (r1 : Nat) (x2 : Int) : Nat → Int → (Nat → Nat → Int) → Option (Nat → Nat → Int)
  | 0, _, _ => none
  | n + 1, y3, M =>
    (if y3 < (8 : Int) then
    ((lR_isWord 5016 M).bind (fun v18 =>
    (if v18 = 0 then
    (lR_readWalk_c68 r1 x2 M)
    else
    ((lR_takeWord 5016 M).bind (fun M27 =>
    ((lR_takeNumber (0 : Int) (w32 ((M27 r1 0) - (1 : Int))) (0 : Int) M27).bind (fun r49_ =>
    ((wrI (r1 + 8) (w32 ((w32 (x2 * (8 : Int))) + y3)) r49_.1 r49_.2).bind (fun M52 =>
    ((wrI (r1 + 7) x2 (w32 (y3 + (1 : Int))) M52).bind (fun M61 =>
    ((lR_readWalk_c9 r1 x2 n) (w32 (y3 + 1)) M61))))))))))))
    else
    (lR_readWalk_c68 r1 x2 M))
set_option maxRecDepth 100000 in
theorem ok_lR_readWalk_c9 {sc : zSc} {q : Nat} {P : Option zV → (Nat → Nat → Int) → Prop} (hq : 6 ≤ q) (r1 : Nat) (x2 : Int) (hr1 : zis 6 r1 = true) : ∀ (n : Nat) (y3 : Int) (M : Nat → Nat → Int), zS (lR_readWalk_c9 r1 x2 n y3 M) (fun M0 => P none M0) → zWp sc q 49 9 [some (.inr (.inr 1)), some (.inr (.inr r1)), some (.inl x2), some (.inl y3)] [] M P := by
  intro n
  induction n with
  | zero => intro y3 M h; exact (zS_none h).elim
  | succ n ih =>
    intro y3 M h
    rw [lR_readWalk_c9] at h
    refine E_iload_n (pc := 9) (zDk zD_49_ok 7 rfl) rfl ?_
    refine E_bipush (pc := 10) (zDk zD_49_ok 8 rfl) (by decide +kernel) ?_
    refine E_icmp (pc := 12) (t := 68) (zDk zD_49_ok 9 rfl) rfl (fun hz => ?_) (fun hz => ?_)
    · have h := zS_f h (Int.not_lt.mpr (T_ge hz))
      exact ok_lR_readWalk_c68 hq r1 x2 hr1 M (some (.inl y3)) h
    · have h := zS_t h (F_ge hz)
      refine E_aload_n (pc := 15) (zDk zD_49_ok 10 rfl) rfl ?_
      refine E_ldc (pc := 16) (v := .inr (.inr 5016)) (zDk zD_49_ok 11 rfl) zc_49 (by decide +kernel) ?_
      obtain ⟨v18, e18, h⟩ := zS_bind h
      refine E_virI (pc := 18) (c := 55) (r := 1) (as := [.inr (.inr 5016)]) (rest := []) (zDk zD_49_ok 12 rfl) zc_49 (by decide +kernel) zk_55 ⟨(Nat.le_of_ble_eq_true rfl), rfl, rfl⟩ (Nat.le_of_ble_eq_true rfl) (zr_55 _) (Nat.lt_of_lt_of_le (by decide) hq) (by rw [zm_55]; exact (Nat.le_of_ble_eq_true rfl)) ⟨zc_55, by decide⟩ zis_4_1 (ok_lR_isWord ⟨v18, e18, ?_⟩)
      refine E_if (pc := 21) (t := 68) (zDk zD_49_ok 13 rfl) rfl (fun hz => ?_) (fun hz => ?_)
      · have h := zS_t h (T_eq hz)
        exact ok_lR_readWalk_c68 hq r1 x2 hr1 M (some (.inl y3)) h
      · have h := zS_f h (F_eq hz)
        refine E_aload_n (pc := 24) (zDk zD_49_ok 14 rfl) rfl ?_
        refine E_ldc (pc := 25) (v := .inr (.inr 5016)) (zDk zD_49_ok 15 rfl) zc_49 (by decide +kernel) ?_
        obtain ⟨M27, e27, h⟩ := zS_bind h
        refine E_virV (pc := 27) (c := 52) (r := 1) (as := [.inr (.inr 5016)]) (rest := []) (zDk zD_49_ok 16 rfl) zc_49 (by decide +kernel) zk_52 ⟨(Nat.le_of_ble_eq_true rfl), rfl, rfl⟩ (Nat.le_of_ble_eq_true rfl) (zr_52 _) (Nat.lt_of_lt_of_le (by decide) hq) (by rw [zm_52]; exact (Nat.le_of_ble_eq_true rfl)) ⟨zc_52, by decide⟩ zis_4_1 (ok_lR_takeWord ⟨M27, e27, ?_⟩)
        refine E_aload_n (pc := 30) (zDk zD_49_ok 17 rfl) rfl ?_
        refine E_getR (pc := 31) (ci := 6) (f := 16) (r := (r1 + 8)) (zDk zD_49_ok 18 rfl) zc_49 (by decide +kernel) (by decide) hr1 (zg_6_16 hr1) (zh_6_16 hr1) ?_
        refine E_iload_n (pc := 34) (zDk zD_49_ok 19 rfl) rfl ?_
        refine E_bipush (pc := 35) (zDk zD_49_ok 20 rfl) (by decide +kernel) ?_
        refine W_imul (pc := 37) (zDk zD_49_ok 21 rfl) ?_
        refine E_iload_n (pc := 38) (zDk zD_49_ok 22 rfl) rfl ?_
        refine W_iadd (pc := 39) (zDk zD_49_ok 23 rfl) ?_
        refine E_aload_n (pc := 40) (zDk zD_49_ok 24 rfl) rfl ?_
        refine E_iconst (pc := 41) (zDk zD_49_ok 25 rfl) (by decide +kernel) ?_
        refine E_aload_n (pc := 42) (zDk zD_49_ok 26 rfl) rfl ?_
        refine E_getI (pc := 43) (ci := 6) (f := 0) (zDk zD_49_ok 27 rfl) zc_49 (by decide +kernel) (by decide) hr1 ?_
        refine E_iconst (pc := 46) (zDk zD_49_ok 28 rfl) (by decide +kernel) ?_
        refine W_isub (pc := 47) (zDk zD_49_ok 29 rfl) ?_
        refine E_iconst (pc := 48) (zDk zD_49_ok 30 rfl) (by decide +kernel) ?_
        obtain ⟨r49_, e49, h⟩ := zS_bind h
        refine E_virI (pc := 49) (c := 54) (r := 1) (as := [.inl (0 : Int), .inl (w32 ((M27 r1 0) - (1 : Int))), .inl (0 : Int)]) (rest := [.inl (w32 ((w32 (x2 * (8 : Int))) + y3)), .inr (.inr (r1 + 8))]) (zDk zD_49_ok 31 rfl) zc_49 (by decide +kernel) zk_54 ⟨(Nat.le_of_ble_eq_true rfl), rfl, rfl⟩ (Nat.le_of_ble_eq_true rfl) (zr_54 _) (Nat.lt_of_lt_of_le (by decide) hq) (by rw [zm_54]; exact (Nat.le_of_ble_eq_true rfl)) ⟨zc_54, by decide⟩ zis_4_1 (ok_lR_takeNumber ⟨r49_, e49, ?_⟩)
        obtain ⟨M52, e52, h⟩ := zS_bind h
        refine E_iastore (pc := 52) (zDk zD_49_ok 32 rfl) e52 ?_
        refine E_aload_n (pc := 53) (zDk zD_49_ok 33 rfl) rfl ?_
        refine E_getR (pc := 54) (ci := 6) (f := 15) (r := (r1 + 7)) (zDk zD_49_ok 34 rfl) zc_49 (by decide +kernel) (by decide) hr1 (zg_6_15 hr1) (zh_6_15 hr1) ?_
        refine E_iload_n (pc := 57) (zDk zD_49_ok 35 rfl) rfl ?_
        refine E_iload_n (pc := 58) (zDk zD_49_ok 36 rfl) rfl ?_
        refine E_iconst (pc := 59) (zDk zD_49_ok 37 rfl) (by decide +kernel) ?_
        refine W_iadd (pc := 60) (zDk zD_49_ok 38 rfl) ?_
        obtain ⟨M61, e61, h⟩ := zS_bind h
        refine E_iastore (pc := 61) (zDk zD_49_ok 39 rfl) e61 ?_
        refine W_iinc (pc := 62) (L' := [some (.inr (.inr 1)), some (.inr (.inr r1)), some (.inl x2), some (.inl (w32 (y3 + 1)))]) (zDk zD_49_ok 40 rfl) rfl zm_49 (by decide) rfl ?_
        refine E_goto (pc := 65) (t := 9) (zDk zD_49_ok 41 rfl) rfl ?_
        exact (ih) (w32 (y3 + 1)) M61 h
def lR_readWalk (r1 : Nat) (x2 : Int) (M : Nat → Nat → Int) : Option (Nat → Nat → Int) :=
    (if zis 6 r1 = true then
    ((wrI (r1 + 7) x2 (0 : Int) M).bind (fun M6 =>
    (lR_readWalk_c9 r1 x2 zN (0 : Int) M6)))
    else none)
set_option maxRecDepth 100000 in
theorem ok_lR_readWalk {sc : zSc} {r1 : Nat} {x2 : Int} {M : Nat → Nat → Int} {P : (Nat → Nat → Int) → Prop} (h : zS (lR_readWalk r1 x2 M) P) : zCv sc 49 [.inr (.inr 1), .inr (.inr r1), .inl x2] M P := by
  have ea : zarg (zml 49) [.inr (.inr 1), .inr (.inr r1), .inl x2] = [some (.inr (.inr 1)), some (.inr (.inr r1)), some (.inl x2), none] := by rw [zm_49]; rfl
  unfold zCv zCw
  rw [ea, zr_49]
  have hq : 6 ≤ 6 := Nat.le_refl _
  unfold lR_readWalk at h
  have h := zS_mono h (fun x hx => (⟨rfl, hx⟩ : (none : Option zV) = none ∧ P x))
  obtain ⟨hr1, h⟩ := zS_c h
  skip
  refine E_aload_n (pc := 0) (zDk zD_49_ok 0 rfl) rfl ?_
  refine E_getR (pc := 1) (ci := 6) (f := 15) (r := (r1 + 7)) (zDk zD_49_ok 1 rfl) zc_49 (by decide +kernel) (by decide) hr1 (zg_6_15 hr1) (zh_6_15 hr1) ?_
  refine E_iload_n (pc := 4) (zDk zD_49_ok 2 rfl) rfl ?_
  refine E_iconst (pc := 5) (zDk zD_49_ok 3 rfl) (by decide +kernel) ?_
  obtain ⟨M6, e6, h⟩ := zS_bind h
  refine E_iastore (pc := 6) (zDk zD_49_ok 4 rfl) e6 ?_
  refine E_iconst (pc := 7) (zDk zD_49_ok 5 rfl) (by decide +kernel) ?_
  refine W_istore_n (pc := 8) (L' := [some (.inr (.inr 1)), some (.inr (.inr r1)), some (.inl x2), some (.inl (0 : Int))]) (zDk zD_49_ok 6 rfl) zm_49 (by decide) rfl ?_
  exact ok_lR_readWalk_c9 hq r1 x2 hr1 zN (0 : Int) M6 h
