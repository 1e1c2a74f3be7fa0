/-! Lifted methods 9 (written by wip/whole/lift.py): decode rows, functions, proofs. -/
def zD_50 : List (Nat × Instr × Nat) := [(0, .aload_n (1), 1), (1, .getfield (153), 3), (4, .bipush (6), 2), (6, .if_icmp .lt (9), 3), (9, .aload_n (0), 1), (10, .iconst (3), 1), (11, .invokevirtual (73), 3), (14, .return_, 1), (15, .aload_n (0), 1), (16, .ldc (68), 2), (18, .invokevirtual (82), 3), (21, .iconst (1), 1), (22, .aload_n (0), 1), (23, .iconst (0), 1), (24, .aload_n (1), 1), (25, .getfield (125), 3), (28, .iconst (1), 1), (29, .isub, 1), (30, .iconst (0), 1), (31, .invokevirtual (88), 3), (34, .ishl, 1), (35, .istore_n (2), 1), (36, .iload_n (2), 1), (37, .iconst (1), 1), (38, .aload_n (0), 1), (39, .iconst (0), 1), (40, .aload_n (1), 1), (41, .getfield (125), 3), (44, .iconst (1), 1), (45, .isub, 1), (46, .iload_n (2), 1), (47, .invokevirtual (88), 3), (50, .ishl, 1), (51, .ior, 1), (52, .istore_n (2), 1), (53, .aload_n (0), 1), (54, .getfield (36), 3), (57, .iconst (2), 1), (58, .if_icmp .ne (20), 3), (61, .iload_n (2), 1), (62, .iconst (1), 1), (63, .aload_n (0), 1), (64, .iconst (0), 1), (65, .aload_n (1), 1), (66, .getfield (125), 3), (69, .iconst (1), 1), (70, .isub, 1), (71, .iload_n (2), 1), (72, .invokevirtual (88), 3), (75, .ishl, 1), (76, .ior, 1), (77, .istore_n (2), 1), (78, .aload_n (1), 1), (79, .getfield (156), 3), (82, .aload_n (1), 1), (83, .getfield (153), 3), (86, .iload_n (2), 1), (87, .iastore, 1), (88, .aload_n (1), 1), (89, .dup, 1), (90, .getfield (153), 3), (93, .iconst (1), 1), (94, .iadd, 1), (95, .putfield (153), 3), (98, .return_, 1)]
set_option maxRecDepth 100000 in
theorem zD_50_ok : zDo 50 zD_50 = true := by decide +kernel
theorem zc_50 : zcls 50 = 4 := by decide +kernel
theorem zm_50 : zml 50 = 3 := by decide +kernel
theorem zt_50 : zrt 50 = none := by decide +kernel
theorem zk_50 : zkd 50 = 1 ∧ znp 50 + 1 = 2 := by decide +kernel
theorem zr_50 (as : List zV) : zrk 50 as = 6 := by unfold zrk; rw [if_neg (by decide)]; decide +kernel
def lR_readContract (r1 : Nat) (M : Nat → Nat → Int) : Option (Nat → Nat → Int) :=
    (if zis 6 r1 = true then
    (if (M r1 8) < (6 : Int) then
    ((lR_takeWord 5017 M).bind (fun M18 =>
    ((lR_takeNumber (0 : Int) (w32 ((M18 r1 7) - (1 : Int))) (0 : Int) M18).bind (fun r31_ =>
    ((lR_takeNumber (0 : Int) (w32 ((r31_.2 r1 7) - (1 : Int))) (zshl (1 : Int) r31_.1) r31_.2).bind (fun r47_ =>
    (if (r47_.2 1 4) = (2 : Int) then
    ((lR_takeNumber (0 : Int) (w32 ((r47_.2 r1 7) - (1 : Int))) (zor (zshl (1 : Int) r31_.1) (zshl (1 : Int) r47_.1)) r47_.2).bind (fun r72_ =>
    ((wrI (r1 + 9) (r72_.2 r1 8) (zor (zor (zshl (1 : Int) r31_.1) (zshl (1 : Int) r47_.1)) (zshl (1 : Int) r72_.1)) r72_.2).bind (fun M87 =>
    ((some (zup M87 r1 8 (w32 ((M87 r1 8) + (1 : Int))))).bind (fun M95 =>
    (some M95)))))))
    else
    ((wrI (r1 + 9) (r47_.2 r1 8) (zor (zshl (1 : Int) r31_.1) (zshl (1 : Int) r47_.1)) r47_.2).bind (fun M87 =>
    ((some (zup M87 r1 8 (w32 ((M87 r1 8) + (1 : Int))))).bind (fun M95 =>
    (some M95))))))))))))
    else
    ((lR_fail (3 : Int) M).bind (fun M11 =>
    (some M11))))
    else none)
set_option maxRecDepth 100000 in
theorem ok_lR_readContract {sc : zSc} {r1 : Nat} {M : Nat → Nat → Int} {P : (Nat → Nat → Int) → Prop} (h : zS (lR_readContract r1 M) P) : zCv sc 50 [.inr (.inr 1), .inr (.inr r1)] M P := by
  have ea : zarg (zml 50) [.inr (.inr 1), .inr (.inr r1)] = [some (.inr (.inr 1)), some (.inr (.inr r1)), none] := by rw [zm_50]; rfl
  unfold zCv zCw
  rw [ea, zr_50]
  have hq : 6 ≤ 6 := Nat.le_refl _
  unfold lR_readContract at h
  have h := zS_mono h (fun x hx => (⟨rfl, hx⟩ : (none : Option zV) = none ∧ P x))
  obtain ⟨hr1, h⟩ := zS_c h
  skip
  refine E_aload_n (pc := 0) (zDk zD_50_ok 0 rfl) rfl ?_
  refine E_getI (pc := 1) (ci := 6) (f := 8) (zDk zD_50_ok 1 rfl) zc_50 (by decide +kernel) (by decide) hr1 ?_
  refine E_bipush (pc := 4) (zDk zD_50_ok 2 rfl) (by decide +kernel) ?_
  refine E_icmp (pc := 6) (t := 15) (zDk zD_50_ok 3 rfl) rfl (fun hz => ?_) (fun hz => ?_)
  · have h := zS_t h (T_lt hz)
    refine E_aload_n (pc := 15) (zDk zD_50_ok 8 rfl) rfl ?_
    refine E_ldc (pc := 16) (v := .inr (.inr 5017)) (zDk zD_50_ok 9 rfl) zc_50 (by decide +kernel) ?_
    obtain ⟨M18, e18, h⟩ := zS_bind h
    refine E_virV (pc := 18) (c := 52) (r := 1) (as := [.inr (.inr 5017)]) (rest := []) (zDk zD_50_ok 10 rfl) zc_50 (by decide +kernel) zk_52 ⟨(Nat.le_of_ble_eq_true rfl), rfl, rfl⟩ (Nat.le_of_ble_eq_true rfl) (zr_52 _) (Nat.lt_of_lt_of_le (by decide) hq) (by rw [zm_52]; exact (Nat.le_of_ble_eq_true rfl)) ⟨zc_52, by decide⟩ zis_4_1 (ok_lR_takeWord ⟨M18, e18, ?_⟩)
    refine E_iconst (pc := 21) (zDk zD_50_ok 11 rfl) (by decide +kernel) ?_
    refine E_aload_n (pc := 22) (zDk zD_50_ok 12 rfl) rfl ?_
    refine E_iconst (pc := 23) (zDk zD_50_ok 13 rfl) (by decide +kernel) ?_
    refine E_aload_n (pc := 24) (zDk zD_50_ok 14 rfl) rfl ?_
    refine E_getI (pc := 25) (ci := 6) (f := 7) (zDk zD_50_ok 15 rfl) zc_50 (by decide +kernel) (by decide) hr1 ?_
    refine E_iconst (pc := 28) (zDk zD_50_ok 16 rfl) (by decide +kernel) ?_
    refine W_isub (pc := 29) (zDk zD_50_ok 17 rfl) ?_
    refine E_iconst (pc := 30) (zDk zD_50_ok 18 rfl) (by decide +kernel) ?_
    obtain ⟨r31_, e31, h⟩ := zS_bind h
    refine E_virI (pc := 31) (c := 54) (r := 1) (as := [.inl (0 : Int), .inl (w32 ((M18 r1 7) - (1 : Int))), .inl (0 : Int)]) (rest := [.inl (1 : Int)]) (zDk zD_50_ok 19 rfl) zc_50 (by decide +kernel) zk_54 ⟨(Nat.le_of_ble_eq_true rfl), rfl, rfl⟩ (Nat.le_of_ble_eq_true rfl) (zr_54 _) (Nat.lt_of_lt_of_le (by decide) hq) (by rw [zm_54]; exact (Nat.le_of_ble_eq_true rfl)) ⟨zc_54, by decide⟩ zis_4_1 (ok_lR_takeNumber ⟨r31_, e31, ?_⟩)
    refine E_ishl (pc := 34) (zDk zD_50_ok 20 rfl) ?_
    refine W_istore_n (pc := 35) (L' := [some (.inr (.inr 1)), some (.inr (.inr r1)), some (.inl (zshl (1 : Int) r31_.1))]) (zDk zD_50_ok 21 rfl) zm_50 (by decide) rfl ?_
    refine E_iload_n (pc := 36) (zDk zD_50_ok 22 rfl) rfl ?_
    refine E_iconst (pc := 37) (zDk zD_50_ok 23 rfl) (by decide +kernel) ?_
    refine E_aload_n (pc := 38) (zDk zD_50_ok 24 rfl) rfl ?_
    refine E_iconst (pc := 39) (zDk zD_50_ok 25 rfl) (by decide +kernel) ?_
    refine E_aload_n (pc := 40) (zDk zD_50_ok 26 rfl) rfl ?_
    refine E_getI (pc := 41) (ci := 6) (f := 7) (zDk zD_50_ok 27 rfl) zc_50 (by decide +kernel) (by decide) hr1 ?_
    refine E_iconst (pc := 44) (zDk zD_50_ok 28 rfl) (by decide +kernel) ?_
    refine W_isub (pc := 45) (zDk zD_50_ok 29 rfl) ?_
    refine E_iload_n (pc := 46) (zDk zD_50_ok 30 rfl) rfl ?_
    obtain ⟨r47_, e47, h⟩ := zS_bind h
    refine E_virI (pc := 47) (c := 54) (r := 1) (as := [.inl (0 : Int), .inl (w32 ((r31_.2 r1 7) - (1 : Int))), .inl (zshl (1 : Int) r31_.1)]) (rest := [.inl (1 : Int), .inl (zshl (1 : Int) r31_.1)]) (zDk zD_50_ok 31 rfl) zc_50 (by decide +kernel) zk_54 ⟨(Nat.le_of_ble_eq_true rfl), rfl, rfl⟩ (Nat.le_of_ble_eq_true rfl) (zr_54 _) (Nat.lt_of_lt_of_le (by decide) hq) (by rw [zm_54]; exact (Nat.le_of_ble_eq_true rfl)) ⟨zc_54, by decide⟩ zis_4_1 (ok_lR_takeNumber ⟨r47_, e47, ?_⟩)
    refine E_ishl (pc := 50) (zDk zD_50_ok 32 rfl) ?_
    refine E_ior (pc := 51) (zDk zD_50_ok 33 rfl) ?_
    refine W_istore_n (pc := 52) (L' := [some (.inr (.inr 1)), some (.inr (.inr r1)), some (.inl (zor (zshl (1 : Int) r31_.1) (zshl (1 : Int) r47_.1)))]) (zDk zD_50_ok 34 rfl) zm_50 (by decide) rfl ?_
    refine E_aload_n (pc := 53) (zDk zD_50_ok 35 rfl) rfl ?_
    refine E_getI (pc := 54) (ci := 4) (f := 4) (zDk zD_50_ok 36 rfl) zc_50 (by decide +kernel) (by decide) zis_4_1 ?_
    refine E_iconst (pc := 57) (zDk zD_50_ok 37 rfl) (by decide +kernel) ?_
    refine E_icmp (pc := 58) (t := 78) (zDk zD_50_ok 38 rfl) rfl (fun hz => ?_) (fun hz => ?_)
    · have h := zS_f h (T_ne hz)
      refine E_aload_n (pc := 78) (zDk zD_50_ok 52 rfl) rfl ?_
      refine E_getR (pc := 79) (ci := 6) (f := 17) (r := (r1 + 9)) (zDk zD_50_ok 53 rfl) zc_50 (by decide +kernel) (by decide) hr1 (zg_6_17 hr1) (zh_6_17 hr1) ?_
      refine E_aload_n (pc := 82) (zDk zD_50_ok 54 rfl) rfl ?_
      refine E_getI (pc := 83) (ci := 6) (f := 8) (zDk zD_50_ok 55 rfl) zc_50 (by decide +kernel) (by decide) hr1 ?_
      refine E_iload_n (pc := 86) (zDk zD_50_ok 56 rfl) rfl ?_
      obtain ⟨M87, e87, h⟩ := zS_bind h
      refine E_iastore (pc := 87) (zDk zD_50_ok 57 rfl) e87 ?_
      refine E_aload_n (pc := 88) (zDk zD_50_ok 58 rfl) rfl ?_
      refine E_dup (pc := 89) (zDk zD_50_ok 59 rfl) rfl ?_
      refine E_getI (pc := 90) (ci := 6) (f := 8) (zDk zD_50_ok 60 rfl) zc_50 (by decide +kernel) (by decide) hr1 ?_
      refine E_iconst (pc := 93) (zDk zD_50_ok 61 rfl) (by decide +kernel) ?_
      refine W_iadd (pc := 94) (zDk zD_50_ok 62 rfl) ?_
      obtain ⟨M95, e95, h⟩ := zS_bind h
      refine W_putI (pc := 95) (ci := 6) (f := 8) (zDk zD_50_ok 63 rfl) zc_50 (by decide +kernel) (by decide) hr1 (Option.some.inj e95) ?_
      have h := zS_some h
      exact E_return (x := ()) (pc := 98) (zDk zD_50_ok 64 rfl) zt_50 h
    · have h := zS_t h (F_ne hz)
      refine E_iload_n (pc := 61) (zDk zD_50_ok 39 rfl) rfl ?_
      refine E_iconst (pc := 62) (zDk zD_50_ok 40 rfl) (by decide +kernel) ?_
      refine E_aload_n (pc := 63) (zDk zD_50_ok 41 rfl) rfl ?_
      refine E_iconst (pc := 64) (zDk zD_50_ok 42 rfl) (by decide +kernel) ?_
      refine E_aload_n (pc := 65) (zDk zD_50_ok 43 rfl) rfl ?_
      refine E_getI (pc := 66) (ci := 6) (f := 7) (zDk zD_50_ok 44 rfl) zc_50 (by decide +kernel) (by decide) hr1 ?_
      refine E_iconst (pc := 69) (zDk zD_50_ok 45 rfl) (by decide +kernel) ?_
      refine W_isub (pc := 70) (zDk zD_50_ok 46 rfl) ?_
      refine E_iload_n (pc := 71) (zDk zD_50_ok 47 rfl) rfl ?_
      obtain ⟨r72_, e72, h⟩ := zS_bind h
      refine E_virI (pc := 72) (c := 54) (r := 1) (as := [.inl (0 : Int), .inl (w32 ((r47_.2 r1 7) - (1 : Int))), .inl (zor (zshl (1 : Int) r31_.1) (zshl (1 : Int) r47_.1))]) (rest := [.inl (1 : Int), .inl (zor (zshl (1 : Int) r31_.1) (zshl (1 : Int) r47_.1))]) (zDk zD_50_ok 48 rfl) zc_50 (by decide +kernel) zk_54 ⟨(Nat.le_of_ble_eq_true rfl), rfl, rfl⟩ (Nat.le_of_ble_eq_true rfl) (zr_54 _) (Nat.lt_of_lt_of_le (by decide) hq) (by rw [zm_54]; exact (Nat.le_of_ble_eq_true rfl)) ⟨zc_54, by decide⟩ zis_4_1 (ok_lR_takeNumber ⟨r72_, e72, ?_⟩)
      refine E_ishl (pc := 75) (zDk zD_50_ok 49 rfl) ?_
      refine E_ior (pc := 76) (zDk zD_50_ok 50 rfl) ?_
      refine W_istore_n (pc := 77) (L' := [some (.inr (.inr 1)), some (.inr (.inr r1)), some (.inl (zor (zor (zshl (1 : Int) r31_.1) (zshl (1 : Int) r47_.1)) (zshl (1 : Int) r72_.1)))]) (zDk zD_50_ok 51 rfl) zm_50 (by decide) rfl ?_
      refine E_aload_n (pc := 78) (zDk zD_50_ok 52 rfl) rfl ?_
      refine E_getR (pc := 79) (ci := 6) (f := 17) (r := (r1 + 9)) (zDk zD_50_ok 53 rfl) zc_50 (by decide +kernel) (by decide) hr1 (zg_6_17 hr1) (zh_6_17 hr1) ?_
      refine E_aload_n (pc := 82) (zDk zD_50_ok 54 rfl) rfl ?_
      refine E_getI (pc := 83) (ci := 6) (f := 8) (zDk zD_50_ok 55 rfl) zc_50 (by decide +kernel) (by decide) hr1 ?_
      refine E_iload_n (pc := 86) (zDk zD_50_ok 56 rfl) rfl ?_
      obtain ⟨M87, e87, h⟩ := zS_bind h
      refine E_iastore (pc := 87) (zDk zD_50_ok 57 rfl) e87 ?_
      refine E_aload_n (pc := 88) (zDk zD_50_ok 58 rfl) rfl ?_
      refine E_dup (pc := 89) (zDk zD_50_ok 59 rfl) rfl ?_
      refine E_getI (pc := 90) (ci := 6) (f := 8) (zDk zD_50_ok 60 rfl) zc_50 (by decide +kernel) (by decide) hr1 ?_
      refine E_iconst (pc := 93) (zDk zD_50_ok 61 rfl) (by decide +kernel) ?_
      refine W_iadd (pc := 94) (zDk zD_50_ok 62 rfl) ?_
      obtain ⟨M95, e95, h⟩ := zS_bind h
      refine W_putI (pc := 95) (ci := 6) (f := 8) (zDk zD_50_ok 63 rfl) zc_50 (by decide +kernel) (by decide) hr1 (Option.some.inj e95) ?_
      have h := zS_some h
      exact E_return (x := ()) (pc := 98) (zDk zD_50_ok 64 rfl) zt_50 h
  · have h := zS_f h (Int.not_lt.mpr (F_lt hz))
    refine E_aload_n (pc := 9) (zDk zD_50_ok 4 rfl) rfl ?_
    refine E_iconst (pc := 10) (zDk zD_50_ok 5 rfl) (by decide +kernel) ?_
    obtain ⟨M11, e11, h⟩ := zS_bind h
    refine E_virV (pc := 11) (c := 51) (r := 1) (as := [.inl (3 : Int)]) (rest := []) (zDk zD_50_ok 6 rfl) zc_50 (by decide +kernel) zk_51 ⟨(Nat.le_of_ble_eq_true rfl), rfl, rfl⟩ (Nat.le_of_ble_eq_true rfl) (zr_51 _) (Nat.lt_of_lt_of_le (by decide) hq) (by rw [zm_51]; exact (Nat.le_of_ble_eq_true rfl)) ⟨zc_51, by decide⟩ zis_4_1 (ok_lR_fail ⟨M11, e11, ?_⟩)
    have h := zS_some h
    exact E_return (x := ()) (pc := 14) (zDk zD_50_ok 7 rfl) zt_50 h
def zD_121 : List (Nat × Instr × Nat) := [(0, .aload_n (0), 1), (1, .iload_n (1), 1), (2, .iload_n (2), 1), (3, .invokevirtual (266), 3), (6, .ireturn, 1)]
set_option maxRecDepth 100000 in
theorem zD_121_ok : zDo 121 zD_121 = true := by decide +kernel
theorem zc_121 : zcls 121 = 7 := by decide +kernel
theorem zm_121 : zml 121 = 3 := by decide +kernel
theorem zt_121 : zrt 121 = (some (.int)) := by decide +kernel
theorem zk_121 : zkd 121 = 1 ∧ znp 121 + 1 = 3 := by decide +kernel
theorem zr_121 (as : List zV) : zrk 121 as = 6 := by unfold zrk; rw [if_neg (by decide)]; decide +kernel
def lX_homes (x1 : Int) (x2 : Int) (M : Nat → Nat → Int) : Option (Int × (Nat → Nat → Int)) :=
    ((lX_possibleHomes x1 x2 M).bind (fun r3_ =>
    (some (r3_.1, r3_.2))))
set_option maxRecDepth 100000 in
theorem ok_lX_homes {sc : zSc} {x1 : Int} {x2 : Int} {M : Nat → Nat → Int} {P : Int → (Nat → Nat → Int) → Prop} (h : zS (lX_homes x1 x2 M) (fun r => P r.1 r.2)) : zCi sc 121 [.inr (.inr 0), .inl x1, .inl x2] M P := by
  have ea : zarg (zml 121) [.inr (.inr 0), .inl x1, .inl x2] = [some (.inr (.inr 0)), some (.inl x1), some (.inl x2)] := by rw [zm_121]; rfl
  unfold zCi zCw
  rw [ea, zr_121]
  have hq : 6 ≤ 6 := Nat.le_refl _
  unfold lX_homes at h
  have h := zS_mono h (fun x hx => (⟨x.1, rfl, hx⟩ : ∃ y, (some (.inl x.1) : Option zV) = some (.inl y) ∧ P y x.2))
  skip
  refine E_aload_n (pc := 0) (zDk zD_121_ok 0 rfl) rfl ?_
  refine E_iload_n (pc := 1) (zDk zD_121_ok 1 rfl) rfl ?_
  refine E_iload_n (pc := 2) (zDk zD_121_ok 2 rfl) rfl ?_
  obtain ⟨r3_, e3, h⟩ := zS_bind h
  refine E_virI (pc := 3) (c := 156) (r := 0) (as := [.inl x1, .inl x2]) (rest := []) (zDk zD_121_ok 3 rfl) zc_121 (by decide +kernel) zk_156 ⟨(Nat.le_of_ble_eq_true rfl), rfl, rfl⟩ (Nat.le_of_ble_eq_true rfl) (zr_156 _) (Nat.lt_of_lt_of_le (by decide) hq) (by rw [zm_156]; exact (Nat.le_of_ble_eq_true rfl)) ⟨zc_156, by decide⟩ zis_7_0 (ok_lX_possibleHomes ⟨r3_, e3, ?_⟩)
  have h := zS_some h
  exact E_ireturn (pc := 6) (zDk zD_121_ok 4 rfl) zt_121 h
def zD_122 : List (Nat × Instr × Nat) := [(0, .aload_n (0), 1), (1, .iload_n (1), 1), (2, .iload_n (2), 1), (3, .invokevirtual (266), 3), (6, .istore_n (3), 1), (7, .iload_n (3), 1), (8, .ifCond .ge (7), 3), (11, .iload_n (3), 1), (12, .goto (8), 3), (15, .aload_n (0), 1), (16, .iload_n (3), 1), (17, .invokevirtual (269), 3), (20, .ireturn, 1)]
set_option maxRecDepth 100000 in
theorem zD_122_ok : zDo 122 zD_122 = true := by decide +kernel
theorem zc_122 : zcls 122 = 7 := by decide +kernel
theorem zm_122 : zml 122 = 4 := by decide +kernel
theorem zt_122 : zrt 122 = (some (.int)) := by decide +kernel
theorem zk_122 : zkd 122 = 1 ∧ znp 122 + 1 = 3 := by decide +kernel
theorem zr_122 (as : List zV) : zrk 122 as = 6 := by unfold zrk; rw [if_neg (by decide)]; decide +kernel
def lX_ask (x1 : Int) (x2 : Int) (M : Nat → Nat → Int) : Option (Int × (Nat → Nat → Int)) :=
    ((lX_possibleHomes x1 x2 M).bind (fun r3_ =>
    (if r3_.1 < 0 then
    (some (r3_.1, r3_.2))
    else
    ((lX_stepToAsk r3_.1 r3_.2).bind (fun v17 =>
    (some (v17, r3_.2)))))))
set_option maxRecDepth 100000 in
theorem ok_lX_ask {sc : zSc} {x1 : Int} {x2 : Int} {M : Nat → Nat → Int} {P : Int → (Nat → Nat → Int) → Prop} (h : zS (lX_ask x1 x2 M) (fun r => P r.1 r.2)) : zCi sc 122 [.inr (.inr 0), .inl x1, .inl x2] M P := by
  have ea : zarg (zml 122) [.inr (.inr 0), .inl x1, .inl x2] = [some (.inr (.inr 0)), some (.inl x1), some (.inl x2), none] := by rw [zm_122]; rfl
  unfold zCi zCw
  rw [ea, zr_122]
  have hq : 6 ≤ 6 := Nat.le_refl _
  unfold lX_ask at h
  have h := zS_mono h (fun x hx => (⟨x.1, rfl, hx⟩ : ∃ y, (some (.inl x.1) : Option zV) = some (.inl y) ∧ P y x.2))
  skip
  refine E_aload_n (pc := 0) (zDk zD_122_ok 0 rfl) rfl ?_
  refine E_iload_n (pc := 1) (zDk zD_122_ok 1 rfl) rfl ?_
  refine E_iload_n (pc := 2) (zDk zD_122_ok 2 rfl) rfl ?_
  obtain ⟨r3_, e3, h⟩ := zS_bind h
  refine E_virI (pc := 3) (c := 156) (r := 0) (as := [.inl x1, .inl x2]) (rest := []) (zDk zD_122_ok 3 rfl) zc_122 (by decide +kernel) zk_156 ⟨(Nat.le_of_ble_eq_true rfl), rfl, rfl⟩ (Nat.le_of_ble_eq_true rfl) (zr_156 _) (Nat.lt_of_lt_of_le (by decide) hq) (by rw [zm_156]; exact (Nat.le_of_ble_eq_true rfl)) ⟨zc_156, by decide⟩ zis_7_0 (ok_lX_possibleHomes ⟨r3_, e3, ?_⟩)
  refine W_istore_n (pc := 6) (L' := [some (.inr (.inr 0)), some (.inl x1), some (.inl x2), some (.inl r3_.1)]) (zDk zD_122_ok 4 rfl) zm_122 (by decide) rfl ?_
  refine E_iload_n (pc := 7) (zDk zD_122_ok 5 rfl) rfl ?_
  refine E_if (pc := 8) (t := 15) (zDk zD_122_ok 6 rfl) rfl (fun hz => ?_) (fun hz => ?_)
  · have h := zS_f h (Int.not_lt.mpr (T_ge hz))
    refine E_aload_n (pc := 15) (zDk zD_122_ok 9 rfl) rfl ?_
    refine E_iload_n (pc := 16) (zDk zD_122_ok 10 rfl) rfl ?_
    obtain ⟨v17, e17, h⟩ := zS_bind h
    refine E_virI (pc := 17) (c := 160) (r := 0) (as := [.inl r3_.1]) (rest := []) (zDk zD_122_ok 11 rfl) zc_122 (by decide +kernel) zk_160 ⟨(Nat.le_of_ble_eq_true rfl), rfl, rfl⟩ (Nat.le_of_ble_eq_true rfl) (zr_160 _) (Nat.lt_of_lt_of_le (by decide) hq) (by rw [zm_160]; exact (Nat.le_of_ble_eq_true rfl)) ⟨zc_160, by decide⟩ zis_7_0 (ok_lX_stepToAsk ⟨v17, e17, ?_⟩)
    have h := zS_some h
    exact E_ireturn (pc := 20) (zDk zD_122_ok 12 rfl) zt_122 h
  · have h := zS_t h (F_ge hz)
    refine E_iload_n (pc := 11) (zDk zD_122_ok 7 rfl) rfl ?_
    refine E_goto (pc := 12) (t := 20) (zDk zD_122_ok 8 rfl) rfl ?_
    have h := zS_some h
    exact E_ireturn (pc := 20) (zDk zD_122_ok 12 rfl) zt_122 h
def zD_123 : List (Nat × Instr × Nat) := [(0, .aload_n (0), 1), (1, .iload_n (1), 1), (2, .iload_n (2), 1), (3, .invokevirtual (266), 3), (6, .istore_n (3), 1), (7, .iload_n (3), 1), (8, .ifCond .ge (5), 3), (11, .iload_n (3), 1), (12, .ireturn, 1), (13, .aload_n (0), 1), (14, .iload_n (3), 1), (15, .invokevirtual (269), 3), (18, .istore (4), 2), (20, .iload (4), 2), (22, .iconst (-1), 1), (23, .if_icmp .ne (10), 3), (26, .iload_n (3), 1), (27, .invokestatic (183), 3), (30, .goto (10), 3), (33, .aload_n (0), 1), (34, .iload_n (3), 1), (35, .iload (4), 2), (37, .invokevirtual (272), 3), (40, .ireturn, 1)]
set_option maxRecDepth 100000 in
theorem zD_123_ok : zDo 123 zD_123 = true := by decide +kernel
theorem zc_123 : zcls 123 = 7 := by decide +kernel
theorem zm_123 : zml 123 = 5 := by decide +kernel
theorem zt_123 : zrt 123 = (some (.int)) := by decide +kernel
theorem zk_123 : zkd 123 = 1 ∧ znp 123 + 1 = 3 := by decide +kernel
theorem zr_123 (as : List zV) : zrk 123 as = 6 := by unfold zrk; rw [if_neg (by decide)]; decide +kernel
def lX_leaves (x1 : Int) (x2 : Int) (M : Nat → Nat → Int) : Option (Int × (Nat → Nat → Int)) :=
    ((lX_possibleHomes x1 x2 M).bind (fun r3_ =>
    (if r3_.1 < 0 then
    (some (r3_.1, r3_.2))
    else
    ((lX_stepToAsk r3_.1 r3_.2).bind (fun v15 =>
    (if v15 = (-1 : Int) then
    ((lJ_bitCount r3_.1 r3_.2).bind (fun v27 =>
    (some (v27, r3_.2))))
    else
    ((lX_homesLeft r3_.1 v15 r3_.2).bind (fun v37 =>
    (some (v37, r3_.2))))))))))
set_option maxRecDepth 100000 in
theorem ok_lX_leaves {sc : zSc} {x1 : Int} {x2 : Int} {M : Nat → Nat → Int} {P : Int → (Nat → Nat → Int) → Prop} (h : zS (lX_leaves x1 x2 M) (fun r => P r.1 r.2)) : zCi sc 123 [.inr (.inr 0), .inl x1, .inl x2] M P := by
  have ea : zarg (zml 123) [.inr (.inr 0), .inl x1, .inl x2] = [some (.inr (.inr 0)), some (.inl x1), some (.inl x2), none, none] := by rw [zm_123]; rfl
  unfold zCi zCw
  rw [ea, zr_123]
  have hq : 6 ≤ 6 := Nat.le_refl _
  unfold lX_leaves at h
  have h := zS_mono h (fun x hx => (⟨x.1, rfl, hx⟩ : ∃ y, (some (.inl x.1) : Option zV) = some (.inl y) ∧ P y x.2))
  skip
  refine E_aload_n (pc := 0) (zDk zD_123_ok 0 rfl) rfl ?_
  refine E_iload_n (pc := 1) (zDk zD_123_ok 1 rfl) rfl ?_
  refine E_iload_n (pc := 2) (zDk zD_123_ok 2 rfl) rfl ?_
  obtain ⟨r3_, e3, h⟩ := zS_bind h
  refine E_virI (pc := 3) (c := 156) (r := 0) (as := [.inl x1, .inl x2]) (rest := []) (zDk zD_123_ok 3 rfl) zc_123 (by decide +kernel) zk_156 ⟨(Nat.le_of_ble_eq_true rfl), rfl, rfl⟩ (Nat.le_of_ble_eq_true rfl) (zr_156 _) (Nat.lt_of_lt_of_le (by decide) hq) (by rw [zm_156]; exact (Nat.le_of_ble_eq_true rfl)) ⟨zc_156, by decide⟩ zis_7_0 (ok_lX_possibleHomes ⟨r3_, e3, ?_⟩)
  refine W_istore_n (pc := 6) (L' := [some (.inr (.inr 0)), some (.inl x1), some (.inl x2), some (.inl r3_.1), none]) (zDk zD_123_ok 4 rfl) zm_123 (by decide) rfl ?_
  refine E_iload_n (pc := 7) (zDk zD_123_ok 5 rfl) rfl ?_
  refine E_if (pc := 8) (t := 13) (zDk zD_123_ok 6 rfl) rfl (fun hz => ?_) (fun hz => ?_)
  · have h := zS_f h (Int.not_lt.mpr (T_ge hz))
    refine E_aload_n (pc := 13) (zDk zD_123_ok 9 rfl) rfl ?_
    refine E_iload_n (pc := 14) (zDk zD_123_ok 10 rfl) rfl ?_
    obtain ⟨v15, e15, h⟩ := zS_bind h
    refine E_virI (pc := 15) (c := 160) (r := 0) (as := [.inl r3_.1]) (rest := []) (zDk zD_123_ok 11 rfl) zc_123 (by decide +kernel) zk_160 ⟨(Nat.le_of_ble_eq_true rfl), rfl, rfl⟩ (Nat.le_of_ble_eq_true rfl) (zr_160 _) (Nat.lt_of_lt_of_le (by decide) hq) (by rw [zm_160]; exact (Nat.le_of_ble_eq_true rfl)) ⟨zc_160, by decide⟩ zis_7_0 (ok_lX_stepToAsk ⟨v15, e15, ?_⟩)
    refine W_istore (pc := 18) (L' := [some (.inr (.inr 0)), some (.inl x1), some (.inl x2), some (.inl r3_.1), some (.inl v15)]) (zDk zD_123_ok 12 rfl) zm_123 (by decide) rfl ?_
    refine E_iload (pc := 20) (zDk zD_123_ok 13 rfl) rfl ?_
    refine E_iconst (pc := 22) (zDk zD_123_ok 14 rfl) (by decide +kernel) ?_
    refine E_icmp (pc := 23) (t := 33) (zDk zD_123_ok 15 rfl) rfl (fun hz => ?_) (fun hz => ?_)
    · have h := zS_f h (T_ne hz)
      refine E_aload_n (pc := 33) (zDk zD_123_ok 19 rfl) rfl ?_
      refine E_iload_n (pc := 34) (zDk zD_123_ok 20 rfl) rfl ?_
      refine E_iload (pc := 35) (zDk zD_123_ok 21 rfl) rfl ?_
      obtain ⟨v37, e37, h⟩ := zS_bind h
      refine E_virI (pc := 37) (c := 161) (r := 0) (as := [.inl r3_.1, .inl v15]) (rest := []) (zDk zD_123_ok 22 rfl) zc_123 (by decide +kernel) zk_161 ⟨(Nat.le_of_ble_eq_true rfl), rfl, rfl⟩ (Nat.le_of_ble_eq_true rfl) (zr_161 _) (Nat.lt_of_lt_of_le (by decide) hq) (by rw [zm_161]; exact (Nat.le_of_ble_eq_true rfl)) ⟨zc_161, by decide⟩ zis_7_0 (ok_lX_homesLeft ⟨v37, e37, ?_⟩)
      have h := zS_some h
      exact E_ireturn (pc := 40) (zDk zD_123_ok 23 rfl) zt_123 h
    · have h := zS_t h (F_ne hz)
      refine E_iload_n (pc := 26) (zDk zD_123_ok 16 rfl) rfl ?_
      obtain ⟨v27, e27, h⟩ := zS_bind h
      refine E_staI (pc := 27) (c := 321) (as := [.inl r3_.1]) (rest := []) (zDk zD_123_ok 17 rfl) zc_123 (by decide +kernel) (by decide +kernel) zk_321 ⟨(Nat.le_of_ble_eq_true rfl), rfl, rfl⟩ (Nat.le_of_ble_eq_true rfl) (zr_321 _) (Nat.lt_of_lt_of_le (by decide) hq) (by rw [zm_321]; exact (Nat.le_of_ble_eq_true rfl)) (ok_lJ_bitCount ⟨v27, e27, ?_⟩)
      refine E_goto (pc := 30) (t := 40) (zDk zD_123_ok 18 rfl) rfl ?_
      have h := zS_some h
      exact E_ireturn (pc := 40) (zDk zD_123_ok 23 rfl) zt_123 h
  · have h := zS_t h (F_ge hz)
    refine E_iload_n (pc := 11) (zDk zD_123_ok 7 rfl) rfl ?_
    have h := zS_some h
    exact E_ireturn (pc := 12) (zDk zD_123_ok 8 rfl) zt_123 h
def zD_200 : List (Nat × Instr × Nat) := [(0, .aload_n (0), 1), (1, .aload_n (1), 1), (2, .invokevirtual (162), 3), (5, .ifCond .ne (8), 3), (8, .aload_n (0), 1), (9, .iconst (1), 1), (10, .invokevirtual (165), 3), (13, .return_, 1)]
set_option maxRecDepth 100000 in
theorem zD_200_ok : zDo 200 zD_200 = true := by decide +kernel
theorem zc_200 : zcls 200 = 8 := by decide +kernel
theorem zm_200 : zml 200 = 2 := by decide +kernel
theorem zt_200 : zrt 200 = none := by decide +kernel
theorem zk_200 : zkd 200 = 1 ∧ znp 200 + 1 = 2 := by decide +kernel
theorem zr_200 (as : List zV) : zrk 200 as = 6 := by unfold zrk; rw [if_neg (by decide)]; decide +kernel
def lm_needs (w1 : Nat) (M : Nat → Nat → Int) : Option (Nat → Nat → Int) :=
    (if 5003 ≤ w1 ∧ w1 < 5033 then
    ((lm_takes w1 M).bind (fun r2_ =>
    (if r2_.1 = 0 then
    ((lm_errs (1 : Int) r2_.2).bind (fun M10 =>
    (some M10)))
    else
    (some r2_.2))))
    else none)
set_option maxRecDepth 100000 in
theorem ok_lm_needs {sc : zSc} {w1 : Nat} {M : Nat → Nat → Int} {P : (Nat → Nat → Int) → Prop} (h : zS (lm_needs w1 M) P) : zCv sc 200 [.inr (.inr 106), .inr (.inr w1)] M P := by
  have ea : zarg (zml 200) [.inr (.inr 106), .inr (.inr w1)] = [some (.inr (.inr 106)), some (.inr (.inr w1))] := by rw [zm_200]; rfl
  unfold zCv zCw
  rw [ea, zr_200]
  have hq : 6 ≤ 6 := Nat.le_refl _
  unfold lm_needs at h
  have h := zS_mono h (fun x hx => (⟨rfl, hx⟩ : (none : Option zV) = none ∧ P x))
  obtain ⟨hw1, h⟩ := zS_c h
  skip
  refine E_aload_n (pc := 0) (zDk zD_200_ok 0 rfl) rfl ?_
  refine E_aload_n (pc := 1) (zDk zD_200_ok 1 rfl) rfl ?_
  obtain ⟨r2_, e2, h⟩ := zS_bind h
  refine E_virI (pc := 2) (c := 199) (r := 106) (as := [.inr (.inr w1)]) (rest := []) (zDk zD_200_ok 2 rfl) zc_200 (by decide +kernel) zk_199 ⟨(Nat.le_of_ble_eq_true rfl), rfl, rfl⟩ (Nat.le_of_ble_eq_true rfl) (zr_199 _) (Nat.lt_of_lt_of_le (by decide) hq) (by rw [zm_199]; exact (Nat.le_of_ble_eq_true rfl)) ⟨zc_199, by decide⟩ zis_8_106 (ok_lm_takes ⟨r2_, e2, ?_⟩)
  refine E_if (pc := 5) (t := 13) (zDk zD_200_ok 3 rfl) rfl (fun hz => ?_) (fun hz => ?_)
  · have h := zS_f h (T_ne hz)
    have h := zS_some h
    exact E_return (x := ()) (pc := 13) (zDk zD_200_ok 7 rfl) zt_200 h
  · have h := zS_t h (F_ne hz)
    refine E_aload_n (pc := 8) (zDk zD_200_ok 4 rfl) rfl ?_
    refine E_iconst (pc := 9) (zDk zD_200_ok 5 rfl) (by decide +kernel) ?_
    obtain ⟨M10, e10, h⟩ := zS_bind h
    refine E_virV (pc := 10) (c := 197) (r := 106) (as := [.inl (1 : Int)]) (rest := []) (zDk zD_200_ok 6 rfl) zc_200 (by decide +kernel) zk_197 ⟨(Nat.le_of_ble_eq_true rfl), rfl, rfl⟩ (Nat.le_of_ble_eq_true rfl) (zr_197 _) (Nat.lt_of_lt_of_le (by decide) hq) (by rw [zm_197]; exact (Nat.le_of_ble_eq_true rfl)) ⟨zc_197, by decide⟩ zis_8_106 (ok_lm_errs ⟨M10, e10, ?_⟩)
    have h := zS_some h
    exact E_return (x := ()) (pc := 13) (zDk zD_200_ok 7 rfl) zt_200 h
def zD_233 : List (Nat × Instr × Nat) := [(0, .aload_n (0), 1), (1, .iload_n (2), 1), (2, .invokevirtual (314), 3), (5, .ifCond .eq (20), 3), (8, .aload_n (0), 1), (9, .iload_n (1), 1), (10, .invokevirtual (265), 3), (13, .ifCond .eq (12), 3), (16, .aload_n (0), 1), (17, .iload_n (1), 1), (18, .iload_n (2), 1), (19, .invokevirtual (276), 3), (22, .goto (5), 3), (25, .bipush (-2), 2), (27, .ireturn, 1)]
set_option maxRecDepth 100000 in
theorem zD_233_ok : zDo 233 zD_233 = true := by decide +kernel
theorem zc_233 : zcls 233 = 8 := by decide +kernel
theorem zm_233 : zml 233 = 3 := by decide +kernel
theorem zt_233 : zrt 233 = (some (.int)) := by decide +kernel
theorem zk_233 : zkd 233 = 1 ∧ znp 233 + 1 = 3 := by decide +kernel
theorem zr_233 (as : List zV) : zrk 233 as = 6 := by unfold zrk; rw [if_neg (by decide)]; decide +kernel
def lm_at (x1 : Int) (x2 : Int) (M : Nat → Nat → Int) : Option (Int × (Nat → Nat → Int)) :=
    ((lm_asksStep x2 M).bind (fun r2_ =>
    (if r2_.1 = 0 then
    (some ((-2 : Int), r2_.2))
    else
    ((lm_isName x1 r2_.2).bind (fun v10 =>
    (if v10 = 0 then
    (some ((-2 : Int), r2_.2))
    else
    ((lm_placeOf x1 x2 r2_.2).bind (fun v19 =>
    (some (v19, r2_.2))))))))))
set_option maxRecDepth 100000 in
theorem ok_lm_at {sc : zSc} {x1 : Int} {x2 : Int} {M : Nat → Nat → Int} {P : Int → (Nat → Nat → Int) → Prop} (h : zS (lm_at x1 x2 M) (fun r => P r.1 r.2)) : zCi sc 233 [.inr (.inr 106), .inl x1, .inl x2] M P := by
  have ea : zarg (zml 233) [.inr (.inr 106), .inl x1, .inl x2] = [some (.inr (.inr 106)), some (.inl x1), some (.inl x2)] := by rw [zm_233]; rfl
  unfold zCi zCw
  rw [ea, zr_233]
  have hq : 6 ≤ 6 := Nat.le_refl _
  unfold lm_at at h
  have h := zS_mono h (fun x hx => (⟨x.1, rfl, hx⟩ : ∃ y, (some (.inl x.1) : Option zV) = some (.inl y) ∧ P y x.2))
  skip
  refine E_aload_n (pc := 0) (zDk zD_233_ok 0 rfl) rfl ?_
  refine E_iload_n (pc := 1) (zDk zD_233_ok 1 rfl) rfl ?_
  obtain ⟨r2_, e2, h⟩ := zS_bind h
  refine E_virI (pc := 2) (c := 230) (r := 106) (as := [.inl x2]) (rest := []) (zDk zD_233_ok 2 rfl) zc_233 (by decide +kernel) zk_230 ⟨(Nat.le_of_ble_eq_true rfl), rfl, rfl⟩ (Nat.le_of_ble_eq_true rfl) (zr_230 _) (Nat.lt_of_lt_of_le (by decide) hq) (by rw [zm_230]; exact (Nat.le_of_ble_eq_true rfl)) ⟨zc_230, by decide⟩ zis_8_106 (ok_lm_asksStep ⟨r2_, e2, ?_⟩)
  refine E_if (pc := 5) (t := 25) (zDk zD_233_ok 3 rfl) rfl (fun hz => ?_) (fun hz => ?_)
  · have h := zS_t h (T_eq hz)
    refine E_bipush (pc := 25) (zDk zD_233_ok 13 rfl) (by decide +kernel) ?_
    have h := zS_some h
    exact E_ireturn (pc := 27) (zDk zD_233_ok 14 rfl) zt_233 h
  · have h := zS_f h (F_eq hz)
    refine E_aload_n (pc := 8) (zDk zD_233_ok 4 rfl) rfl ?_
    refine E_iload_n (pc := 9) (zDk zD_233_ok 5 rfl) rfl ?_
    obtain ⟨v10, e10, h⟩ := zS_bind h
    refine E_virI (pc := 10) (c := 186) (r := 106) (as := [.inl x1]) (rest := []) (zDk zD_233_ok 6 rfl) zc_233 (by decide +kernel) zk_186 ⟨(Nat.le_of_ble_eq_true rfl), rfl, rfl⟩ (Nat.le_of_ble_eq_true rfl) (zr_186 _) (Nat.lt_of_lt_of_le (by decide) hq) (by rw [zm_186]; exact (Nat.le_of_ble_eq_true rfl)) ⟨zc_186, by decide⟩ zis_8_106 (ok_lm_isName ⟨v10, e10, ?_⟩)
    refine E_if (pc := 13) (t := 25) (zDk zD_233_ok 7 rfl) rfl (fun hz => ?_) (fun hz => ?_)
    · have h := zS_t h (T_eq hz)
      refine E_bipush (pc := 25) (zDk zD_233_ok 13 rfl) (by decide +kernel) ?_
      have h := zS_some h
      exact E_ireturn (pc := 27) (zDk zD_233_ok 14 rfl) zt_233 h
    · have h := zS_f h (F_eq hz)
      refine E_aload_n (pc := 16) (zDk zD_233_ok 8 rfl) rfl ?_
      refine E_iload_n (pc := 17) (zDk zD_233_ok 9 rfl) rfl ?_
      refine E_iload_n (pc := 18) (zDk zD_233_ok 10 rfl) rfl ?_
      obtain ⟨v19, e19, h⟩ := zS_bind h
      refine E_virI (pc := 19) (c := 221) (r := 106) (as := [.inl x1, .inl x2]) (rest := []) (zDk zD_233_ok 11 rfl) zc_233 (by decide +kernel) zk_221 ⟨(Nat.le_of_ble_eq_true rfl), rfl, rfl⟩ (Nat.le_of_ble_eq_true rfl) (zr_221 _) (Nat.lt_of_lt_of_le (by decide) hq) (by rw [zm_221]; exact (Nat.le_of_ble_eq_true rfl)) ⟨zc_221, by decide⟩ zis_8_106 (ok_lm_placeOf ⟨v19, e19, ?_⟩)
      refine E_goto (pc := 22) (t := 27) (zDk zD_233_ok 12 rfl) rfl ?_
      have h := zS_some h
      exact E_ireturn (pc := 27) (zDk zD_233_ok 14 rfl) zt_233 h
def zD_234 : List (Nat × Instr × Nat) := [(0, .aload_n (0), 1), (1, .iload_n (2), 1), (2, .invokevirtual (314), 3), (5, .ifCond .eq (20), 3), (8, .aload_n (0), 1), (9, .iload_n (1), 1), (10, .invokevirtual (265), 3), (13, .ifCond .eq (12), 3), (16, .aload_n (0), 1), (17, .iload_n (1), 1), (18, .iload_n (2), 1), (19, .invokevirtual (285), 3), (22, .goto (5), 3), (25, .bipush (-2), 2), (27, .ireturn, 1)]
set_option maxRecDepth 100000 in
theorem zD_234_ok : zDo 234 zD_234 = true := by decide +kernel
theorem zc_234 : zcls 234 = 8 := by decide +kernel
theorem zm_234 : zml 234 = 3 := by decide +kernel
theorem zt_234 : zrt 234 = (some (.int)) := by decide +kernel
theorem zk_234 : zkd 234 = 1 ∧ znp 234 + 1 = 3 := by decide +kernel
theorem zr_234 (as : List zV) : zrk 234 as = 6 := by unfold zrk; rw [if_neg (by decide)]; decide +kernel
def lm_ink (x1 : Int) (x2 : Int) (M : Nat → Nat → Int) : Option (Int × (Nat → Nat → Int)) :=
    ((lm_asksStep x2 M).bind (fun r2_ =>
    (if r2_.1 = 0 then
    (some ((-2 : Int), r2_.2))
    else
    ((lm_isName x1 r2_.2).bind (fun v10 =>
    (if v10 = 0 then
    (some ((-2 : Int), r2_.2))
    else
    ((lm_inkIn x1 x2 r2_.2).bind (fun v19 =>
    (some (v19, r2_.2))))))))))
set_option maxRecDepth 100000 in
theorem ok_lm_ink {sc : zSc} {x1 : Int} {x2 : Int} {M : Nat → Nat → Int} {P : Int → (Nat → Nat → Int) → Prop} (h : zS (lm_ink x1 x2 M) (fun r => P r.1 r.2)) : zCi sc 234 [.inr (.inr 106), .inl x1, .inl x2] M P := by
  have ea : zarg (zml 234) [.inr (.inr 106), .inl x1, .inl x2] = [some (.inr (.inr 106)), some (.inl x1), some (.inl x2)] := by rw [zm_234]; rfl
  unfold zCi zCw
  rw [ea, zr_234]
  have hq : 6 ≤ 6 := Nat.le_refl _
  unfold lm_ink at h
  have h := zS_mono h (fun x hx => (⟨x.1, rfl, hx⟩ : ∃ y, (some (.inl x.1) : Option zV) = some (.inl y) ∧ P y x.2))
  skip
  refine E_aload_n (pc := 0) (zDk zD_234_ok 0 rfl) rfl ?_
  refine E_iload_n (pc := 1) (zDk zD_234_ok 1 rfl) rfl ?_
  obtain ⟨r2_, e2, h⟩ := zS_bind h
  refine E_virI (pc := 2) (c := 230) (r := 106) (as := [.inl x2]) (rest := []) (zDk zD_234_ok 2 rfl) zc_234 (by decide +kernel) zk_230 ⟨(Nat.le_of_ble_eq_true rfl), rfl, rfl⟩ (Nat.le_of_ble_eq_true rfl) (zr_230 _) (Nat.lt_of_lt_of_le (by decide) hq) (by rw [zm_230]; exact (Nat.le_of_ble_eq_true rfl)) ⟨zc_230, by decide⟩ zis_8_106 (ok_lm_asksStep ⟨r2_, e2, ?_⟩)
  refine E_if (pc := 5) (t := 25) (zDk zD_234_ok 3 rfl) rfl (fun hz => ?_) (fun hz => ?_)
  · have h := zS_t h (T_eq hz)
    refine E_bipush (pc := 25) (zDk zD_234_ok 13 rfl) (by decide +kernel) ?_
    have h := zS_some h
    exact E_ireturn (pc := 27) (zDk zD_234_ok 14 rfl) zt_234 h
  · have h := zS_f h (F_eq hz)
    refine E_aload_n (pc := 8) (zDk zD_234_ok 4 rfl) rfl ?_
    refine E_iload_n (pc := 9) (zDk zD_234_ok 5 rfl) rfl ?_
    obtain ⟨v10, e10, h⟩ := zS_bind h
    refine E_virI (pc := 10) (c := 186) (r := 106) (as := [.inl x1]) (rest := []) (zDk zD_234_ok 6 rfl) zc_234 (by decide +kernel) zk_186 ⟨(Nat.le_of_ble_eq_true rfl), rfl, rfl⟩ (Nat.le_of_ble_eq_true rfl) (zr_186 _) (Nat.lt_of_lt_of_le (by decide) hq) (by rw [zm_186]; exact (Nat.le_of_ble_eq_true rfl)) ⟨zc_186, by decide⟩ zis_8_106 (ok_lm_isName ⟨v10, e10, ?_⟩)
    refine E_if (pc := 13) (t := 25) (zDk zD_234_ok 7 rfl) rfl (fun hz => ?_) (fun hz => ?_)
    · have h := zS_t h (T_eq hz)
      refine E_bipush (pc := 25) (zDk zD_234_ok 13 rfl) (by decide +kernel) ?_
      have h := zS_some h
      exact E_ireturn (pc := 27) (zDk zD_234_ok 14 rfl) zt_234 h
    · have h := zS_f h (F_eq hz)
      refine E_aload_n (pc := 16) (zDk zD_234_ok 8 rfl) rfl ?_
      refine E_iload_n (pc := 17) (zDk zD_234_ok 9 rfl) rfl ?_
      refine E_iload_n (pc := 18) (zDk zD_234_ok 10 rfl) rfl ?_
      obtain ⟨v19, e19, h⟩ := zS_bind h
      refine E_virI (pc := 19) (c := 222) (r := 106) (as := [.inl x1, .inl x2]) (rest := []) (zDk zD_234_ok 11 rfl) zc_234 (by decide +kernel) zk_222 ⟨(Nat.le_of_ble_eq_true rfl), rfl, rfl⟩ (Nat.le_of_ble_eq_true rfl) (zr_222 _) (Nat.lt_of_lt_of_le (by decide) hq) (by rw [zm_222]; exact (Nat.le_of_ble_eq_true rfl)) ⟨zc_222, by decide⟩ zis_8_106 (ok_lm_inkIn ⟨v19, e19, ?_⟩)
      refine E_goto (pc := 22) (t := 27) (zDk zD_234_ok 12 rfl) rfl ?_
      have h := zS_some h
      exact E_ireturn (pc := 27) (zDk zD_234_ok 14 rfl) zt_234 h
def zD_235 : List (Nat × Instr × Nat) := [(0, .aload_n (0), 1), (1, .iload_n (1), 1), (2, .invokevirtual (314), 3), (5, .ifCond .ne (6), 3), (8, .bipush (-2), 2), (10, .ireturn, 1), (11, .iconst (0), 1), (12, .istore_n (2), 1), (13, .iconst (0), 1), (14, .istore_n (3), 1), (15, .iload_n (3), 1), (16, .aload_n (0), 1), (17, .invokevirtual (279), 3), (20, .if_icmp .ge (28), 3), (23, .iload_n (2), 1), (24, .aload_n (0), 1), (25, .iload_n (3), 1), (26, .iload_n (1), 1), (27, .invokevirtual (285), 3), (30, .ifCond .le (9), 3), (33, .iconst (1), 1), (34, .iload_n (3), 1), (35, .ishl, 1), (36, .goto (4), 3), (39, .iconst (0), 1), (40, .ior, 1), (41, .istore_n (2), 1), (42, .iinc (3) (1), 3), (45, .goto (-30), 3), (48, .iload_n (2), 1), (49, .ireturn, 1)]
set_option maxRecDepth 100000 in
theorem zD_235_ok : zDo 235 zD_235 = true := by decide +kernel
theorem zc_235 : zcls 235 = 8 := by decide +kernel
theorem zm_235 : zml 235 = 4 := by decide +kernel
theorem zt_235 : zrt 235 = (some (.int)) := by decide +kernel
theorem zk_235 : zkd 235 = 1 ∧ znp 235 + 1 = 2 := by decide +kernel
theorem zr_235 (as : List zV) : zrk 235 as = 6 := by unfold zrk; rw [if_neg (by decide)]; decide +kernel
def lm_awake_c15 (x1 : Int) : Nat → Int → Int → (Nat → Nat → Int) → Option (Int × (Nat → Nat → Int))
  | 0, _, _, _ => none
  | n + 1, y2, y3, M =>
    ((lm_names M).bind (fun v17 =>
    (if y3 < v17 then
    ((lm_inkIn y3 x1 M).bind (fun v27 =>
    (if 0 < v27 then
    ((lm_awake_c15 x1 n) (zor y2 (zshl (1 : Int) y3)) (w32 (y3 + 1)) M)
    else
    ((lm_awake_c15 x1 n) (zor y2 (0 : Int)) (w32 (y3 + 1)) M))))
    else
    (some (y2, M)))))
set_option maxRecDepth 100000 in
theorem ok_lm_awake_c15 {sc : zSc} {q : Nat} {P : Option zV → (Nat → Nat → Int) → Prop} (hq : 6 ≤ q) (x1 : Int) : ∀ (n : Nat) (y2 : Int) (y3 : Int) (M : Nat → Nat → Int), zS (lm_awake_c15 x1 n y2 y3 M) (fun r => P (some (.inl r.1)) r.2) → zWp sc q 235 15 [some (.inr (.inr 106)), some (.inl x1), some (.inl y2), some (.inl y3)] [] M P := by
  intro n
  induction n with
  | zero => intro y2 y3 M h; exact (zS_none h).elim
  | succ n ih =>
    intro y2 y3 M h
    rw [lm_awake_c15] at h
    refine E_iload_n (pc := 15) (zDk zD_235_ok 10 rfl) rfl ?_
    refine E_aload_n (pc := 16) (zDk zD_235_ok 11 rfl) rfl ?_
    obtain ⟨v17, e17, h⟩ := zS_bind h
    refine E_virI (pc := 17) (c := 189) (r := 106) (as := []) (rest := [.inl y3]) (zDk zD_235_ok 12 rfl) zc_235 (by decide +kernel) zk_189 ⟨(Nat.le_of_ble_eq_true rfl), rfl, rfl⟩ (Nat.le_of_ble_eq_true rfl) (zr_189 _) (Nat.lt_of_lt_of_le (by decide) hq) (by rw [zm_189]; exact (Nat.le_of_ble_eq_true rfl)) ⟨zc_189, by decide⟩ zis_8_106 (ok_lm_names ⟨v17, e17, ?_⟩)
    refine E_icmp (pc := 20) (t := 48) (zDk zD_235_ok 13 rfl) rfl (fun hz => ?_) (fun hz => ?_)
    · have h := zS_f h (Int.not_lt.mpr (T_ge hz))
      refine E_iload_n (pc := 48) (zDk zD_235_ok 29 rfl) rfl ?_
      have h := zS_some h
      exact E_ireturn (pc := 49) (zDk zD_235_ok 30 rfl) zt_235 h
    · have h := zS_t h (F_ge hz)
      refine E_iload_n (pc := 23) (zDk zD_235_ok 14 rfl) rfl ?_
      refine E_aload_n (pc := 24) (zDk zD_235_ok 15 rfl) rfl ?_
      refine E_iload_n (pc := 25) (zDk zD_235_ok 16 rfl) rfl ?_
      refine E_iload_n (pc := 26) (zDk zD_235_ok 17 rfl) rfl ?_
      obtain ⟨v27, e27, h⟩ := zS_bind h
      refine E_virI (pc := 27) (c := 222) (r := 106) (as := [.inl y3, .inl x1]) (rest := [.inl y2]) (zDk zD_235_ok 18 rfl) zc_235 (by decide +kernel) zk_222 ⟨(Nat.le_of_ble_eq_true rfl), rfl, rfl⟩ (Nat.le_of_ble_eq_true rfl) (zr_222 _) (Nat.lt_of_lt_of_le (by decide) hq) (by rw [zm_222]; exact (Nat.le_of_ble_eq_true rfl)) ⟨zc_222, by decide⟩ zis_8_106 (ok_lm_inkIn ⟨v27, e27, ?_⟩)
      refine E_if (pc := 30) (t := 39) (zDk zD_235_ok 19 rfl) rfl (fun hz => ?_) (fun hz => ?_)
      · have h := zS_f h (Int.not_lt.mpr (T_le hz))
        refine E_iconst (pc := 39) (zDk zD_235_ok 24 rfl) (by decide +kernel) ?_
        refine E_ior (pc := 40) (zDk zD_235_ok 25 rfl) ?_
        refine W_istore_n (pc := 41) (L' := [some (.inr (.inr 106)), some (.inl x1), some (.inl (zor y2 (0 : Int))), some (.inl y3)]) (zDk zD_235_ok 26 rfl) zm_235 (by decide) rfl ?_
        refine W_iinc (pc := 42) (L' := [some (.inr (.inr 106)), some (.inl x1), some (.inl (zor y2 (0 : Int))), some (.inl (w32 (y3 + 1)))]) (zDk zD_235_ok 27 rfl) rfl zm_235 (by decide) rfl ?_
        refine E_goto (pc := 45) (t := 15) (zDk zD_235_ok 28 rfl) rfl ?_
        exact (ih) (zor y2 (0 : Int)) (w32 (y3 + 1)) M h
      · have h := zS_t h (F_le hz)
        refine E_iconst (pc := 33) (zDk zD_235_ok 20 rfl) (by decide +kernel) ?_
        refine E_iload_n (pc := 34) (zDk zD_235_ok 21 rfl) rfl ?_
        refine E_ishl (pc := 35) (zDk zD_235_ok 22 rfl) ?_
        refine E_goto (pc := 36) (t := 40) (zDk zD_235_ok 23 rfl) rfl ?_
        refine E_ior (pc := 40) (zDk zD_235_ok 25 rfl) ?_
        refine W_istore_n (pc := 41) (L' := [some (.inr (.inr 106)), some (.inl x1), some (.inl (zor y2 (zshl (1 : Int) y3))), some (.inl y3)]) (zDk zD_235_ok 26 rfl) zm_235 (by decide) rfl ?_
        refine W_iinc (pc := 42) (L' := [some (.inr (.inr 106)), some (.inl x1), some (.inl (zor y2 (zshl (1 : Int) y3))), some (.inl (w32 (y3 + 1)))]) (zDk zD_235_ok 27 rfl) rfl zm_235 (by decide) rfl ?_
        refine E_goto (pc := 45) (t := 15) (zDk zD_235_ok 28 rfl) rfl ?_
        exact (ih) (zor y2 (zshl (1 : Int) y3)) (w32 (y3 + 1)) M h
def lm_awake (x1 : Int) (M : Nat → Nat → Int) : Option (Int × (Nat → Nat → Int)) :=
    ((lm_asksStep x1 M).bind (fun r2_ =>
    (if r2_.1 = 0 then
    (some ((-2 : Int), r2_.2))
    else
    (lm_awake_c15 x1 zN (0 : Int) (0 : Int) r2_.2))))
set_option maxRecDepth 100000 in
theorem ok_lm_awake {sc : zSc} {x1 : Int} {M : Nat → Nat → Int} {P : Int → (Nat → Nat → Int) → Prop} (h : zS (lm_awake x1 M) (fun r => P r.1 r.2)) : zCi sc 235 [.inr (.inr 106), .inl x1] M P := by
  have ea : zarg (zml 235) [.inr (.inr 106), .inl x1] = [some (.inr (.inr 106)), some (.inl x1), none, none] := by rw [zm_235]; rfl
  unfold zCi zCw
  rw [ea, zr_235]
  have hq : 6 ≤ 6 := Nat.le_refl _
  unfold lm_awake at h
  have h := zS_mono h (fun x hx => (⟨x.1, rfl, hx⟩ : ∃ y, (some (.inl x.1) : Option zV) = some (.inl y) ∧ P y x.2))
  skip
  refine E_aload_n (pc := 0) (zDk zD_235_ok 0 rfl) rfl ?_
  refine E_iload_n (pc := 1) (zDk zD_235_ok 1 rfl) rfl ?_
  obtain ⟨r2_, e2, h⟩ := zS_bind h
  refine E_virI (pc := 2) (c := 230) (r := 106) (as := [.inl x1]) (rest := []) (zDk zD_235_ok 2 rfl) zc_235 (by decide +kernel) zk_230 ⟨(Nat.le_of_ble_eq_true rfl), rfl, rfl⟩ (Nat.le_of_ble_eq_true rfl) (zr_230 _) (Nat.lt_of_lt_of_le (by decide) hq) (by rw [zm_230]; exact (Nat.le_of_ble_eq_true rfl)) ⟨zc_230, by decide⟩ zis_8_106 (ok_lm_asksStep ⟨r2_, e2, ?_⟩)
  refine E_if (pc := 5) (t := 11) (zDk zD_235_ok 3 rfl) rfl (fun hz => ?_) (fun hz => ?_)
  · have h := zS_f h (T_ne hz)
    refine E_iconst (pc := 11) (zDk zD_235_ok 6 rfl) (by decide +kernel) ?_
    refine W_istore_n (pc := 12) (L' := [some (.inr (.inr 106)), some (.inl x1), some (.inl (0 : Int)), none]) (zDk zD_235_ok 7 rfl) zm_235 (by decide) rfl ?_
    refine E_iconst (pc := 13) (zDk zD_235_ok 8 rfl) (by decide +kernel) ?_
    refine W_istore_n (pc := 14) (L' := [some (.inr (.inr 106)), some (.inl x1), some (.inl (0 : Int)), some (.inl (0 : Int))]) (zDk zD_235_ok 9 rfl) zm_235 (by decide) rfl ?_
    exact ok_lm_awake_c15 hq x1 zN (0 : Int) (0 : Int) r2_.2 h
  · have h := zS_t h (F_ne hz)
    refine E_bipush (pc := 8) (zDk zD_235_ok 4 rfl) (by decide +kernel) ?_
    have h := zS_some h
    exact E_ireturn (pc := 10) (zDk zD_235_ok 5 rfl) zt_235 h
def zD_237 : List (Nat × Instr × Nat) := [(0, .aload_n (0), 1), (1, .iload_n (2), 1), (2, .invokevirtual (314), 3), (5, .ifCond .eq (21), 3), (8, .aload_n (0), 1), (9, .iload_n (1), 1), (10, .i2l, 1), (11, .invokevirtual (261), 3), (14, .ifCond .eq (12), 3), (17, .aload_n (0), 1), (18, .iload_n (1), 1), (19, .iload_n (2), 1), (20, .invokevirtual (317), 3), (23, .goto (5), 3), (26, .bipush (-2), 2), (28, .ireturn, 1)]
set_option maxRecDepth 100000 in
theorem zD_237_ok : zDo 237 zD_237 = true := by decide +kernel
theorem zc_237 : zcls 237 = 8 := by decide +kernel
theorem zm_237 : zml 237 = 3 := by decide +kernel
theorem zt_237 : zrt 237 = (some (.int)) := by decide +kernel
theorem zk_237 : zkd 237 = 1 ∧ znp 237 + 1 = 3 := by decide +kernel
theorem zr_237 (as : List zV) : zrk 237 as = 6 := by unfold zrk; rw [if_neg (by decide)]; decide +kernel
def lm_here (x1 : Int) (x2 : Int) (M : Nat → Nat → Int) : Option (Int × (Nat → Nat → Int)) :=
    ((lm_asksStep x2 M).bind (fun r2_ =>
    (if r2_.1 = 0 then
    (some ((-2 : Int), r2_.2))
    else
    ((lm_isCorner x1 r2_.2).bind (fun v11 =>
    (if v11 = 0 then
    (some ((-2 : Int), r2_.2))
    else
    ((lm_hereOf x1 x2 r2_.2).bind (fun v20 =>
    (some (v20, r2_.2))))))))))
set_option maxRecDepth 100000 in
theorem ok_lm_here {sc : zSc} {x1 : Int} {x2 : Int} {M : Nat → Nat → Int} {P : Int → (Nat → Nat → Int) → Prop} (h : zS (lm_here x1 x2 M) (fun r => P r.1 r.2)) : zCi sc 237 [.inr (.inr 106), .inl x1, .inl x2] M P := by
  have ea : zarg (zml 237) [.inr (.inr 106), .inl x1, .inl x2] = [some (.inr (.inr 106)), some (.inl x1), some (.inl x2)] := by rw [zm_237]; rfl
  unfold zCi zCw
  rw [ea, zr_237]
  have hq : 6 ≤ 6 := Nat.le_refl _
  unfold lm_here at h
  have h := zS_mono h (fun x hx => (⟨x.1, rfl, hx⟩ : ∃ y, (some (.inl x.1) : Option zV) = some (.inl y) ∧ P y x.2))
  skip
  refine E_aload_n (pc := 0) (zDk zD_237_ok 0 rfl) rfl ?_
  refine E_iload_n (pc := 1) (zDk zD_237_ok 1 rfl) rfl ?_
  obtain ⟨r2_, e2, h⟩ := zS_bind h
  refine E_virI (pc := 2) (c := 230) (r := 106) (as := [.inl x2]) (rest := []) (zDk zD_237_ok 2 rfl) zc_237 (by decide +kernel) zk_230 ⟨(Nat.le_of_ble_eq_true rfl), rfl, rfl⟩ (Nat.le_of_ble_eq_true rfl) (zr_230 _) (Nat.lt_of_lt_of_le (by decide) hq) (by rw [zm_230]; exact (Nat.le_of_ble_eq_true rfl)) ⟨zc_230, by decide⟩ zis_8_106 (ok_lm_asksStep ⟨r2_, e2, ?_⟩)
  refine E_if (pc := 5) (t := 26) (zDk zD_237_ok 3 rfl) rfl (fun hz => ?_) (fun hz => ?_)
  · have h := zS_t h (T_eq hz)
    refine E_bipush (pc := 26) (zDk zD_237_ok 14 rfl) (by decide +kernel) ?_
    have h := zS_some h
    exact E_ireturn (pc := 28) (zDk zD_237_ok 15 rfl) zt_237 h
  · have h := zS_f h (F_eq hz)
    refine E_aload_n (pc := 8) (zDk zD_237_ok 4 rfl) rfl ?_
    refine E_iload_n (pc := 9) (zDk zD_237_ok 5 rfl) rfl ?_
    refine E_i2l (pc := 10) (zDk zD_237_ok 6 rfl) ?_
    obtain ⟨v11, e11, h⟩ := zS_bind h
    refine E_virI (pc := 11) (c := 185) (r := 106) (as := [.inr (.inl x1)]) (rest := []) (zDk zD_237_ok 7 rfl) zc_237 (by decide +kernel) zk_185 ⟨(Nat.le_of_ble_eq_true rfl), rfl, rfl⟩ (Nat.le_of_ble_eq_true rfl) (zr_185 _) (Nat.lt_of_lt_of_le (by decide) hq) (by rw [zm_185]; exact (Nat.le_of_ble_eq_true rfl)) ⟨zc_185, by decide⟩ zis_8_106 (ok_lm_isCorner ⟨v11, e11, ?_⟩)
    refine E_if (pc := 14) (t := 26) (zDk zD_237_ok 8 rfl) rfl (fun hz => ?_) (fun hz => ?_)
    · have h := zS_t h (T_eq hz)
      refine E_bipush (pc := 26) (zDk zD_237_ok 14 rfl) (by decide +kernel) ?_
      have h := zS_some h
      exact E_ireturn (pc := 28) (zDk zD_237_ok 15 rfl) zt_237 h
    · have h := zS_f h (F_eq hz)
      refine E_aload_n (pc := 17) (zDk zD_237_ok 9 rfl) rfl ?_
      refine E_iload_n (pc := 18) (zDk zD_237_ok 10 rfl) rfl ?_
      refine E_iload_n (pc := 19) (zDk zD_237_ok 11 rfl) rfl ?_
      obtain ⟨v20, e20, h⟩ := zS_bind h
      refine E_virI (pc := 20) (c := 236) (r := 106) (as := [.inl x1, .inl x2]) (rest := []) (zDk zD_237_ok 12 rfl) zc_237 (by decide +kernel) zk_236 ⟨(Nat.le_of_ble_eq_true rfl), rfl, rfl⟩ (Nat.le_of_ble_eq_true rfl) (zr_236 _) (Nat.lt_of_lt_of_le (by decide) hq) (by rw [zm_236]; exact (Nat.le_of_ble_eq_true rfl)) ⟨zc_236, by decide⟩ zis_8_106 (ok_lm_hereOf ⟨v20, e20, ?_⟩)
      refine E_goto (pc := 23) (t := 28) (zDk zD_237_ok 13 rfl) rfl ?_
      have h := zS_some h
      exact E_ireturn (pc := 28) (zDk zD_237_ok 15 rfl) zt_237 h
def zD_239 : List (Nat × Instr × Nat) := [(0, .aload_n (0), 1), (1, .iload_n (1), 1), (2, .invokevirtual (320), 3), (5, .ifCond .eq (11), 3), (8, .aload_n (0), 1), (9, .iload_n (1), 1), (10, .invokevirtual (323), 3), (13, .goto (5), 3), (16, .bipush (-2), 2), (18, .ireturn, 1)]
set_option maxRecDepth 100000 in
theorem zD_239_ok : zDo 239 zD_239 = true := by decide +kernel
theorem zc_239 : zcls 239 = 8 := by decide +kernel
theorem zm_239 : zml 239 = 2 := by decide +kernel
theorem zt_239 : zrt 239 = (some (.int)) := by decide +kernel
theorem zk_239 : zkd 239 = 1 ∧ znp 239 + 1 = 2 := by decide +kernel
theorem zr_239 (as : List zV) : zrk 239 as = 6 := by unfold zrk; rw [if_neg (by decide)]; decide +kernel
def lm_sleeps (x1 : Int) (M : Nat → Nat → Int) : Option (Int × (Nat → Nat → Int)) :=
    ((lm_asksName x1 M).bind (fun r2_ =>
    (if r2_.1 = 0 then
    (some ((-2 : Int), r2_.2))
    else
    ((lm_sleepsOf x1 r2_.2).bind (fun v10 =>
    (some (v10, r2_.2)))))))
set_option maxRecDepth 100000 in
theorem ok_lm_sleeps {sc : zSc} {x1 : Int} {M : Nat → Nat → Int} {P : Int → (Nat → Nat → Int) → Prop} (h : zS (lm_sleeps x1 M) (fun r => P r.1 r.2)) : zCi sc 239 [.inr (.inr 106), .inl x1] M P := by
  have ea : zarg (zml 239) [.inr (.inr 106), .inl x1] = [some (.inr (.inr 106)), some (.inl x1)] := by rw [zm_239]; rfl
  unfold zCi zCw
  rw [ea, zr_239]
  have hq : 6 ≤ 6 := Nat.le_refl _
  unfold lm_sleeps at h
  have h := zS_mono h (fun x hx => (⟨x.1, rfl, hx⟩ : ∃ y, (some (.inl x.1) : Option zV) = some (.inl y) ∧ P y x.2))
  skip
  refine E_aload_n (pc := 0) (zDk zD_239_ok 0 rfl) rfl ?_
  refine E_iload_n (pc := 1) (zDk zD_239_ok 1 rfl) rfl ?_
  obtain ⟨r2_, e2, h⟩ := zS_bind h
  refine E_virI (pc := 2) (c := 231) (r := 106) (as := [.inl x1]) (rest := []) (zDk zD_239_ok 2 rfl) zc_239 (by decide +kernel) zk_231 ⟨(Nat.le_of_ble_eq_true rfl), rfl, rfl⟩ (Nat.le_of_ble_eq_true rfl) (zr_231 _) (Nat.lt_of_lt_of_le (by decide) hq) (by rw [zm_231]; exact (Nat.le_of_ble_eq_true rfl)) ⟨zc_231, by decide⟩ zis_8_106 (ok_lm_asksName ⟨r2_, e2, ?_⟩)
  refine E_if (pc := 5) (t := 16) (zDk zD_239_ok 3 rfl) rfl (fun hz => ?_) (fun hz => ?_)
  · have h := zS_t h (T_eq hz)
    refine E_bipush (pc := 16) (zDk zD_239_ok 8 rfl) (by decide +kernel) ?_
    have h := zS_some h
    exact E_ireturn (pc := 18) (zDk zD_239_ok 9 rfl) zt_239 h
  · have h := zS_f h (F_eq hz)
    refine E_aload_n (pc := 8) (zDk zD_239_ok 4 rfl) rfl ?_
    refine E_iload_n (pc := 9) (zDk zD_239_ok 5 rfl) rfl ?_
    obtain ⟨v10, e10, h⟩ := zS_bind h
    refine E_virI (pc := 10) (c := 238) (r := 106) (as := [.inl x1]) (rest := []) (zDk zD_239_ok 6 rfl) zc_239 (by decide +kernel) zk_238 ⟨(Nat.le_of_ble_eq_true rfl), rfl, rfl⟩ (Nat.le_of_ble_eq_true rfl) (zr_238 _) (Nat.lt_of_lt_of_le (by decide) hq) (by rw [zm_238]; exact (Nat.le_of_ble_eq_true rfl)) ⟨zc_238, by decide⟩ zis_8_106 (ok_lm_sleepsOf ⟨v10, e10, ?_⟩)
    refine E_goto (pc := 13) (t := 18) (zDk zD_239_ok 7 rfl) rfl ?_
    have h := zS_some h
    exact E_ireturn (pc := 18) (zDk zD_239_ok 9 rfl) zt_239 h
def zD_240 : List (Nat × Instr × Nat) := [(0, .aload_n (0), 1), (1, .iload_n (1), 1), (2, .invokevirtual (320), 3), (5, .ifCond .eq (12), 3), (8, .aload_n (0), 1), (9, .getfield (58), 3), (12, .iload_n (1), 1), (13, .iaload, 1), (14, .goto (5), 3), (17, .bipush (-2), 2), (19, .ireturn, 1)]
set_option maxRecDepth 100000 in
theorem zD_240_ok : zDo 240 zD_240 = true := by decide +kernel
theorem zc_240 : zcls 240 = 8 := by decide +kernel
theorem zm_240 : zml 240 = 2 := by decide +kernel
theorem zt_240 : zrt 240 = (some (.int)) := by decide +kernel
theorem zk_240 : zkd 240 = 1 ∧ znp 240 + 1 = 2 := by decide +kernel
theorem zr_240 (as : List zV) : zrk 240 as = 6 := by unfold zrk; rw [if_neg (by decide)]; decide +kernel
def lm_goes (x1 : Int) (M : Nat → Nat → Int) : Option (Int × (Nat → Nat → Int)) :=
    ((lm_asksName x1 M).bind (fun r2_ =>
    (if r2_.1 = 0 then
    (some ((-2 : Int), r2_.2))
    else
    ((rdI 121 x1 r2_.2).bind (fun v13 =>
    (some (v13, r2_.2)))))))
set_option maxRecDepth 100000 in
theorem ok_lm_goes {sc : zSc} {x1 : Int} {M : Nat → Nat → Int} {P : Int → (Nat → Nat → Int) → Prop} (h : zS (lm_goes x1 M) (fun r => P r.1 r.2)) : zCi sc 240 [.inr (.inr 106), .inl x1] M P := by
  have ea : zarg (zml 240) [.inr (.inr 106), .inl x1] = [some (.inr (.inr 106)), some (.inl x1)] := by rw [zm_240]; rfl
  unfold zCi zCw
  rw [ea, zr_240]
  have hq : 6 ≤ 6 := Nat.le_refl _
  unfold lm_goes at h
  have h := zS_mono h (fun x hx => (⟨x.1, rfl, hx⟩ : ∃ y, (some (.inl x.1) : Option zV) = some (.inl y) ∧ P y x.2))
  skip
  refine E_aload_n (pc := 0) (zDk zD_240_ok 0 rfl) rfl ?_
  refine E_iload_n (pc := 1) (zDk zD_240_ok 1 rfl) rfl ?_
  obtain ⟨r2_, e2, h⟩ := zS_bind h
  refine E_virI (pc := 2) (c := 231) (r := 106) (as := [.inl x1]) (rest := []) (zDk zD_240_ok 2 rfl) zc_240 (by decide +kernel) zk_231 ⟨(Nat.le_of_ble_eq_true rfl), rfl, rfl⟩ (Nat.le_of_ble_eq_true rfl) (zr_231 _) (Nat.lt_of_lt_of_le (by decide) hq) (by rw [zm_231]; exact (Nat.le_of_ble_eq_true rfl)) ⟨zc_231, by decide⟩ zis_8_106 (ok_lm_asksName ⟨r2_, e2, ?_⟩)
  refine E_if (pc := 5) (t := 17) (zDk zD_240_ok 3 rfl) rfl (fun hz => ?_) (fun hz => ?_)
  · have h := zS_t h (T_eq hz)
    refine E_bipush (pc := 17) (zDk zD_240_ok 9 rfl) (by decide +kernel) ?_
    have h := zS_some h
    exact E_ireturn (pc := 19) (zDk zD_240_ok 10 rfl) zt_240 h
  · have h := zS_f h (F_eq hz)
    refine E_aload_n (pc := 8) (zDk zD_240_ok 4 rfl) rfl ?_
    refine E_getR (pc := 9) (ci := 8) (f := 27) (r := 121) (zDk zD_240_ok 5 rfl) zc_240 (by decide +kernel) (by decide) zis_8_106 (by decide +kernel) (by decide) ?_
    refine E_iload_n (pc := 12) (zDk zD_240_ok 6 rfl) rfl ?_
    obtain ⟨v13, e13, h⟩ := zS_bind h
    refine E_iaload (pc := 13) (zDk zD_240_ok 7 rfl) e13 ?_
    refine E_goto (pc := 14) (t := 19) (zDk zD_240_ok 8 rfl) rfl ?_
    have h := zS_some h
    exact E_ireturn (pc := 19) (zDk zD_240_ok 10 rfl) zt_240 h
def zD_241 : List (Nat × Instr × Nat) := [(0, .aload_n (0), 1), (1, .iload_n (1), 1), (2, .invokevirtual (320), 3), (5, .ifCond .eq (12), 3), (8, .aload_n (0), 1), (9, .getfield (61), 3), (12, .iload_n (1), 1), (13, .iaload, 1), (14, .goto (5), 3), (17, .bipush (-2), 2), (19, .ireturn, 1)]
set_option maxRecDepth 100000 in
theorem zD_241_ok : zDo 241 zD_241 = true := by decide +kernel
theorem zc_241 : zcls 241 = 8 := by decide +kernel
theorem zm_241 : zml 241 = 2 := by decide +kernel
theorem zt_241 : zrt 241 = (some (.int)) := by decide +kernel
theorem zk_241 : zkd 241 = 1 ∧ znp 241 + 1 = 2 := by decide +kernel
theorem zr_241 (as : List zV) : zrk 241 as = 6 := by unfold zrk; rw [if_neg (by decide)]; decide +kernel
def lm_stuck (x1 : Int) (M : Nat → Nat → Int) : Option (Int × (Nat → Nat → Int)) :=
    ((lm_asksName x1 M).bind (fun r2_ =>
    (if r2_.1 = 0 then
    (some ((-2 : Int), r2_.2))
    else
    ((rdI 122 x1 r2_.2).bind (fun v13 =>
    (some (v13, r2_.2)))))))
set_option maxRecDepth 100000 in
theorem ok_lm_stuck {sc : zSc} {x1 : Int} {M : Nat → Nat → Int} {P : Int → (Nat → Nat → Int) → Prop} (h : zS (lm_stuck x1 M) (fun r => P r.1 r.2)) : zCi sc 241 [.inr (.inr 106), .inl x1] M P := by
  have ea : zarg (zml 241) [.inr (.inr 106), .inl x1] = [some (.inr (.inr 106)), some (.inl x1)] := by rw [zm_241]; rfl
  unfold zCi zCw
  rw [ea, zr_241]
  have hq : 6 ≤ 6 := Nat.le_refl _
  unfold lm_stuck at h
  have h := zS_mono h (fun x hx => (⟨x.1, rfl, hx⟩ : ∃ y, (some (.inl x.1) : Option zV) = some (.inl y) ∧ P y x.2))
  skip
  refine E_aload_n (pc := 0) (zDk zD_241_ok 0 rfl) rfl ?_
  refine E_iload_n (pc := 1) (zDk zD_241_ok 1 rfl) rfl ?_
  obtain ⟨r2_, e2, h⟩ := zS_bind h
  refine E_virI (pc := 2) (c := 231) (r := 106) (as := [.inl x1]) (rest := []) (zDk zD_241_ok 2 rfl) zc_241 (by decide +kernel) zk_231 ⟨(Nat.le_of_ble_eq_true rfl), rfl, rfl⟩ (Nat.le_of_ble_eq_true rfl) (zr_231 _) (Nat.lt_of_lt_of_le (by decide) hq) (by rw [zm_231]; exact (Nat.le_of_ble_eq_true rfl)) ⟨zc_231, by decide⟩ zis_8_106 (ok_lm_asksName ⟨r2_, e2, ?_⟩)
  refine E_if (pc := 5) (t := 17) (zDk zD_241_ok 3 rfl) rfl (fun hz => ?_) (fun hz => ?_)
  · have h := zS_t h (T_eq hz)
    refine E_bipush (pc := 17) (zDk zD_241_ok 9 rfl) (by decide +kernel) ?_
    have h := zS_some h
    exact E_ireturn (pc := 19) (zDk zD_241_ok 10 rfl) zt_241 h
  · have h := zS_f h (F_eq hz)
    refine E_aload_n (pc := 8) (zDk zD_241_ok 4 rfl) rfl ?_
    refine E_getR (pc := 9) (ci := 8) (f := 28) (r := 122) (zDk zD_241_ok 5 rfl) zc_241 (by decide +kernel) (by decide) zis_8_106 (by decide +kernel) (by decide) ?_
    refine E_iload_n (pc := 12) (zDk zD_241_ok 6 rfl) rfl ?_
    obtain ⟨v13, e13, h⟩ := zS_bind h
    refine E_iaload (pc := 13) (zDk zD_241_ok 7 rfl) e13 ?_
    refine E_goto (pc := 14) (t := 19) (zDk zD_241_ok 8 rfl) rfl ?_
    have h := zS_some h
    exact E_ireturn (pc := 19) (zDk zD_241_ok 10 rfl) zt_241 h
def zD_242 : List (Nat × Instr × Nat) := [(0, .aload_n (0), 1), (1, .iload_n (1), 1), (2, .invokevirtual (320), 3), (5, .ifCond .ne (6), 3), (8, .bipush (-2), 2), (10, .ireturn, 1), (11, .iconst (0), 1), (12, .istore_n (2), 1), (13, .iconst (0), 1), (14, .istore_n (3), 1), (15, .iload_n (3), 1), (16, .aload_n (0), 1), (17, .invokevirtual (99), 3), (20, .if_icmp .gt (20), 3), (23, .iload_n (2), 1), (24, .iconst (1), 1), (25, .aload_n (0), 1), (26, .iload_n (1), 1), (27, .iload_n (3), 1), (28, .invokevirtual (276), 3), (31, .ishl, 1), (32, .ior, 1), (33, .istore_n (2), 1), (34, .iinc (3) (1), 3), (37, .goto (-22), 3), (40, .iload_n (2), 1), (41, .ireturn, 1)]
set_option maxRecDepth 100000 in
theorem zD_242_ok : zDo 242 zD_242 = true := by decide +kernel
theorem zc_242 : zcls 242 = 8 := by decide +kernel
theorem zm_242 : zml 242 = 4 := by decide +kernel
theorem zt_242 : zrt 242 = (some (.int)) := by decide +kernel
theorem zk_242 : zkd 242 = 1 ∧ znp 242 + 1 = 2 := by decide +kernel
theorem zr_242 (as : List zV) : zrk 242 as = 6 := by unfold zrk; rw [if_neg (by decide)]; decide +kernel
def lm_sees_c15 (x1 : Int) : Nat → Int → Int → (Nat → Nat → Int) → Option (Int × (Nat → Nat → Int))
  | 0, _, _, _ => none
  | n + 1, y2, y3, M =>
    ((lm_last M).bind (fun v17 =>
    (if v17 < y3 then
    (some (y2, M))
    else
    ((lm_placeOf x1 y3 M).bind (fun v28 =>
    ((lm_sees_c15 x1 n) (zor y2 (zshl (1 : Int) v28)) (w32 (y3 + 1)) M))))))
set_option maxRecDepth 100000 in
theorem ok_lm_sees_c15 {sc : zSc} {q : Nat} {P : Option zV → (Nat → Nat → Int) → Prop} (hq : 6 ≤ q) (x1 : Int) : ∀ (n : Nat) (y2 : Int) (y3 : Int) (M : Nat → Nat → Int), zS (lm_sees_c15 x1 n y2 y3 M) (fun r => P (some (.inl r.1)) r.2) → zWp sc q 242 15 [some (.inr (.inr 106)), some (.inl x1), some (.inl y2), some (.inl y3)] [] M P := by
  intro n
  induction n with
  | zero => intro y2 y3 M h; exact (zS_none h).elim
  | succ n ih =>
    intro y2 y3 M h
    rw [lm_sees_c15] at h
    refine E_iload_n (pc := 15) (zDk zD_242_ok 10 rfl) rfl ?_
    refine E_aload_n (pc := 16) (zDk zD_242_ok 11 rfl) rfl ?_
    obtain ⟨v17, e17, h⟩ := zS_bind h
    refine E_virI (pc := 17) (c := 182) (r := 106) (as := []) (rest := [.inl y3]) (zDk zD_242_ok 12 rfl) zc_242 (by decide +kernel) zk_182 ⟨(Nat.le_of_ble_eq_true rfl), rfl, rfl⟩ (Nat.le_of_ble_eq_true rfl) (zr_182 _) (Nat.lt_of_lt_of_le (by decide) hq) (by rw [zm_182]; exact (Nat.le_of_ble_eq_true rfl)) ⟨zc_182, by decide⟩ zis_8_106 (ok_lm_last ⟨v17, e17, ?_⟩)
    refine E_icmp (pc := 20) (t := 40) (zDk zD_242_ok 13 rfl) rfl (fun hz => ?_) (fun hz => ?_)
    · have h := zS_t h (T_gt hz)
      refine E_iload_n (pc := 40) (zDk zD_242_ok 25 rfl) rfl ?_
      have h := zS_some h
      exact E_ireturn (pc := 41) (zDk zD_242_ok 26 rfl) zt_242 h
    · have h := zS_f h (Int.not_lt.mpr (F_gt hz))
      refine E_iload_n (pc := 23) (zDk zD_242_ok 14 rfl) rfl ?_
      refine E_iconst (pc := 24) (zDk zD_242_ok 15 rfl) (by decide +kernel) ?_
      refine E_aload_n (pc := 25) (zDk zD_242_ok 16 rfl) rfl ?_
      refine E_iload_n (pc := 26) (zDk zD_242_ok 17 rfl) rfl ?_
      refine E_iload_n (pc := 27) (zDk zD_242_ok 18 rfl) rfl ?_
      obtain ⟨v28, e28, h⟩ := zS_bind h
      refine E_virI (pc := 28) (c := 221) (r := 106) (as := [.inl x1, .inl y3]) (rest := [.inl (1 : Int), .inl y2]) (zDk zD_242_ok 19 rfl) zc_242 (by decide +kernel) zk_221 ⟨(Nat.le_of_ble_eq_true rfl), rfl, rfl⟩ (Nat.le_of_ble_eq_true rfl) (zr_221 _) (Nat.lt_of_lt_of_le (by decide) hq) (by rw [zm_221]; exact (Nat.le_of_ble_eq_true rfl)) ⟨zc_221, by decide⟩ zis_8_106 (ok_lm_placeOf ⟨v28, e28, ?_⟩)
      refine E_ishl (pc := 31) (zDk zD_242_ok 20 rfl) ?_
      refine E_ior (pc := 32) (zDk zD_242_ok 21 rfl) ?_
      refine W_istore_n (pc := 33) (L' := [some (.inr (.inr 106)), some (.inl x1), some (.inl (zor y2 (zshl (1 : Int) v28))), some (.inl y3)]) (zDk zD_242_ok 22 rfl) zm_242 (by decide) rfl ?_
      refine W_iinc (pc := 34) (L' := [some (.inr (.inr 106)), some (.inl x1), some (.inl (zor y2 (zshl (1 : Int) v28))), some (.inl (w32 (y3 + 1)))]) (zDk zD_242_ok 23 rfl) rfl zm_242 (by decide) rfl ?_
      refine E_goto (pc := 37) (t := 15) (zDk zD_242_ok 24 rfl) rfl ?_
      exact (ih) (zor y2 (zshl (1 : Int) v28)) (w32 (y3 + 1)) M h
def lm_sees (x1 : Int) (M : Nat → Nat → Int) : Option (Int × (Nat → Nat → Int)) :=
    ((lm_asksName x1 M).bind (fun r2_ =>
    (if r2_.1 = 0 then
    (some ((-2 : Int), r2_.2))
    else
    (lm_sees_c15 x1 zN (0 : Int) (0 : Int) r2_.2))))
set_option maxRecDepth 100000 in
theorem ok_lm_sees {sc : zSc} {x1 : Int} {M : Nat → Nat → Int} {P : Int → (Nat → Nat → Int) → Prop} (h : zS (lm_sees x1 M) (fun r => P r.1 r.2)) : zCi sc 242 [.inr (.inr 106), .inl x1] M P := by
  have ea : zarg (zml 242) [.inr (.inr 106), .inl x1] = [some (.inr (.inr 106)), some (.inl x1), none, none] := by rw [zm_242]; rfl
  unfold zCi zCw
  rw [ea, zr_242]
  have hq : 6 ≤ 6 := Nat.le_refl _
  unfold lm_sees at h
  have h := zS_mono h (fun x hx => (⟨x.1, rfl, hx⟩ : ∃ y, (some (.inl x.1) : Option zV) = some (.inl y) ∧ P y x.2))
  skip
  refine E_aload_n (pc := 0) (zDk zD_242_ok 0 rfl) rfl ?_
  refine E_iload_n (pc := 1) (zDk zD_242_ok 1 rfl) rfl ?_
  obtain ⟨r2_, e2, h⟩ := zS_bind h
  refine E_virI (pc := 2) (c := 231) (r := 106) (as := [.inl x1]) (rest := []) (zDk zD_242_ok 2 rfl) zc_242 (by decide +kernel) zk_231 ⟨(Nat.le_of_ble_eq_true rfl), rfl, rfl⟩ (Nat.le_of_ble_eq_true rfl) (zr_231 _) (Nat.lt_of_lt_of_le (by decide) hq) (by rw [zm_231]; exact (Nat.le_of_ble_eq_true rfl)) ⟨zc_231, by decide⟩ zis_8_106 (ok_lm_asksName ⟨r2_, e2, ?_⟩)
  refine E_if (pc := 5) (t := 11) (zDk zD_242_ok 3 rfl) rfl (fun hz => ?_) (fun hz => ?_)
  · have h := zS_f h (T_ne hz)
    refine E_iconst (pc := 11) (zDk zD_242_ok 6 rfl) (by decide +kernel) ?_
    refine W_istore_n (pc := 12) (L' := [some (.inr (.inr 106)), some (.inl x1), some (.inl (0 : Int)), none]) (zDk zD_242_ok 7 rfl) zm_242 (by decide) rfl ?_
    refine E_iconst (pc := 13) (zDk zD_242_ok 8 rfl) (by decide +kernel) ?_
    refine W_istore_n (pc := 14) (L' := [some (.inr (.inr 106)), some (.inl x1), some (.inl (0 : Int)), some (.inl (0 : Int))]) (zDk zD_242_ok 9 rfl) zm_242 (by decide) rfl ?_
    exact ok_lm_sees_c15 hq x1 zN (0 : Int) (0 : Int) r2_.2 h
  · have h := zS_t h (F_ne hz)
    refine E_bipush (pc := 8) (zDk zD_242_ok 4 rfl) (by decide +kernel) ?_
    have h := zS_some h
    exact E_ireturn (pc := 10) (zDk zD_242_ok 5 rfl) zt_242 h
def zD_243 : List (Nat × Instr × Nat) := [(0, .aload_n (0), 1), (1, .iload_n (1), 1), (2, .invokevirtual (320), 3), (5, .ifCond .eq (12), 3), (8, .aload_n (0), 1), (9, .getfield (64), 3), (12, .iload_n (1), 1), (13, .iaload, 1), (14, .goto (5), 3), (17, .bipush (-2), 2), (19, .ireturn, 1)]
set_option maxRecDepth 100000 in
theorem zD_243_ok : zDo 243 zD_243 = true := by decide +kernel
theorem zc_243 : zcls 243 = 8 := by decide +kernel
theorem zm_243 : zml 243 = 2 := by decide +kernel
theorem zt_243 : zrt 243 = (some (.int)) := by decide +kernel
theorem zk_243 : zkd 243 = 1 ∧ znp 243 + 1 = 2 := by decide +kernel
theorem zr_243 (as : List zV) : zrk 243 as = 6 := by unfold zrk; rw [if_neg (by decide)]; decide +kernel
def lm_drinks (x1 : Int) (M : Nat → Nat → Int) : Option (Int × (Nat → Nat → Int)) :=
    ((lm_asksName x1 M).bind (fun r2_ =>
    (if r2_.1 = 0 then
    (some ((-2 : Int), r2_.2))
    else
    ((rdI 123 x1 r2_.2).bind (fun v13 =>
    (some (v13, r2_.2)))))))
set_option maxRecDepth 100000 in
theorem ok_lm_drinks {sc : zSc} {x1 : Int} {M : Nat → Nat → Int} {P : Int → (Nat → Nat → Int) → Prop} (h : zS (lm_drinks x1 M) (fun r => P r.1 r.2)) : zCi sc 243 [.inr (.inr 106), .inl x1] M P := by
  have ea : zarg (zml 243) [.inr (.inr 106), .inl x1] = [some (.inr (.inr 106)), some (.inl x1)] := by rw [zm_243]; rfl
  unfold zCi zCw
  rw [ea, zr_243]
  have hq : 6 ≤ 6 := Nat.le_refl _
  unfold lm_drinks at h
  have h := zS_mono h (fun x hx => (⟨x.1, rfl, hx⟩ : ∃ y, (some (.inl x.1) : Option zV) = some (.inl y) ∧ P y x.2))
  skip
  refine E_aload_n (pc := 0) (zDk zD_243_ok 0 rfl) rfl ?_
  refine E_iload_n (pc := 1) (zDk zD_243_ok 1 rfl) rfl ?_
  obtain ⟨r2_, e2, h⟩ := zS_bind h
  refine E_virI (pc := 2) (c := 231) (r := 106) (as := [.inl x1]) (rest := []) (zDk zD_243_ok 2 rfl) zc_243 (by decide +kernel) zk_231 ⟨(Nat.le_of_ble_eq_true rfl), rfl, rfl⟩ (Nat.le_of_ble_eq_true rfl) (zr_231 _) (Nat.lt_of_lt_of_le (by decide) hq) (by rw [zm_231]; exact (Nat.le_of_ble_eq_true rfl)) ⟨zc_231, by decide⟩ zis_8_106 (ok_lm_asksName ⟨r2_, e2, ?_⟩)
  refine E_if (pc := 5) (t := 17) (zDk zD_243_ok 3 rfl) rfl (fun hz => ?_) (fun hz => ?_)
  · have h := zS_t h (T_eq hz)
    refine E_bipush (pc := 17) (zDk zD_243_ok 9 rfl) (by decide +kernel) ?_
    have h := zS_some h
    exact E_ireturn (pc := 19) (zDk zD_243_ok 10 rfl) zt_243 h
  · have h := zS_f h (F_eq hz)
    refine E_aload_n (pc := 8) (zDk zD_243_ok 4 rfl) rfl ?_
    refine E_getR (pc := 9) (ci := 8) (f := 29) (r := 123) (zDk zD_243_ok 5 rfl) zc_243 (by decide +kernel) (by decide) zis_8_106 (by decide +kernel) (by decide) ?_
    refine E_iload_n (pc := 12) (zDk zD_243_ok 6 rfl) rfl ?_
    obtain ⟨v13, e13, h⟩ := zS_bind h
    refine E_iaload (pc := 13) (zDk zD_243_ok 7 rfl) e13 ?_
    refine E_goto (pc := 14) (t := 19) (zDk zD_243_ok 8 rfl) rfl ?_
    have h := zS_some h
    exact E_ireturn (pc := 19) (zDk zD_243_ok 10 rfl) zt_243 h
def zD_244 : List (Nat × Instr × Nat) := [(0, .aload_n (0), 1), (1, .iload_n (1), 1), (2, .invokevirtual (326), 3), (5, .ifCond .eq (12), 3), (8, .aload_n (0), 1), (9, .getfield (52), 3), (12, .iload_n (1), 1), (13, .iaload, 1), (14, .goto (5), 3), (17, .bipush (-2), 2), (19, .ireturn, 1)]
set_option maxRecDepth 100000 in
theorem zD_244_ok : zDo 244 zD_244 = true := by decide +kernel
theorem zc_244 : zcls 244 = 8 := by decide +kernel
theorem zm_244 : zml 244 = 2 := by decide +kernel
theorem zt_244 : zrt 244 = (some (.int)) := by decide +kernel
theorem zk_244 : zkd 244 = 1 ∧ znp 244 + 1 = 2 := by decide +kernel
theorem zr_244 (as : List zV) : zrk 244 as = 6 := by unfold zrk; rw [if_neg (by decide)]; decide +kernel
def lm_signed (x1 : Int) (M : Nat → Nat → Int) : Option (Int × (Nat → Nat → Int)) :=
    ((lm_asksContract x1 M).bind (fun r2_ =>
    (if r2_.1 = 0 then
    (some ((-2 : Int), r2_.2))
    else
    ((rdI 119 x1 r2_.2).bind (fun v13 =>
    (some (v13, r2_.2)))))))
set_option maxRecDepth 100000 in
theorem ok_lm_signed {sc : zSc} {x1 : Int} {M : Nat → Nat → Int} {P : Int → (Nat → Nat → Int) → Prop} (h : zS (lm_signed x1 M) (fun r => P r.1 r.2)) : zCi sc 244 [.inr (.inr 106), .inl x1] M P := by
  have ea : zarg (zml 244) [.inr (.inr 106), .inl x1] = [some (.inr (.inr 106)), some (.inl x1)] := by rw [zm_244]; rfl
  unfold zCi zCw
  rw [ea, zr_244]
  have hq : 6 ≤ 6 := Nat.le_refl _
  unfold lm_signed at h
  have h := zS_mono h (fun x hx => (⟨x.1, rfl, hx⟩ : ∃ y, (some (.inl x.1) : Option zV) = some (.inl y) ∧ P y x.2))
  skip
  refine E_aload_n (pc := 0) (zDk zD_244_ok 0 rfl) rfl ?_
  refine E_iload_n (pc := 1) (zDk zD_244_ok 1 rfl) rfl ?_
  obtain ⟨r2_, e2, h⟩ := zS_bind h
  refine E_virI (pc := 2) (c := 232) (r := 106) (as := [.inl x1]) (rest := []) (zDk zD_244_ok 2 rfl) zc_244 (by decide +kernel) zk_232 ⟨(Nat.le_of_ble_eq_true rfl), rfl, rfl⟩ (Nat.le_of_ble_eq_true rfl) (zr_232 _) (Nat.lt_of_lt_of_le (by decide) hq) (by rw [zm_232]; exact (Nat.le_of_ble_eq_true rfl)) ⟨zc_232, by decide⟩ zis_8_106 (ok_lm_asksContract ⟨r2_, e2, ?_⟩)
  refine E_if (pc := 5) (t := 17) (zDk zD_244_ok 3 rfl) rfl (fun hz => ?_) (fun hz => ?_)
  · have h := zS_t h (T_eq hz)
    refine E_bipush (pc := 17) (zDk zD_244_ok 9 rfl) (by decide +kernel) ?_
    have h := zS_some h
    exact E_ireturn (pc := 19) (zDk zD_244_ok 10 rfl) zt_244 h
  · have h := zS_f h (F_eq hz)
    refine E_aload_n (pc := 8) (zDk zD_244_ok 4 rfl) rfl ?_
    refine E_getR (pc := 9) (ci := 8) (f := 25) (r := 119) (zDk zD_244_ok 5 rfl) zc_244 (by decide +kernel) (by decide) zis_8_106 (by decide +kernel) (by decide) ?_
    refine E_iload_n (pc := 12) (zDk zD_244_ok 6 rfl) rfl ?_
    obtain ⟨v13, e13, h⟩ := zS_bind h
    refine E_iaload (pc := 13) (zDk zD_244_ok 7 rfl) e13 ?_
    refine E_goto (pc := 14) (t := 19) (zDk zD_244_ok 8 rfl) rfl ?_
    have h := zS_some h
    exact E_ireturn (pc := 19) (zDk zD_244_ok 10 rfl) zt_244 h
def zD_245 : List (Nat × Instr × Nat) := [(0, .aload_n (0), 1), (1, .iload_n (1), 1), (2, .invokevirtual (326), 3), (5, .ifCond .eq (12), 3), (8, .aload_n (0), 1), (9, .getfield (55), 3), (12, .iload_n (1), 1), (13, .iaload, 1), (14, .goto (5), 3), (17, .bipush (-2), 2), (19, .ireturn, 1)]
set_option maxRecDepth 100000 in
theorem zD_245_ok : zDo 245 zD_245 = true := by decide +kernel
theorem zc_245 : zcls 245 = 8 := by decide +kernel
theorem zm_245 : zml 245 = 2 := by decide +kernel
theorem zt_245 : zrt 245 = (some (.int)) := by decide +kernel
theorem zk_245 : zkd 245 = 1 ∧ znp 245 + 1 = 2 := by decide +kernel
theorem zr_245 (as : List zV) : zrk 245 as = 6 := by unfold zrk; rw [if_neg (by decide)]; decide +kernel
def lm_where (x1 : Int) (M : Nat → Nat → Int) : Option (Int × (Nat → Nat → Int)) :=
    ((lm_asksContract x1 M).bind (fun r2_ =>
    (if r2_.1 = 0 then
    (some ((-2 : Int), r2_.2))
    else
    ((rdI 120 x1 r2_.2).bind (fun v13 =>
    (some (v13, r2_.2)))))))
set_option maxRecDepth 100000 in
theorem ok_lm_where {sc : zSc} {x1 : Int} {M : Nat → Nat → Int} {P : Int → (Nat → Nat → Int) → Prop} (h : zS (lm_where x1 M) (fun r => P r.1 r.2)) : zCi sc 245 [.inr (.inr 106), .inl x1] M P := by
  have ea : zarg (zml 245) [.inr (.inr 106), .inl x1] = [some (.inr (.inr 106)), some (.inl x1)] := by rw [zm_245]; rfl
  unfold zCi zCw
  rw [ea, zr_245]
  have hq : 6 ≤ 6 := Nat.le_refl _
  unfold lm_where at h
  have h := zS_mono h (fun x hx => (⟨x.1, rfl, hx⟩ : ∃ y, (some (.inl x.1) : Option zV) = some (.inl y) ∧ P y x.2))
  skip
  refine E_aload_n (pc := 0) (zDk zD_245_ok 0 rfl) rfl ?_
  refine E_iload_n (pc := 1) (zDk zD_245_ok 1 rfl) rfl ?_
  obtain ⟨r2_, e2, h⟩ := zS_bind h
  refine E_virI (pc := 2) (c := 232) (r := 106) (as := [.inl x1]) (rest := []) (zDk zD_245_ok 2 rfl) zc_245 (by decide +kernel) zk_232 ⟨(Nat.le_of_ble_eq_true rfl), rfl, rfl⟩ (Nat.le_of_ble_eq_true rfl) (zr_232 _) (Nat.lt_of_lt_of_le (by decide) hq) (by rw [zm_232]; exact (Nat.le_of_ble_eq_true rfl)) ⟨zc_232, by decide⟩ zis_8_106 (ok_lm_asksContract ⟨r2_, e2, ?_⟩)
  refine E_if (pc := 5) (t := 17) (zDk zD_245_ok 3 rfl) rfl (fun hz => ?_) (fun hz => ?_)
  · have h := zS_t h (T_eq hz)
    refine E_bipush (pc := 17) (zDk zD_245_ok 9 rfl) (by decide +kernel) ?_
    have h := zS_some h
    exact E_ireturn (pc := 19) (zDk zD_245_ok 10 rfl) zt_245 h
  · have h := zS_f h (F_eq hz)
    refine E_aload_n (pc := 8) (zDk zD_245_ok 4 rfl) rfl ?_
    refine E_getR (pc := 9) (ci := 8) (f := 26) (r := 120) (zDk zD_245_ok 5 rfl) zc_245 (by decide +kernel) (by decide) zis_8_106 (by decide +kernel) (by decide) ?_
    refine E_iload_n (pc := 12) (zDk zD_245_ok 6 rfl) rfl ?_
    obtain ⟨v13, e13, h⟩ := zS_bind h
    refine E_iaload (pc := 13) (zDk zD_245_ok 7 rfl) e13 ?_
    refine E_goto (pc := 14) (t := 19) (zDk zD_245_ok 8 rfl) rfl ?_
    have h := zS_some h
    exact E_ireturn (pc := 19) (zDk zD_245_ok 10 rfl) zt_245 h
def zD_248 : List (Nat × Instr × Nat) := [(0, .aload_n (0), 1), (1, .iload_n (1), 1), (2, .invokevirtual (314), 3), (5, .ifCond .eq (11), 3), (8, .aload_n (0), 1), (9, .iload_n (1), 1), (10, .invokevirtual (329), 3), (13, .goto (5), 3), (16, .bipush (-2), 2), (18, .ireturn, 1)]
set_option maxRecDepth 100000 in
theorem zD_248_ok : zDo 248 zD_248 = true := by decide +kernel
theorem zc_248 : zcls 248 = 8 := by decide +kernel
theorem zm_248 : zml 248 = 2 := by decide +kernel
theorem zt_248 : zrt 248 = (some (.int)) := by decide +kernel
theorem zk_248 : zkd 248 = 1 ∧ znp 248 + 1 = 2 := by decide +kernel
theorem zr_248 (as : List zV) : zrk 248 as = 6 := by unfold zrk; rw [if_neg (by decide)]; decide +kernel
def lm_signs (x1 : Int) (M : Nat → Nat → Int) : Option (Int × (Nat → Nat → Int)) :=
    ((lm_asksStep x1 M).bind (fun r2_ =>
    (if r2_.1 = 0 then
    (some ((-2 : Int), r2_.2))
    else
    ((lm_signsTo x1 r2_.2).bind (fun v10 =>
    (some (v10, r2_.2)))))))
set_option maxRecDepth 100000 in
theorem ok_lm_signs {sc : zSc} {x1 : Int} {M : Nat → Nat → Int} {P : Int → (Nat → Nat → Int) → Prop} (h : zS (lm_signs x1 M) (fun r => P r.1 r.2)) : zCi sc 248 [.inr (.inr 106), .inl x1] M P := by
  have ea : zarg (zml 248) [.inr (.inr 106), .inl x1] = [some (.inr (.inr 106)), some (.inl x1)] := by rw [zm_248]; rfl
  unfold zCi zCw
  rw [ea, zr_248]
  have hq : 6 ≤ 6 := Nat.le_refl _
  unfold lm_signs at h
  have h := zS_mono h (fun x hx => (⟨x.1, rfl, hx⟩ : ∃ y, (some (.inl x.1) : Option zV) = some (.inl y) ∧ P y x.2))
  skip
  refine E_aload_n (pc := 0) (zDk zD_248_ok 0 rfl) rfl ?_
  refine E_iload_n (pc := 1) (zDk zD_248_ok 1 rfl) rfl ?_
  obtain ⟨r2_, e2, h⟩ := zS_bind h
  refine E_virI (pc := 2) (c := 230) (r := 106) (as := [.inl x1]) (rest := []) (zDk zD_248_ok 2 rfl) zc_248 (by decide +kernel) zk_230 ⟨(Nat.le_of_ble_eq_true rfl), rfl, rfl⟩ (Nat.le_of_ble_eq_true rfl) (zr_230 _) (Nat.lt_of_lt_of_le (by decide) hq) (by rw [zm_230]; exact (Nat.le_of_ble_eq_true rfl)) ⟨zc_230, by decide⟩ zis_8_106 (ok_lm_asksStep ⟨r2_, e2, ?_⟩)
  refine E_if (pc := 5) (t := 16) (zDk zD_248_ok 3 rfl) rfl (fun hz => ?_) (fun hz => ?_)
  · have h := zS_t h (T_eq hz)
    refine E_bipush (pc := 16) (zDk zD_248_ok 8 rfl) (by decide +kernel) ?_
    have h := zS_some h
    exact E_ireturn (pc := 18) (zDk zD_248_ok 9 rfl) zt_248 h
  · have h := zS_f h (F_eq hz)
    refine E_aload_n (pc := 8) (zDk zD_248_ok 4 rfl) rfl ?_
    refine E_iload_n (pc := 9) (zDk zD_248_ok 5 rfl) rfl ?_
    obtain ⟨v10, e10, h⟩ := zS_bind h
    refine E_virI (pc := 10) (c := 246) (r := 106) (as := [.inl x1]) (rest := []) (zDk zD_248_ok 6 rfl) zc_248 (by decide +kernel) zk_246 ⟨(Nat.le_of_ble_eq_true rfl), rfl, rfl⟩ (Nat.le_of_ble_eq_true rfl) (zr_246 _) (Nat.lt_of_lt_of_le (by decide) hq) (by rw [zm_246]; exact (Nat.le_of_ble_eq_true rfl)) ⟨zc_246, by decide⟩ zis_8_106 (ok_lm_signsTo ⟨v10, e10, ?_⟩)
    refine E_goto (pc := 13) (t := 18) (zDk zD_248_ok 7 rfl) rfl ?_
    have h := zS_some h
    exact E_ireturn (pc := 18) (zDk zD_248_ok 9 rfl) zt_248 h
def zD_250 : List (Nat × Instr × Nat) := [(0, .aload_n (0), 1), (1, .iload_n (1), 1), (2, .invokevirtual (320), 3), (5, .ifCond .eq (11), 3), (8, .aload_n (0), 1), (9, .iload_n (1), 1), (10, .invokevirtual (335), 3), (13, .goto (5), 3), (16, .bipush (-2), 2), (18, .ireturn, 1)]
set_option maxRecDepth 100000 in
theorem zD_250_ok : zDo 250 zD_250 = true := by decide +kernel
theorem zc_250 : zcls 250 = 8 := by decide +kernel
theorem zm_250 : zml 250 = 2 := by decide +kernel
theorem zt_250 : zrt 250 = (some (.int)) := by decide +kernel
theorem zk_250 : zkd 250 = 1 ∧ znp 250 + 1 = 2 := by decide +kernel
theorem zr_250 (as : List zV) : zrk 250 as = 6 := by unfold zrk; rw [if_neg (by decide)]; decide +kernel
def lm_deeds (x1 : Int) (M : Nat → Nat → Int) : Option (Int × (Nat → Nat → Int)) :=
    ((lm_asksName x1 M).bind (fun r2_ =>
    (if r2_.1 = 0 then
    (some ((-2 : Int), r2_.2))
    else
    ((lm_deedsOf x1 r2_.2).bind (fun v10 =>
    (some (v10, r2_.2)))))))
set_option maxRecDepth 100000 in
theorem ok_lm_deeds {sc : zSc} {x1 : Int} {M : Nat → Nat → Int} {P : Int → (Nat → Nat → Int) → Prop} (h : zS (lm_deeds x1 M) (fun r => P r.1 r.2)) : zCi sc 250 [.inr (.inr 106), .inl x1] M P := by
  have ea : zarg (zml 250) [.inr (.inr 106), .inl x1] = [some (.inr (.inr 106)), some (.inl x1)] := by rw [zm_250]; rfl
  unfold zCi zCw
  rw [ea, zr_250]
  have hq : 6 ≤ 6 := Nat.le_refl _
  unfold lm_deeds at h
  have h := zS_mono h (fun x hx => (⟨x.1, rfl, hx⟩ : ∃ y, (some (.inl x.1) : Option zV) = some (.inl y) ∧ P y x.2))
  skip
  refine E_aload_n (pc := 0) (zDk zD_250_ok 0 rfl) rfl ?_
  refine E_iload_n (pc := 1) (zDk zD_250_ok 1 rfl) rfl ?_
  obtain ⟨r2_, e2, h⟩ := zS_bind h
  refine E_virI (pc := 2) (c := 231) (r := 106) (as := [.inl x1]) (rest := []) (zDk zD_250_ok 2 rfl) zc_250 (by decide +kernel) zk_231 ⟨(Nat.le_of_ble_eq_true rfl), rfl, rfl⟩ (Nat.le_of_ble_eq_true rfl) (zr_231 _) (Nat.lt_of_lt_of_le (by decide) hq) (by rw [zm_231]; exact (Nat.le_of_ble_eq_true rfl)) ⟨zc_231, by decide⟩ zis_8_106 (ok_lm_asksName ⟨r2_, e2, ?_⟩)
  refine E_if (pc := 5) (t := 16) (zDk zD_250_ok 3 rfl) rfl (fun hz => ?_) (fun hz => ?_)
  · have h := zS_t h (T_eq hz)
    refine E_bipush (pc := 16) (zDk zD_250_ok 8 rfl) (by decide +kernel) ?_
    have h := zS_some h
    exact E_ireturn (pc := 18) (zDk zD_250_ok 9 rfl) zt_250 h
  · have h := zS_f h (F_eq hz)
    refine E_aload_n (pc := 8) (zDk zD_250_ok 4 rfl) rfl ?_
    refine E_iload_n (pc := 9) (zDk zD_250_ok 5 rfl) rfl ?_
    obtain ⟨v10, e10, h⟩ := zS_bind h
    refine E_virI (pc := 10) (c := 249) (r := 106) (as := [.inl x1]) (rest := []) (zDk zD_250_ok 6 rfl) zc_250 (by decide +kernel) zk_249 ⟨(Nat.le_of_ble_eq_true rfl), rfl, rfl⟩ (Nat.le_of_ble_eq_true rfl) (zr_249 _) (Nat.lt_of_lt_of_le (by decide) hq) (by rw [zm_249]; exact (Nat.le_of_ble_eq_true rfl)) ⟨zc_249, by decide⟩ zis_8_106 (ok_lm_deedsOf ⟨v10, e10, ?_⟩)
    refine E_goto (pc := 13) (t := 18) (zDk zD_250_ok 7 rfl) rfl ?_
    have h := zS_some h
    exact E_ireturn (pc := 18) (zDk zD_250_ok 9 rfl) zt_250 h
def zD_251 : List (Nat × Instr × Nat) := [(0, .aload_n (0), 1), (1, .iload_n (1), 1), (2, .invokevirtual (320), 3), (5, .ifCond .eq (11), 3), (8, .aload_n (0), 1), (9, .iload_n (2), 1), (10, .invokevirtual (265), 3), (13, .ifCond .ne (6), 3), (16, .bipush (-2), 2), (18, .ireturn, 1), (19, .iconst (0), 1), (20, .istore_n (3), 1), (21, .iload_n (3), 1), (22, .aload_n (0), 1), (23, .invokevirtual (99), 3), (26, .if_icmp .gt (26), 3), (29, .aload_n (0), 1), (30, .iload_n (1), 1), (31, .iload_n (3), 1), (32, .invokevirtual (276), 3), (35, .aload_n (0), 1), (36, .iload_n (2), 1), (37, .iload_n (3), 1), (38, .invokevirtual (276), 3), (41, .if_icmp .ne (5), 3), (44, .iload_n (3), 1), (45, .ireturn, 1), (46, .iinc (3) (1), 3), (49, .goto (-28), 3), (52, .iconst (-1), 1), (53, .ireturn, 1)]
set_option maxRecDepth 100000 in
theorem zD_251_ok : zDo 251 zD_251 = true := by decide +kernel
theorem zc_251 : zcls 251 = 8 := by decide +kernel
theorem zm_251 : zml 251 = 4 := by decide +kernel
theorem zt_251 : zrt 251 = (some (.int)) := by decide +kernel
theorem zk_251 : zkd 251 = 1 ∧ znp 251 + 1 = 3 := by decide +kernel
theorem zr_251 (as : List zV) : zrk 251 as = 6 := by unfold zrk; rw [if_neg (by decide)]; decide +kernel
def lm_meets_c21 (x1 : Int) (x2 : Int) : Nat → Int → (Nat → Nat → Int) → Option (Int × (Nat → Nat → Int))
  | 0, _, _ => none
  | n + 1, y3, M =>
    ((lm_last M).bind (fun v23 =>
    (if v23 < y3 then
    (some ((-1 : Int), M))
    else
    ((lm_placeOf x1 y3 M).bind (fun v32 =>
    ((lm_placeOf x2 y3 M).bind (fun v38 =>
    (if v32 = v38 then
    (some (y3, M))
    else
    ((lm_meets_c21 x1 x2 n) (w32 (y3 + 1)) M)))))))))
set_option maxRecDepth 100000 in
theorem ok_lm_meets_c21 {sc : zSc} {q : Nat} {P : Option zV → (Nat → Nat → Int) → Prop} (hq : 6 ≤ q) (x1 : Int) (x2 : Int) : ∀ (n : Nat) (y3 : Int) (M : Nat → Nat → Int), zS (lm_meets_c21 x1 x2 n y3 M) (fun r => P (some (.inl r.1)) r.2) → zWp sc q 251 21 [some (.inr (.inr 106)), some (.inl x1), some (.inl x2), some (.inl y3)] [] M P := by
  intro n
  induction n with
  | zero => intro y3 M h; exact (zS_none h).elim
  | succ n ih =>
    intro y3 M h
    rw [lm_meets_c21] at h
    refine E_iload_n (pc := 21) (zDk zD_251_ok 12 rfl) rfl ?_
    refine E_aload_n (pc := 22) (zDk zD_251_ok 13 rfl) rfl ?_
    obtain ⟨v23, e23, h⟩ := zS_bind h
    refine E_virI (pc := 23) (c := 182) (r := 106) (as := []) (rest := [.inl y3]) (zDk zD_251_ok 14 rfl) zc_251 (by decide +kernel) zk_182 ⟨(Nat.le_of_ble_eq_true rfl), rfl, rfl⟩ (Nat.le_of_ble_eq_true rfl) (zr_182 _) (Nat.lt_of_lt_of_le (by decide) hq) (by rw [zm_182]; exact (Nat.le_of_ble_eq_true rfl)) ⟨zc_182, by decide⟩ zis_8_106 (ok_lm_last ⟨v23, e23, ?_⟩)
    refine E_icmp (pc := 26) (t := 52) (zDk zD_251_ok 15 rfl) rfl (fun hz => ?_) (fun hz => ?_)
    · have h := zS_t h (T_gt hz)
      refine E_iconst (pc := 52) (zDk zD_251_ok 29 rfl) (by decide +kernel) ?_
      have h := zS_some h
      exact E_ireturn (pc := 53) (zDk zD_251_ok 30 rfl) zt_251 h
    · have h := zS_f h (Int.not_lt.mpr (F_gt hz))
      refine E_aload_n (pc := 29) (zDk zD_251_ok 16 rfl) rfl ?_
      refine E_iload_n (pc := 30) (zDk zD_251_ok 17 rfl) rfl ?_
      refine E_iload_n (pc := 31) (zDk zD_251_ok 18 rfl) rfl ?_
      obtain ⟨v32, e32, h⟩ := zS_bind h
      refine E_virI (pc := 32) (c := 221) (r := 106) (as := [.inl x1, .inl y3]) (rest := []) (zDk zD_251_ok 19 rfl) zc_251 (by decide +kernel) zk_221 ⟨(Nat.le_of_ble_eq_true rfl), rfl, rfl⟩ (Nat.le_of_ble_eq_true rfl) (zr_221 _) (Nat.lt_of_lt_of_le (by decide) hq) (by rw [zm_221]; exact (Nat.le_of_ble_eq_true rfl)) ⟨zc_221, by decide⟩ zis_8_106 (ok_lm_placeOf ⟨v32, e32, ?_⟩)
      refine E_aload_n (pc := 35) (zDk zD_251_ok 20 rfl) rfl ?_
      refine E_iload_n (pc := 36) (zDk zD_251_ok 21 rfl) rfl ?_
      refine E_iload_n (pc := 37) (zDk zD_251_ok 22 rfl) rfl ?_
      obtain ⟨v38, e38, h⟩ := zS_bind h
      refine E_virI (pc := 38) (c := 221) (r := 106) (as := [.inl x2, .inl y3]) (rest := [.inl v32]) (zDk zD_251_ok 23 rfl) zc_251 (by decide +kernel) zk_221 ⟨(Nat.le_of_ble_eq_true rfl), rfl, rfl⟩ (Nat.le_of_ble_eq_true rfl) (zr_221 _) (Nat.lt_of_lt_of_le (by decide) hq) (by rw [zm_221]; exact (Nat.le_of_ble_eq_true rfl)) ⟨zc_221, by decide⟩ zis_8_106 (ok_lm_placeOf ⟨v38, e38, ?_⟩)
      refine E_icmp (pc := 41) (t := 46) (zDk zD_251_ok 24 rfl) rfl (fun hz => ?_) (fun hz => ?_)
      · have h := zS_f h (T_ne hz)
        refine W_iinc (pc := 46) (L' := [some (.inr (.inr 106)), some (.inl x1), some (.inl x2), some (.inl (w32 (y3 + 1)))]) (zDk zD_251_ok 27 rfl) rfl zm_251 (by decide) rfl ?_
        refine E_goto (pc := 49) (t := 21) (zDk zD_251_ok 28 rfl) rfl ?_
        exact (ih) (w32 (y3 + 1)) M h
      · have h := zS_t h (F_ne hz)
        refine E_iload_n (pc := 44) (zDk zD_251_ok 25 rfl) rfl ?_
        have h := zS_some h
        exact E_ireturn (pc := 45) (zDk zD_251_ok 26 rfl) zt_251 h
def lm_meets (x1 : Int) (x2 : Int) (M : Nat → Nat → Int) : Option (Int × (Nat → Nat → Int)) :=
    ((lm_asksName x1 M).bind (fun r2_ =>
    (if r2_.1 = 0 then
    (some ((-2 : Int), r2_.2))
    else
    ((lm_isName x2 r2_.2).bind (fun v10 =>
    (if v10 = 0 then
    (some ((-2 : Int), r2_.2))
    else
    (lm_meets_c21 x1 x2 zN (0 : Int) r2_.2)))))))
set_option maxRecDepth 100000 in
theorem ok_lm_meets {sc : zSc} {x1 : Int} {x2 : Int} {M : Nat → Nat → Int} {P : Int → (Nat → Nat → Int) → Prop} (h : zS (lm_meets x1 x2 M) (fun r => P r.1 r.2)) : zCi sc 251 [.inr (.inr 106), .inl x1, .inl x2] M P := by
  have ea : zarg (zml 251) [.inr (.inr 106), .inl x1, .inl x2] = [some (.inr (.inr 106)), some (.inl x1), some (.inl x2), none] := by rw [zm_251]; rfl
  unfold zCi zCw
  rw [ea, zr_251]
  have hq : 6 ≤ 6 := Nat.le_refl _
  unfold lm_meets at h
  have h := zS_mono h (fun x hx => (⟨x.1, rfl, hx⟩ : ∃ y, (some (.inl x.1) : Option zV) = some (.inl y) ∧ P y x.2))
  skip
  refine E_aload_n (pc := 0) (zDk zD_251_ok 0 rfl) rfl ?_
  refine E_iload_n (pc := 1) (zDk zD_251_ok 1 rfl) rfl ?_
  obtain ⟨r2_, e2, h⟩ := zS_bind h
  refine E_virI (pc := 2) (c := 231) (r := 106) (as := [.inl x1]) (rest := []) (zDk zD_251_ok 2 rfl) zc_251 (by decide +kernel) zk_231 ⟨(Nat.le_of_ble_eq_true rfl), rfl, rfl⟩ (Nat.le_of_ble_eq_true rfl) (zr_231 _) (Nat.lt_of_lt_of_le (by decide) hq) (by rw [zm_231]; exact (Nat.le_of_ble_eq_true rfl)) ⟨zc_231, by decide⟩ zis_8_106 (ok_lm_asksName ⟨r2_, e2, ?_⟩)
  refine E_if (pc := 5) (t := 16) (zDk zD_251_ok 3 rfl) rfl (fun hz => ?_) (fun hz => ?_)
  · have h := zS_t h (T_eq hz)
    refine E_bipush (pc := 16) (zDk zD_251_ok 8 rfl) (by decide +kernel) ?_
    have h := zS_some h
    exact E_ireturn (pc := 18) (zDk zD_251_ok 9 rfl) zt_251 h
  · have h := zS_f h (F_eq hz)
    refine E_aload_n (pc := 8) (zDk zD_251_ok 4 rfl) rfl ?_
    refine E_iload_n (pc := 9) (zDk zD_251_ok 5 rfl) rfl ?_
    obtain ⟨v10, e10, h⟩ := zS_bind h
    refine E_virI (pc := 10) (c := 186) (r := 106) (as := [.inl x2]) (rest := []) (zDk zD_251_ok 6 rfl) zc_251 (by decide +kernel) zk_186 ⟨(Nat.le_of_ble_eq_true rfl), rfl, rfl⟩ (Nat.le_of_ble_eq_true rfl) (zr_186 _) (Nat.lt_of_lt_of_le (by decide) hq) (by rw [zm_186]; exact (Nat.le_of_ble_eq_true rfl)) ⟨zc_186, by decide⟩ zis_8_106 (ok_lm_isName ⟨v10, e10, ?_⟩)
    refine E_if (pc := 13) (t := 19) (zDk zD_251_ok 7 rfl) rfl (fun hz => ?_) (fun hz => ?_)
    · have h := zS_f h (T_ne hz)
      refine E_iconst (pc := 19) (zDk zD_251_ok 10 rfl) (by decide +kernel) ?_
      refine W_istore_n (pc := 20) (L' := [some (.inr (.inr 106)), some (.inl x1), some (.inl x2), some (.inl (0 : Int))]) (zDk zD_251_ok 11 rfl) zm_251 (by decide) rfl ?_
      exact ok_lm_meets_c21 hq x1 x2 zN (0 : Int) r2_.2 h
    · have h := zS_t h (F_ne hz)
      refine E_bipush (pc := 16) (zDk zD_251_ok 8 rfl) (by decide +kernel) ?_
      have h := zS_some h
      exact E_ireturn (pc := 18) (zDk zD_251_ok 9 rfl) zt_251 h
def zD_252 : List (Nat × Instr × Nat) := [(0, .aload_n (0), 1), (1, .iload_n (1), 1), (2, .invokevirtual (320), 3), (5, .ifCond .eq (11), 3), (8, .aload_n (0), 1), (9, .iload_n (2), 1), (10, .invokevirtual (265), 3), (13, .ifCond .ne (6), 3), (16, .bipush (-2), 2), (18, .ireturn, 1), (19, .iconst (0), 1), (20, .istore_n (3), 1), (21, .iconst (0), 1), (22, .istore (4), 2), (24, .iload (4), 2), (26, .aload_n (0), 1), (27, .invokevirtual (99), 3), (30, .if_icmp .gt (34), 3), (33, .iload_n (3), 1), (34, .aload_n (0), 1), (35, .iload_n (1), 1), (36, .iload (4), 2), (38, .invokevirtual (276), 3), (41, .aload_n (0), 1), (42, .iload_n (2), 1), (43, .iload (4), 2), (45, .invokevirtual (276), 3), (48, .if_icmp .ne (7), 3), (51, .iconst (1), 1), (52, .goto (4), 3), (55, .iconst (0), 1), (56, .iadd, 1), (57, .istore_n (3), 1), (58, .iinc (4) (1), 3), (61, .goto (-37), 3), (64, .iload_n (3), 1), (65, .ireturn, 1)]
set_option maxRecDepth 100000 in
theorem zD_252_ok : zDo 252 zD_252 = true := by decide +kernel
theorem zc_252 : zcls 252 = 8 := by decide +kernel
theorem zm_252 : zml 252 = 5 := by decide +kernel
theorem zt_252 : zrt 252 = (some (.int)) := by decide +kernel
theorem zk_252 : zkd 252 = 1 ∧ znp 252 + 1 = 3 := by decide +kernel
theorem zr_252 (as : List zV) : zrk 252 as = 6 := by unfold zrk; rw [if_neg (by decide)]; decide +kernel
def lm_often_c24 (x1 : Int) (x2 : Int) : Nat → Int → Int → (Nat → Nat → Int) → Option (Int × (Nat → Nat → Int))
  | 0, _, _, _ => none
  | n + 1, y3, y4, M =>
    ((lm_last M).bind (fun v27 =>
    (if v27 < y4 then
    (some (y3, M))
    else
    ((lm_placeOf x1 y4 M).bind (fun v38 =>
    ((lm_placeOf x2 y4 M).bind (fun v45 =>
    (if v38 = v45 then
    ((lm_often_c24 x1 x2 n) (w32 (y3 + (1 : Int))) (w32 (y4 + 1)) M)
    else
    ((lm_often_c24 x1 x2 n) (w32 (y3 + (0 : Int))) (w32 (y4 + 1)) M)))))))))
set_option maxRecDepth 100000 in
theorem ok_lm_often_c24 {sc : zSc} {q : Nat} {P : Option zV → (Nat → Nat → Int) → Prop} (hq : 6 ≤ q) (x1 : Int) (x2 : Int) : ∀ (n : Nat) (y3 : Int) (y4 : Int) (M : Nat → Nat → Int), zS (lm_often_c24 x1 x2 n y3 y4 M) (fun r => P (some (.inl r.1)) r.2) → zWp sc q 252 24 [some (.inr (.inr 106)), some (.inl x1), some (.inl x2), some (.inl y3), some (.inl y4)] [] M P := by
  intro n
  induction n with
  | zero => intro y3 y4 M h; exact (zS_none h).elim
  | succ n ih =>
    intro y3 y4 M h
    rw [lm_often_c24] at h
    refine E_iload (pc := 24) (zDk zD_252_ok 14 rfl) rfl ?_
    refine E_aload_n (pc := 26) (zDk zD_252_ok 15 rfl) rfl ?_
    obtain ⟨v27, e27, h⟩ := zS_bind h
    refine E_virI (pc := 27) (c := 182) (r := 106) (as := []) (rest := [.inl y4]) (zDk zD_252_ok 16 rfl) zc_252 (by decide +kernel) zk_182 ⟨(Nat.le_of_ble_eq_true rfl), rfl, rfl⟩ (Nat.le_of_ble_eq_true rfl) (zr_182 _) (Nat.lt_of_lt_of_le (by decide) hq) (by rw [zm_182]; exact (Nat.le_of_ble_eq_true rfl)) ⟨zc_182, by decide⟩ zis_8_106 (ok_lm_last ⟨v27, e27, ?_⟩)
    refine E_icmp (pc := 30) (t := 64) (zDk zD_252_ok 17 rfl) rfl (fun hz => ?_) (fun hz => ?_)
    · have h := zS_t h (T_gt hz)
      refine E_iload_n (pc := 64) (zDk zD_252_ok 35 rfl) rfl ?_
      have h := zS_some h
      exact E_ireturn (pc := 65) (zDk zD_252_ok 36 rfl) zt_252 h
    · have h := zS_f h (Int.not_lt.mpr (F_gt hz))
      refine E_iload_n (pc := 33) (zDk zD_252_ok 18 rfl) rfl ?_
      refine E_aload_n (pc := 34) (zDk zD_252_ok 19 rfl) rfl ?_
      refine E_iload_n (pc := 35) (zDk zD_252_ok 20 rfl) rfl ?_
      refine E_iload (pc := 36) (zDk zD_252_ok 21 rfl) rfl ?_
      obtain ⟨v38, e38, h⟩ := zS_bind h
      refine E_virI (pc := 38) (c := 221) (r := 106) (as := [.inl x1, .inl y4]) (rest := [.inl y3]) (zDk zD_252_ok 22 rfl) zc_252 (by decide +kernel) zk_221 ⟨(Nat.le_of_ble_eq_true rfl), rfl, rfl⟩ (Nat.le_of_ble_eq_true rfl) (zr_221 _) (Nat.lt_of_lt_of_le (by decide) hq) (by rw [zm_221]; exact (Nat.le_of_ble_eq_true rfl)) ⟨zc_221, by decide⟩ zis_8_106 (ok_lm_placeOf ⟨v38, e38, ?_⟩)
      refine E_aload_n (pc := 41) (zDk zD_252_ok 23 rfl) rfl ?_
      refine E_iload_n (pc := 42) (zDk zD_252_ok 24 rfl) rfl ?_
      refine E_iload (pc := 43) (zDk zD_252_ok 25 rfl) rfl ?_
      obtain ⟨v45, e45, h⟩ := zS_bind h
      refine E_virI (pc := 45) (c := 221) (r := 106) (as := [.inl x2, .inl y4]) (rest := [.inl v38, .inl y3]) (zDk zD_252_ok 26 rfl) zc_252 (by decide +kernel) zk_221 ⟨(Nat.le_of_ble_eq_true rfl), rfl, rfl⟩ (Nat.le_of_ble_eq_true rfl) (zr_221 _) (Nat.lt_of_lt_of_le (by decide) hq) (by rw [zm_221]; exact (Nat.le_of_ble_eq_true rfl)) ⟨zc_221, by decide⟩ zis_8_106 (ok_lm_placeOf ⟨v45, e45, ?_⟩)
      refine E_icmp (pc := 48) (t := 55) (zDk zD_252_ok 27 rfl) rfl (fun hz => ?_) (fun hz => ?_)
      · have h := zS_f h (T_ne hz)
        refine E_iconst (pc := 55) (zDk zD_252_ok 30 rfl) (by decide +kernel) ?_
        refine W_iadd (pc := 56) (zDk zD_252_ok 31 rfl) ?_
        refine W_istore_n (pc := 57) (L' := [some (.inr (.inr 106)), some (.inl x1), some (.inl x2), some (.inl (w32 (y3 + (0 : Int)))), some (.inl y4)]) (zDk zD_252_ok 32 rfl) zm_252 (by decide) rfl ?_
        refine W_iinc (pc := 58) (L' := [some (.inr (.inr 106)), some (.inl x1), some (.inl x2), some (.inl (w32 (y3 + (0 : Int)))), some (.inl (w32 (y4 + 1)))]) (zDk zD_252_ok 33 rfl) rfl zm_252 (by decide) rfl ?_
        refine E_goto (pc := 61) (t := 24) (zDk zD_252_ok 34 rfl) rfl ?_
        exact (ih) (w32 (y3 + (0 : Int))) (w32 (y4 + 1)) M h
      · have h := zS_t h (F_ne hz)
        refine E_iconst (pc := 51) (zDk zD_252_ok 28 rfl) (by decide +kernel) ?_
        refine E_goto (pc := 52) (t := 56) (zDk zD_252_ok 29 rfl) rfl ?_
        refine W_iadd (pc := 56) (zDk zD_252_ok 31 rfl) ?_
        refine W_istore_n (pc := 57) (L' := [some (.inr (.inr 106)), some (.inl x1), some (.inl x2), some (.inl (w32 (y3 + (1 : Int)))), some (.inl y4)]) (zDk zD_252_ok 32 rfl) zm_252 (by decide) rfl ?_
        refine W_iinc (pc := 58) (L' := [some (.inr (.inr 106)), some (.inl x1), some (.inl x2), some (.inl (w32 (y3 + (1 : Int)))), some (.inl (w32 (y4 + 1)))]) (zDk zD_252_ok 33 rfl) rfl zm_252 (by decide) rfl ?_
        refine E_goto (pc := 61) (t := 24) (zDk zD_252_ok 34 rfl) rfl ?_
        exact (ih) (w32 (y3 + (1 : Int))) (w32 (y4 + 1)) M h
def lm_often (x1 : Int) (x2 : Int) (M : Nat → Nat → Int) : Option (Int × (Nat → Nat → Int)) :=
    ((lm_asksName x1 M).bind (fun r2_ =>
    (if r2_.1 = 0 then
    (some ((-2 : Int), r2_.2))
    else
    ((lm_isName x2 r2_.2).bind (fun v10 =>
    (if v10 = 0 then
    (some ((-2 : Int), r2_.2))
    else
    (lm_often_c24 x1 x2 zN (0 : Int) (0 : Int) r2_.2)))))))
set_option maxRecDepth 100000 in
theorem ok_lm_often {sc : zSc} {x1 : Int} {x2 : Int} {M : Nat → Nat → Int} {P : Int → (Nat → Nat → Int) → Prop} (h : zS (lm_often x1 x2 M) (fun r => P r.1 r.2)) : zCi sc 252 [.inr (.inr 106), .inl x1, .inl x2] M P := by
  have ea : zarg (zml 252) [.inr (.inr 106), .inl x1, .inl x2] = [some (.inr (.inr 106)), some (.inl x1), some (.inl x2), none, none] := by rw [zm_252]; rfl
  unfold zCi zCw
  rw [ea, zr_252]
  have hq : 6 ≤ 6 := Nat.le_refl _
  unfold lm_often at h
  have h := zS_mono h (fun x hx => (⟨x.1, rfl, hx⟩ : ∃ y, (some (.inl x.1) : Option zV) = some (.inl y) ∧ P y x.2))
  skip
  refine E_aload_n (pc := 0) (zDk zD_252_ok 0 rfl) rfl ?_
  refine E_iload_n (pc := 1) (zDk zD_252_ok 1 rfl) rfl ?_
  obtain ⟨r2_, e2, h⟩ := zS_bind h
  refine E_virI (pc := 2) (c := 231) (r := 106) (as := [.inl x1]) (rest := []) (zDk zD_252_ok 2 rfl) zc_252 (by decide +kernel) zk_231 ⟨(Nat.le_of_ble_eq_true rfl), rfl, rfl⟩ (Nat.le_of_ble_eq_true rfl) (zr_231 _) (Nat.lt_of_lt_of_le (by decide) hq) (by rw [zm_231]; exact (Nat.le_of_ble_eq_true rfl)) ⟨zc_231, by decide⟩ zis_8_106 (ok_lm_asksName ⟨r2_, e2, ?_⟩)
  refine E_if (pc := 5) (t := 16) (zDk zD_252_ok 3 rfl) rfl (fun hz => ?_) (fun hz => ?_)
  · have h := zS_t h (T_eq hz)
    refine E_bipush (pc := 16) (zDk zD_252_ok 8 rfl) (by decide +kernel) ?_
    have h := zS_some h
    exact E_ireturn (pc := 18) (zDk zD_252_ok 9 rfl) zt_252 h
  · have h := zS_f h (F_eq hz)
    refine E_aload_n (pc := 8) (zDk zD_252_ok 4 rfl) rfl ?_
    refine E_iload_n (pc := 9) (zDk zD_252_ok 5 rfl) rfl ?_
    obtain ⟨v10, e10, h⟩ := zS_bind h
    refine E_virI (pc := 10) (c := 186) (r := 106) (as := [.inl x2]) (rest := []) (zDk zD_252_ok 6 rfl) zc_252 (by decide +kernel) zk_186 ⟨(Nat.le_of_ble_eq_true rfl), rfl, rfl⟩ (Nat.le_of_ble_eq_true rfl) (zr_186 _) (Nat.lt_of_lt_of_le (by decide) hq) (by rw [zm_186]; exact (Nat.le_of_ble_eq_true rfl)) ⟨zc_186, by decide⟩ zis_8_106 (ok_lm_isName ⟨v10, e10, ?_⟩)
    refine E_if (pc := 13) (t := 19) (zDk zD_252_ok 7 rfl) rfl (fun hz => ?_) (fun hz => ?_)
    · have h := zS_f h (T_ne hz)
      refine E_iconst (pc := 19) (zDk zD_252_ok 10 rfl) (by decide +kernel) ?_
      refine W_istore_n (pc := 20) (L' := [some (.inr (.inr 106)), some (.inl x1), some (.inl x2), some (.inl (0 : Int)), none]) (zDk zD_252_ok 11 rfl) zm_252 (by decide) rfl ?_
      refine E_iconst (pc := 21) (zDk zD_252_ok 12 rfl) (by decide +kernel) ?_
      refine W_istore (pc := 22) (L' := [some (.inr (.inr 106)), some (.inl x1), some (.inl x2), some (.inl (0 : Int)), some (.inl (0 : Int))]) (zDk zD_252_ok 13 rfl) zm_252 (by decide) rfl ?_
      exact ok_lm_often_c24 hq x1 x2 zN (0 : Int) (0 : Int) r2_.2 h
    · have h := zS_t h (F_ne hz)
      refine E_bipush (pc := 16) (zDk zD_252_ok 8 rfl) (by decide +kernel) ?_
      have h := zS_some h
      exact E_ireturn (pc := 18) (zDk zD_252_ok 9 rfl) zt_252 h
def zD_255 : List (Nat × Instr × Nat) := [(0, .aload_n (0), 1), (1, .iload_n (1), 1), (2, .invokevirtual (314), 3), (5, .ifCond .ne (6), 3), (8, .bipush (-2), 2), (10, .ireturn, 1), (11, .iconst (0), 1), (12, .istore_n (2), 1), (13, .iconst (0), 1), (14, .istore_n (3), 1), (15, .iload_n (3), 1), (16, .aload_n (0), 1), (17, .invokevirtual (279), 3), (20, .if_icmp .ge (36), 3), (23, .iload_n (2), 1), (24, .aload_n (0), 1), (25, .aload_n (0), 1), (26, .iload_n (3), 1), (27, .iload_n (1), 1), (28, .invokevirtual (276), 3), (31, .iload_n (1), 1), (32, .invokevirtual (317), 3), (35, .iconst (1), 1), (36, .iload_n (3), 1), (37, .ishl, 1), (38, .if_icmp .ne (9), 3), (41, .iconst (1), 1), (42, .iload_n (3), 1), (43, .ishl, 1), (44, .goto (4), 3), (47, .iconst (0), 1), (48, .ior, 1), (49, .istore_n (2), 1), (50, .iinc (3) (1), 3), (53, .goto (-38), 3), (56, .iload_n (2), 1), (57, .ireturn, 1)]
set_option maxRecDepth 100000 in
theorem zD_255_ok : zDo 255 zD_255 = true := by decide +kernel
theorem zc_255 : zcls 255 = 8 := by decide +kernel
theorem zm_255 : zml 255 = 4 := by decide +kernel
theorem zt_255 : zrt 255 = (some (.int)) := by decide +kernel
theorem zk_255 : zkd 255 = 1 ∧ znp 255 + 1 = 2 := by decide +kernel
theorem zr_255 (as : List zV) : zrk 255 as = 6 := by unfold zrk; rw [if_neg (by decide)]; decide +kernel
def lm_lone_c15 (x1 : Int) : Nat → Int → Int → (Nat → Nat → Int) → Option (Int × (Nat → Nat → Int))
  | 0, _, _, _ => none
  | n + 1, y2, y3, M =>
    ((lm_names M).bind (fun v17 =>
    (if y3 < v17 then
    ((lm_placeOf y3 x1 M).bind (fun v28 =>
    ((lm_hereOf v28 x1 M).bind (fun v32 =>
    (if v32 = (zshl (1 : Int) y3) then
    ((lm_lone_c15 x1 n) (zor y2 (zshl (1 : Int) y3)) (w32 (y3 + 1)) M)
    else
    ((lm_lone_c15 x1 n) (zor y2 (0 : Int)) (w32 (y3 + 1)) M))))))
    else
    (some (y2, M)))))
set_option maxRecDepth 100000 in
theorem ok_lm_lone_c15 {sc : zSc} {q : Nat} {P : Option zV → (Nat → Nat → Int) → Prop} (hq : 6 ≤ q) (x1 : Int) : ∀ (n : Nat) (y2 : Int) (y3 : Int) (M : Nat → Nat → Int), zS (lm_lone_c15 x1 n y2 y3 M) (fun r => P (some (.inl r.1)) r.2) → zWp sc q 255 15 [some (.inr (.inr 106)), some (.inl x1), some (.inl y2), some (.inl y3)] [] M P := by
  intro n
  induction n with
  | zero => intro y2 y3 M h; exact (zS_none h).elim
  | succ n ih =>
    intro y2 y3 M h
    rw [lm_lone_c15] at h
    refine E_iload_n (pc := 15) (zDk zD_255_ok 10 rfl) rfl ?_
    refine E_aload_n (pc := 16) (zDk zD_255_ok 11 rfl) rfl ?_
    obtain ⟨v17, e17, h⟩ := zS_bind h
    refine E_virI (pc := 17) (c := 189) (r := 106) (as := []) (rest := [.inl y3]) (zDk zD_255_ok 12 rfl) zc_255 (by decide +kernel) zk_189 ⟨(Nat.le_of_ble_eq_true rfl), rfl, rfl⟩ (Nat.le_of_ble_eq_true rfl) (zr_189 _) (Nat.lt_of_lt_of_le (by decide) hq) (by rw [zm_189]; exact (Nat.le_of_ble_eq_true rfl)) ⟨zc_189, by decide⟩ zis_8_106 (ok_lm_names ⟨v17, e17, ?_⟩)
    refine E_icmp (pc := 20) (t := 56) (zDk zD_255_ok 13 rfl) rfl (fun hz => ?_) (fun hz => ?_)
    · have h := zS_f h (Int.not_lt.mpr (T_ge hz))
      refine E_iload_n (pc := 56) (zDk zD_255_ok 35 rfl) rfl ?_
      have h := zS_some h
      exact E_ireturn (pc := 57) (zDk zD_255_ok 36 rfl) zt_255 h
    · have h := zS_t h (F_ge hz)
      refine E_iload_n (pc := 23) (zDk zD_255_ok 14 rfl) rfl ?_
      refine E_aload_n (pc := 24) (zDk zD_255_ok 15 rfl) rfl ?_
      refine E_aload_n (pc := 25) (zDk zD_255_ok 16 rfl) rfl ?_
      refine E_iload_n (pc := 26) (zDk zD_255_ok 17 rfl) rfl ?_
      refine E_iload_n (pc := 27) (zDk zD_255_ok 18 rfl) rfl ?_
      obtain ⟨v28, e28, h⟩ := zS_bind h
      refine E_virI (pc := 28) (c := 221) (r := 106) (as := [.inl y3, .inl x1]) (rest := [.inr (.inr 106), .inl y2]) (zDk zD_255_ok 19 rfl) zc_255 (by decide +kernel) zk_221 ⟨(Nat.le_of_ble_eq_true rfl), rfl, rfl⟩ (Nat.le_of_ble_eq_true rfl) (zr_221 _) (Nat.lt_of_lt_of_le (by decide) hq) (by rw [zm_221]; exact (Nat.le_of_ble_eq_true rfl)) ⟨zc_221, by decide⟩ zis_8_106 (ok_lm_placeOf ⟨v28, e28, ?_⟩)
      refine E_iload_n (pc := 31) (zDk zD_255_ok 20 rfl) rfl ?_
      obtain ⟨v32, e32, h⟩ := zS_bind h
      refine E_virI (pc := 32) (c := 236) (r := 106) (as := [.inl v28, .inl x1]) (rest := [.inl y2]) (zDk zD_255_ok 21 rfl) zc_255 (by decide +kernel) zk_236 ⟨(Nat.le_of_ble_eq_true rfl), rfl, rfl⟩ (Nat.le_of_ble_eq_true rfl) (zr_236 _) (Nat.lt_of_lt_of_le (by decide) hq) (by rw [zm_236]; exact (Nat.le_of_ble_eq_true rfl)) ⟨zc_236, by decide⟩ zis_8_106 (ok_lm_hereOf ⟨v32, e32, ?_⟩)
      refine E_iconst (pc := 35) (zDk zD_255_ok 22 rfl) (by decide +kernel) ?_
      refine E_iload_n (pc := 36) (zDk zD_255_ok 23 rfl) rfl ?_
      refine E_ishl (pc := 37) (zDk zD_255_ok 24 rfl) ?_
      refine E_icmp (pc := 38) (t := 47) (zDk zD_255_ok 25 rfl) rfl (fun hz => ?_) (fun hz => ?_)
      · have h := zS_f h (T_ne hz)
        refine E_iconst (pc := 47) (zDk zD_255_ok 30 rfl) (by decide +kernel) ?_
        refine E_ior (pc := 48) (zDk zD_255_ok 31 rfl) ?_
        refine W_istore_n (pc := 49) (L' := [some (.inr (.inr 106)), some (.inl x1), some (.inl (zor y2 (0 : Int))), some (.inl y3)]) (zDk zD_255_ok 32 rfl) zm_255 (by decide) rfl ?_
        refine W_iinc (pc := 50) (L' := [some (.inr (.inr 106)), some (.inl x1), some (.inl (zor y2 (0 : Int))), some (.inl (w32 (y3 + 1)))]) (zDk zD_255_ok 33 rfl) rfl zm_255 (by decide) rfl ?_
        refine E_goto (pc := 53) (t := 15) (zDk zD_255_ok 34 rfl) rfl ?_
        exact (ih) (zor y2 (0 : Int)) (w32 (y3 + 1)) M h
      · have h := zS_t h (F_ne hz)
        refine E_iconst (pc := 41) (zDk zD_255_ok 26 rfl) (by decide +kernel) ?_
        refine E_iload_n (pc := 42) (zDk zD_255_ok 27 rfl) rfl ?_
        refine E_ishl (pc := 43) (zDk zD_255_ok 28 rfl) ?_
        refine E_goto (pc := 44) (t := 48) (zDk zD_255_ok 29 rfl) rfl ?_
        refine E_ior (pc := 48) (zDk zD_255_ok 31 rfl) ?_
        refine W_istore_n (pc := 49) (L' := [some (.inr (.inr 106)), some (.inl x1), some (.inl (zor y2 (zshl (1 : Int) y3))), some (.inl y3)]) (zDk zD_255_ok 32 rfl) zm_255 (by decide) rfl ?_
        refine W_iinc (pc := 50) (L' := [some (.inr (.inr 106)), some (.inl x1), some (.inl (zor y2 (zshl (1 : Int) y3))), some (.inl (w32 (y3 + 1)))]) (zDk zD_255_ok 33 rfl) rfl zm_255 (by decide) rfl ?_
        refine E_goto (pc := 53) (t := 15) (zDk zD_255_ok 34 rfl) rfl ?_
        exact (ih) (zor y2 (zshl (1 : Int) y3)) (w32 (y3 + 1)) M h
def lm_lone (x1 : Int) (M : Nat → Nat → Int) : Option (Int × (Nat → Nat → Int)) :=
    ((lm_asksStep x1 M).bind (fun r2_ =>
    (if r2_.1 = 0 then
    (some ((-2 : Int), r2_.2))
    else
    (lm_lone_c15 x1 zN (0 : Int) (0 : Int) r2_.2))))
set_option maxRecDepth 100000 in
theorem ok_lm_lone {sc : zSc} {x1 : Int} {M : Nat → Nat → Int} {P : Int → (Nat → Nat → Int) → Prop} (h : zS (lm_lone x1 M) (fun r => P r.1 r.2)) : zCi sc 255 [.inr (.inr 106), .inl x1] M P := by
  have ea : zarg (zml 255) [.inr (.inr 106), .inl x1] = [some (.inr (.inr 106)), some (.inl x1), none, none] := by rw [zm_255]; rfl
  unfold zCi zCw
  rw [ea, zr_255]
  have hq : 6 ≤ 6 := Nat.le_refl _
  unfold lm_lone at h
  have h := zS_mono h (fun x hx => (⟨x.1, rfl, hx⟩ : ∃ y, (some (.inl x.1) : Option zV) = some (.inl y) ∧ P y x.2))
  skip
  refine E_aload_n (pc := 0) (zDk zD_255_ok 0 rfl) rfl ?_
  refine E_iload_n (pc := 1) (zDk zD_255_ok 1 rfl) rfl ?_
  obtain ⟨r2_, e2, h⟩ := zS_bind h
  refine E_virI (pc := 2) (c := 230) (r := 106) (as := [.inl x1]) (rest := []) (zDk zD_255_ok 2 rfl) zc_255 (by decide +kernel) zk_230 ⟨(Nat.le_of_ble_eq_true rfl), rfl, rfl⟩ (Nat.le_of_ble_eq_true rfl) (zr_230 _) (Nat.lt_of_lt_of_le (by decide) hq) (by rw [zm_230]; exact (Nat.le_of_ble_eq_true rfl)) ⟨zc_230, by decide⟩ zis_8_106 (ok_lm_asksStep ⟨r2_, e2, ?_⟩)
  refine E_if (pc := 5) (t := 11) (zDk zD_255_ok 3 rfl) rfl (fun hz => ?_) (fun hz => ?_)
  · have h := zS_f h (T_ne hz)
    refine E_iconst (pc := 11) (zDk zD_255_ok 6 rfl) (by decide +kernel) ?_
    refine W_istore_n (pc := 12) (L' := [some (.inr (.inr 106)), some (.inl x1), some (.inl (0 : Int)), none]) (zDk zD_255_ok 7 rfl) zm_255 (by decide) rfl ?_
    refine E_iconst (pc := 13) (zDk zD_255_ok 8 rfl) (by decide +kernel) ?_
    refine W_istore_n (pc := 14) (L' := [some (.inr (.inr 106)), some (.inl x1), some (.inl (0 : Int)), some (.inl (0 : Int))]) (zDk zD_255_ok 9 rfl) zm_255 (by decide) rfl ?_
    exact ok_lm_lone_c15 hq x1 zN (0 : Int) (0 : Int) r2_.2 h
  · have h := zS_t h (F_ne hz)
    refine E_bipush (pc := 8) (zDk zD_255_ok 4 rfl) (by decide +kernel) ?_
    have h := zS_some h
    exact E_ireturn (pc := 10) (zDk zD_255_ok 5 rfl) zt_255 h
def zD_256 : List (Nat × Instr × Nat) := [(0, .aload_n (0), 1), (1, .iload_n (1), 1), (2, .invokevirtual (314), 3), (5, .ifCond .ne (6), 3), (8, .bipush (-2), 2), (10, .ireturn, 1), (11, .iconst (0), 1), (12, .istore_n (2), 1), (13, .iconst (0), 1), (14, .istore_n (3), 1), (15, .iload_n (3), 1), (16, .aload_n (0), 1), (17, .invokevirtual (279), 3), (20, .if_icmp .ge (18), 3), (23, .iload_n (2), 1), (24, .aload_n (0), 1), (25, .iload_n (3), 1), (26, .iload_n (1), 1), (27, .invokevirtual (285), 3), (30, .iadd, 1), (31, .istore_n (2), 1), (32, .iinc (3) (1), 3), (35, .goto (-20), 3), (38, .iload_n (2), 1), (39, .ireturn, 1)]
set_option maxRecDepth 100000 in
theorem zD_256_ok : zDo 256 zD_256 = true := by decide +kernel
theorem zc_256 : zcls 256 = 8 := by decide +kernel
theorem zm_256 : zml 256 = 4 := by decide +kernel
theorem zt_256 : zrt 256 = (some (.int)) := by decide +kernel
theorem zk_256 : zkd 256 = 1 ∧ znp 256 + 1 = 2 := by decide +kernel
theorem zr_256 (as : List zV) : zrk 256 as = 6 := by unfold zrk; rw [if_neg (by decide)]; decide +kernel
def lm_total_c15 (x1 : Int) : Nat → Int → Int → (Nat → Nat → Int) → Option (Int × (Nat → Nat → Int))
  | 0, _, _, _ => none
  | n + 1, y2, y3, M =>
    ((lm_names M).bind (fun v17 =>
    (if y3 < v17 then
    ((lm_inkIn y3 x1 M).bind (fun v27 =>
    ((lm_total_c15 x1 n) (w32 (y2 + v27)) (w32 (y3 + 1)) M)))
    else
    (some (y2, M)))))
set_option maxRecDepth 100000 in
theorem ok_lm_total_c15 {sc : zSc} {q : Nat} {P : Option zV → (Nat → Nat → Int) → Prop} (hq : 6 ≤ q) (x1 : Int) : ∀ (n : Nat) (y2 : Int) (y3 : Int) (M : Nat → Nat → Int), zS (lm_total_c15 x1 n y2 y3 M) (fun r => P (some (.inl r.1)) r.2) → zWp sc q 256 15 [some (.inr (.inr 106)), some (.inl x1), some (.inl y2), some (.inl y3)] [] M P := by
  intro n
  induction n with
  | zero => intro y2 y3 M h; exact (zS_none h).elim
  | succ n ih =>
    intro y2 y3 M h
    rw [lm_total_c15] at h
    refine E_iload_n (pc := 15) (zDk zD_256_ok 10 rfl) rfl ?_
    refine E_aload_n (pc := 16) (zDk zD_256_ok 11 rfl) rfl ?_
    obtain ⟨v17, e17, h⟩ := zS_bind h
    refine E_virI (pc := 17) (c := 189) (r := 106) (as := []) (rest := [.inl y3]) (zDk zD_256_ok 12 rfl) zc_256 (by decide +kernel) zk_189 ⟨(Nat.le_of_ble_eq_true rfl), rfl, rfl⟩ (Nat.le_of_ble_eq_true rfl) (zr_189 _) (Nat.lt_of_lt_of_le (by decide) hq) (by rw [zm_189]; exact (Nat.le_of_ble_eq_true rfl)) ⟨zc_189, by decide⟩ zis_8_106 (ok_lm_names ⟨v17, e17, ?_⟩)
    refine E_icmp (pc := 20) (t := 38) (zDk zD_256_ok 13 rfl) rfl (fun hz => ?_) (fun hz => ?_)
    · have h := zS_f h (Int.not_lt.mpr (T_ge hz))
      refine E_iload_n (pc := 38) (zDk zD_256_ok 23 rfl) rfl ?_
      have h := zS_some h
      exact E_ireturn (pc := 39) (zDk zD_256_ok 24 rfl) zt_256 h
    · have h := zS_t h (F_ge hz)
      refine E_iload_n (pc := 23) (zDk zD_256_ok 14 rfl) rfl ?_
      refine E_aload_n (pc := 24) (zDk zD_256_ok 15 rfl) rfl ?_
      refine E_iload_n (pc := 25) (zDk zD_256_ok 16 rfl) rfl ?_
      refine E_iload_n (pc := 26) (zDk zD_256_ok 17 rfl) rfl ?_
      obtain ⟨v27, e27, h⟩ := zS_bind h
      refine E_virI (pc := 27) (c := 222) (r := 106) (as := [.inl y3, .inl x1]) (rest := [.inl y2]) (zDk zD_256_ok 18 rfl) zc_256 (by decide +kernel) zk_222 ⟨(Nat.le_of_ble_eq_true rfl), rfl, rfl⟩ (Nat.le_of_ble_eq_true rfl) (zr_222 _) (Nat.lt_of_lt_of_le (by decide) hq) (by rw [zm_222]; exact (Nat.le_of_ble_eq_true rfl)) ⟨zc_222, by decide⟩ zis_8_106 (ok_lm_inkIn ⟨v27, e27, ?_⟩)
      refine W_iadd (pc := 30) (zDk zD_256_ok 19 rfl) ?_
      refine W_istore_n (pc := 31) (L' := [some (.inr (.inr 106)), some (.inl x1), some (.inl (w32 (y2 + v27))), some (.inl y3)]) (zDk zD_256_ok 20 rfl) zm_256 (by decide) rfl ?_
      refine W_iinc (pc := 32) (L' := [some (.inr (.inr 106)), some (.inl x1), some (.inl (w32 (y2 + v27))), some (.inl (w32 (y3 + 1)))]) (zDk zD_256_ok 21 rfl) rfl zm_256 (by decide) rfl ?_
      refine E_goto (pc := 35) (t := 15) (zDk zD_256_ok 22 rfl) rfl ?_
      exact (ih) (w32 (y2 + v27)) (w32 (y3 + 1)) M h
def lm_total (x1 : Int) (M : Nat → Nat → Int) : Option (Int × (Nat → Nat → Int)) :=
    ((lm_asksStep x1 M).bind (fun r2_ =>
    (if r2_.1 = 0 then
    (some ((-2 : Int), r2_.2))
    else
    (lm_total_c15 x1 zN (0 : Int) (0 : Int) r2_.2))))
set_option maxRecDepth 100000 in
theorem ok_lm_total {sc : zSc} {x1 : Int} {M : Nat → Nat → Int} {P : Int → (Nat → Nat → Int) → Prop} (h : zS (lm_total x1 M) (fun r => P r.1 r.2)) : zCi sc 256 [.inr (.inr 106), .inl x1] M P := by
  have ea : zarg (zml 256) [.inr (.inr 106), .inl x1] = [some (.inr (.inr 106)), some (.inl x1), none, none] := by rw [zm_256]; rfl
  unfold zCi zCw
  rw [ea, zr_256]
  have hq : 6 ≤ 6 := Nat.le_refl _
  unfold lm_total at h
  have h := zS_mono h (fun x hx => (⟨x.1, rfl, hx⟩ : ∃ y, (some (.inl x.1) : Option zV) = some (.inl y) ∧ P y x.2))
  skip
  refine E_aload_n (pc := 0) (zDk zD_256_ok 0 rfl) rfl ?_
  refine E_iload_n (pc := 1) (zDk zD_256_ok 1 rfl) rfl ?_
  obtain ⟨r2_, e2, h⟩ := zS_bind h
  refine E_virI (pc := 2) (c := 230) (r := 106) (as := [.inl x1]) (rest := []) (zDk zD_256_ok 2 rfl) zc_256 (by decide +kernel) zk_230 ⟨(Nat.le_of_ble_eq_true rfl), rfl, rfl⟩ (Nat.le_of_ble_eq_true rfl) (zr_230 _) (Nat.lt_of_lt_of_le (by decide) hq) (by rw [zm_230]; exact (Nat.le_of_ble_eq_true rfl)) ⟨zc_230, by decide⟩ zis_8_106 (ok_lm_asksStep ⟨r2_, e2, ?_⟩)
  refine E_if (pc := 5) (t := 11) (zDk zD_256_ok 3 rfl) rfl (fun hz => ?_) (fun hz => ?_)
  · have h := zS_f h (T_ne hz)
    refine E_iconst (pc := 11) (zDk zD_256_ok 6 rfl) (by decide +kernel) ?_
    refine W_istore_n (pc := 12) (L' := [some (.inr (.inr 106)), some (.inl x1), some (.inl (0 : Int)), none]) (zDk zD_256_ok 7 rfl) zm_256 (by decide) rfl ?_
    refine E_iconst (pc := 13) (zDk zD_256_ok 8 rfl) (by decide +kernel) ?_
    refine W_istore_n (pc := 14) (L' := [some (.inr (.inr 106)), some (.inl x1), some (.inl (0 : Int)), some (.inl (0 : Int))]) (zDk zD_256_ok 9 rfl) zm_256 (by decide) rfl ?_
    exact ok_lm_total_c15 hq x1 zN (0 : Int) (0 : Int) r2_.2 h
  · have h := zS_t h (F_ne hz)
    refine E_bipush (pc := 8) (zDk zD_256_ok 4 rfl) (by decide +kernel) ?_
    have h := zS_some h
    exact E_ireturn (pc := 10) (zDk zD_256_ok 5 rfl) zt_256 h
def zD_258 : List (Nat × Instr × Nat) := [(0, .aload_n (0), 1), (1, .iload_n (1), 1), (2, .invokevirtual (326), 3), (5, .ifCond .ne (6), 3), (8, .bipush (-2), 2), (10, .ireturn, 1), (11, .iconst (0), 1), (12, .istore_n (2), 1), (13, .iload_n (2), 1), (14, .aload_n (0), 1), (15, .invokevirtual (99), 3), (18, .if_icmp .gt (46), 3), (21, .iconst (0), 1), (22, .istore_n (3), 1), (23, .iload_n (3), 1), (24, .aload_n (0), 1), (25, .getfield (9), 3), (28, .iconst (0), 1), (29, .iaload, 1), (30, .if_icmp .ge (28), 3), (33, .aload_n (0), 1), (34, .iload_n (1), 1), (35, .invokevirtual (273), 3), (38, .aload_n (0), 1), (39, .iload_n (3), 1), (40, .iload_n (2), 1), (41, .invokevirtual (317), 3), (44, .iconst (-1), 1), (45, .ixor, 1), (46, .iand, 1), (47, .ifCond .ne (5), 3), (50, .iload_n (2), 1), (51, .ireturn, 1), (52, .iinc (3) (1), 3), (55, .goto (-32), 3), (58, .iinc (2) (1), 3), (61, .goto (-48), 3), (64, .iconst (-1), 1), (65, .ireturn, 1)]
set_option maxRecDepth 100000 in
theorem zD_258_ok : zDo 258 zD_258 = true := by decide +kernel
theorem zc_258 : zcls 258 = 8 := by decide +kernel
theorem zm_258 : zml 258 = 4 := by decide +kernel
theorem zt_258 : zrt 258 = (some (.int)) := by decide +kernel
theorem zk_258 : zkd 258 = 1 ∧ znp 258 + 1 = 2 := by decide +kernel
theorem zr_258 (as : List zV) : zrk 258 as = 6 := by unfold zrk; rw [if_neg (by decide)]; decide +kernel
def lm_lies_c23 (x1 : Int) (h13 : Int → (Nat → Nat → Int) → Option (Int × (Nat → Nat → Int))) : Nat → Int → Int → (Nat → Nat → Int) → Option (Int × (Nat → Nat → Int))
  | 0, _, _, _ => none
  | n + 1, y2, y3, M =>
    ((rdI 107 (0 : Int) M).bind (fun v29 =>
    (if y3 < v29 then
    ((lm_namesOf x1 M).bind (fun v35 =>
    ((lm_hereOf y3 y2 M).bind (fun v41 =>
    (if (zand v35 (zxor v41 (-1 : Int))) = 0 then
    (some (y2, M))
    else
    ((lm_lies_c23 x1 h13 n) y2 (w32 (y3 + 1)) M))))))
    else
    (h13 (w32 (y2 + 1)) M))))
set_option maxRecDepth 100000 in
theorem ok_lm_lies_c23 {sc : zSc} {q : Nat} {P : Option zV → (Nat → Nat → Int) → Prop} (hq : 6 ≤ q) (x1 : Int) (h13 : Int → (Nat → Nat → Int) → Option (Int × (Nat → Nat → Int))) (H13 : ∀ (y2 : Int) (M : Nat → Nat → Int) (d3 : Option zV), zS (h13 y2 M) (fun r => P (some (.inl r.1)) r.2) → zWp sc q 258 13 [some (.inr (.inr 106)), some (.inl x1), some (.inl y2), d3] [] M P) : ∀ (n : Nat) (y2 : Int) (y3 : Int) (M : Nat → Nat → Int), zS (lm_lies_c23 x1 h13 n y2 y3 M) (fun r => P (some (.inl r.1)) r.2) → zWp sc q 258 23 [some (.inr (.inr 106)), some (.inl x1), some (.inl y2), some (.inl y3)] [] M P := by
  intro n
  induction n with
  | zero => intro y2 y3 M h; exact (zS_none h).elim
  | succ n ih =>
    intro y2 y3 M h
    rw [lm_lies_c23] at h
    refine E_iload_n (pc := 23) (zDk zD_258_ok 14 rfl) rfl ?_
    refine E_aload_n (pc := 24) (zDk zD_258_ok 15 rfl) rfl ?_
    refine E_getR (pc := 25) (ci := 8) (f := 1) (r := 107) (zDk zD_258_ok 16 rfl) zc_258 (by decide +kernel) (by decide) zis_8_106 (by decide +kernel) (by decide) ?_
    refine E_iconst (pc := 28) (zDk zD_258_ok 17 rfl) (by decide +kernel) ?_
    obtain ⟨v29, e29, h⟩ := zS_bind h
    refine E_iaload (pc := 29) (zDk zD_258_ok 18 rfl) e29 ?_
    refine E_icmp (pc := 30) (t := 58) (zDk zD_258_ok 19 rfl) rfl (fun hz => ?_) (fun hz => ?_)
    · have h := zS_f h (Int.not_lt.mpr (T_ge hz))
      refine W_iinc (pc := 58) (L' := [some (.inr (.inr 106)), some (.inl x1), some (.inl (w32 (y2 + 1))), some (.inl y3)]) (zDk zD_258_ok 35 rfl) rfl zm_258 (by decide) rfl ?_
      refine E_goto (pc := 61) (t := 13) (zDk zD_258_ok 36 rfl) rfl ?_
      exact H13 (w32 (y2 + 1)) M (some (.inl y3)) h
    · have h := zS_t h (F_ge hz)
      refine E_aload_n (pc := 33) (zDk zD_258_ok 20 rfl) rfl ?_
      refine E_iload_n (pc := 34) (zDk zD_258_ok 21 rfl) rfl ?_
      obtain ⟨v35, e35, h⟩ := zS_bind h
      refine E_virI (pc := 35) (c := 191) (r := 106) (as := [.inl x1]) (rest := []) (zDk zD_258_ok 22 rfl) zc_258 (by decide +kernel) zk_191 ⟨(Nat.le_of_ble_eq_true rfl), rfl, rfl⟩ (Nat.le_of_ble_eq_true rfl) (zr_191 _) (Nat.lt_of_lt_of_le (by decide) hq) (by rw [zm_191]; exact (Nat.le_of_ble_eq_true rfl)) ⟨zc_191, by decide⟩ zis_8_106 (ok_lm_namesOf ⟨v35, e35, ?_⟩)
      refine E_aload_n (pc := 38) (zDk zD_258_ok 23 rfl) rfl ?_
      refine E_iload_n (pc := 39) (zDk zD_258_ok 24 rfl) rfl ?_
      refine E_iload_n (pc := 40) (zDk zD_258_ok 25 rfl) rfl ?_
      obtain ⟨v41, e41, h⟩ := zS_bind h
      refine E_virI (pc := 41) (c := 236) (r := 106) (as := [.inl y3, .inl y2]) (rest := [.inl v35]) (zDk zD_258_ok 26 rfl) zc_258 (by decide +kernel) zk_236 ⟨(Nat.le_of_ble_eq_true rfl), rfl, rfl⟩ (Nat.le_of_ble_eq_true rfl) (zr_236 _) (Nat.lt_of_lt_of_le (by decide) hq) (by rw [zm_236]; exact (Nat.le_of_ble_eq_true rfl)) ⟨zc_236, by decide⟩ zis_8_106 (ok_lm_hereOf ⟨v41, e41, ?_⟩)
      refine E_iconst (pc := 44) (zDk zD_258_ok 27 rfl) (by decide +kernel) ?_
      refine E_ixor (pc := 45) (zDk zD_258_ok 28 rfl) ?_
      refine E_iand (pc := 46) (zDk zD_258_ok 29 rfl) ?_
      refine E_if (pc := 47) (t := 52) (zDk zD_258_ok 30 rfl) rfl (fun hz => ?_) (fun hz => ?_)
      · have h := zS_f h (T_ne hz)
        refine W_iinc (pc := 52) (L' := [some (.inr (.inr 106)), some (.inl x1), some (.inl y2), some (.inl (w32 (y3 + 1)))]) (zDk zD_258_ok 33 rfl) rfl zm_258 (by decide) rfl ?_
        refine E_goto (pc := 55) (t := 23) (zDk zD_258_ok 34 rfl) rfl ?_
        exact (ih) y2 (w32 (y3 + 1)) M h
      · have h := zS_t h (F_ne hz)
        refine E_iload_n (pc := 50) (zDk zD_258_ok 31 rfl) rfl ?_
        have h := zS_some h
        exact E_ireturn (pc := 51) (zDk zD_258_ok 32 rfl) zt_258 h
def lm_lies_c13 (x1 : Int) : Nat → Int → (Nat → Nat → Int) → Option (Int × (Nat → Nat → Int))
  | 0, _, _ => none
  | n + 1, y2, M =>
    ((lm_last M).bind (fun v15 =>
    (if v15 < y2 then
    (some ((-1 : Int), M))
    else
    (lm_lies_c23 x1 (lm_lies_c13 x1 n) zN y2 (0 : Int) M))))
set_option maxRecDepth 100000 in
theorem ok_lm_lies_c13 {sc : zSc} {q : Nat} {P : Option zV → (Nat → Nat → Int) → Prop} (hq : 6 ≤ q) (x1 : Int) : ∀ (n : Nat) (y2 : Int) (M : Nat → Nat → Int) (d3 : Option zV), zS (lm_lies_c13 x1 n y2 M) (fun r => P (some (.inl r.1)) r.2) → zWp sc q 258 13 [some (.inr (.inr 106)), some (.inl x1), some (.inl y2), d3] [] M P := by
  intro n
  induction n with
  | zero => intro y2 M d3 h; exact (zS_none h).elim
  | succ n ih =>
    intro y2 M d3 h
    rw [lm_lies_c13] at h
    refine E_iload_n (pc := 13) (zDk zD_258_ok 8 rfl) rfl ?_
    refine E_aload_n (pc := 14) (zDk zD_258_ok 9 rfl) rfl ?_
    obtain ⟨v15, e15, h⟩ := zS_bind h
    refine E_virI (pc := 15) (c := 182) (r := 106) (as := []) (rest := [.inl y2]) (zDk zD_258_ok 10 rfl) zc_258 (by decide +kernel) zk_182 ⟨(Nat.le_of_ble_eq_true rfl), rfl, rfl⟩ (Nat.le_of_ble_eq_true rfl) (zr_182 _) (Nat.lt_of_lt_of_le (by decide) hq) (by rw [zm_182]; exact (Nat.le_of_ble_eq_true rfl)) ⟨zc_182, by decide⟩ zis_8_106 (ok_lm_last ⟨v15, e15, ?_⟩)
    refine E_icmp (pc := 18) (t := 64) (zDk zD_258_ok 11 rfl) rfl (fun hz => ?_) (fun hz => ?_)
    · have h := zS_t h (T_gt hz)
      refine E_iconst (pc := 64) (zDk zD_258_ok 37 rfl) (by decide +kernel) ?_
      have h := zS_some h
      exact E_ireturn (pc := 65) (zDk zD_258_ok 38 rfl) zt_258 h
    · have h := zS_f h (Int.not_lt.mpr (F_gt hz))
      refine E_iconst (pc := 21) (zDk zD_258_ok 12 rfl) (by decide +kernel) ?_
      refine W_istore_n (pc := 22) (L' := [some (.inr (.inr 106)), some (.inl x1), some (.inl y2), some (.inl (0 : Int))]) (zDk zD_258_ok 13 rfl) zm_258 (by decide) rfl ?_
      exact ok_lm_lies_c23 hq x1 (lm_lies_c13 x1 n) (ih) zN y2 (0 : Int) M h
def lm_lies (x1 : Int) (M : Nat → Nat → Int) : Option (Int × (Nat → Nat → Int)) :=
    ((lm_asksContract x1 M).bind (fun r2_ =>
    (if r2_.1 = 0 then
    (some ((-2 : Int), r2_.2))
    else
    (lm_lies_c13 x1 zN (0 : Int) r2_.2))))
set_option maxRecDepth 100000 in
theorem ok_lm_lies {sc : zSc} {x1 : Int} {M : Nat → Nat → Int} {P : Int → (Nat → Nat → Int) → Prop} (h : zS (lm_lies x1 M) (fun r => P r.1 r.2)) : zCi sc 258 [.inr (.inr 106), .inl x1] M P := by
  have ea : zarg (zml 258) [.inr (.inr 106), .inl x1] = [some (.inr (.inr 106)), some (.inl x1), none, none] := by rw [zm_258]; rfl
  unfold zCi zCw
  rw [ea, zr_258]
  have hq : 6 ≤ 6 := Nat.le_refl _
  unfold lm_lies at h
  have h := zS_mono h (fun x hx => (⟨x.1, rfl, hx⟩ : ∃ y, (some (.inl x.1) : Option zV) = some (.inl y) ∧ P y x.2))
  skip
  refine E_aload_n (pc := 0) (zDk zD_258_ok 0 rfl) rfl ?_
  refine E_iload_n (pc := 1) (zDk zD_258_ok 1 rfl) rfl ?_
  obtain ⟨r2_, e2, h⟩ := zS_bind h
  refine E_virI (pc := 2) (c := 232) (r := 106) (as := [.inl x1]) (rest := []) (zDk zD_258_ok 2 rfl) zc_258 (by decide +kernel) zk_232 ⟨(Nat.le_of_ble_eq_true rfl), rfl, rfl⟩ (Nat.le_of_ble_eq_true rfl) (zr_232 _) (Nat.lt_of_lt_of_le (by decide) hq) (by rw [zm_232]; exact (Nat.le_of_ble_eq_true rfl)) ⟨zc_232, by decide⟩ zis_8_106 (ok_lm_asksContract ⟨r2_, e2, ?_⟩)
  refine E_if (pc := 5) (t := 11) (zDk zD_258_ok 3 rfl) rfl (fun hz => ?_) (fun hz => ?_)
  · have h := zS_f h (T_ne hz)
    refine E_iconst (pc := 11) (zDk zD_258_ok 6 rfl) (by decide +kernel) ?_
    refine W_istore_n (pc := 12) (L' := [some (.inr (.inr 106)), some (.inl x1), some (.inl (0 : Int)), none]) (zDk zD_258_ok 7 rfl) zm_258 (by decide) rfl ?_
    exact ok_lm_lies_c13 hq x1 zN (0 : Int) r2_.2 none h
  · have h := zS_t h (F_ne hz)
    refine E_bipush (pc := 8) (zDk zD_258_ok 4 rfl) (by decide +kernel) ?_
    have h := zS_some h
    exact E_ireturn (pc := 10) (zDk zD_258_ok 5 rfl) zt_258 h
def zD_277 : List (Nat × Instr × Nat) := [(0, .aload_n (0), 1), (1, .invokevirtual (308), 3), (4, .ifCond .eq (23), 3), (7, .iload_n (1), 1), (8, .i2l, 1), (9, .lconst (0), 1), (10, .ldc2_w (268), 3), (13, .invokestatic (91), 3), (16, .ifCond .eq (11), 3), (19, .aload_n (0), 1), (20, .iload_n (1), 1), (21, .invokevirtual (372), 3), (24, .goto (5), 3), (27, .bipush (-2), 2), (29, .ireturn, 1)]
set_option maxRecDepth 100000 in
theorem zD_277_ok : zDo 277 zD_277 = true := by decide +kernel
theorem zc_277 : zcls 277 = 8 := by decide +kernel
theorem zm_277 : zml 277 = 2 := by decide +kernel
theorem zt_277 : zrt 277 = (some (.int)) := by decide +kernel
theorem zk_277 : zkd 277 = 1 ∧ znp 277 + 1 = 2 := by decide +kernel
theorem zr_277 (as : List zV) : zrk 277 as = 6 := by unfold zrk; rw [if_neg (by decide)]; decide +kernel
def lm_by (x1 : Int) (M : Nat → Nat → Int) : Option (Int × (Nat → Nat → Int)) :=
    ((lm_asksState M).bind (fun r1_ =>
    (if r1_.1 = 0 then
    (some ((-2 : Int), r1_.2))
    else
    ((lm_in x1 (0 : Int) (3 : Int) r1_.2).bind (fun v13 =>
    (if v13 = 0 then
    (some ((-2 : Int), r1_.2))
    else
    ((lm_signsBy x1 r1_.2).bind (fun r21_ =>
    (some (r21_.1, r21_.2))))))))))
set_option maxRecDepth 100000 in
theorem ok_lm_by {sc : zSc} {x1 : Int} {M : Nat → Nat → Int} {P : Int → (Nat → Nat → Int) → Prop} (h : zS (lm_by x1 M) (fun r => P r.1 r.2)) : zCi sc 277 [.inr (.inr 106), .inl x1] M P := by
  have ea : zarg (zml 277) [.inr (.inr 106), .inl x1] = [some (.inr (.inr 106)), some (.inl x1)] := by rw [zm_277]; rfl
  unfold zCi zCw
  rw [ea, zr_277]
  have hq : 6 ≤ 6 := Nat.le_refl _
  unfold lm_by at h
  have h := zS_mono h (fun x hx => (⟨x.1, rfl, hx⟩ : ∃ y, (some (.inl x.1) : Option zV) = some (.inl y) ∧ P y x.2))
  skip
  refine E_aload_n (pc := 0) (zDk zD_277_ok 0 rfl) rfl ?_
  obtain ⟨r1_, e1, h⟩ := zS_bind h
  refine E_virI (pc := 1) (c := 229) (r := 106) (as := []) (rest := []) (zDk zD_277_ok 1 rfl) zc_277 (by decide +kernel) zk_229 ⟨(Nat.le_of_ble_eq_true rfl), rfl, rfl⟩ (Nat.le_of_ble_eq_true rfl) (zr_229 _) (Nat.lt_of_lt_of_le (by decide) hq) (by rw [zm_229]; exact (Nat.le_of_ble_eq_true rfl)) ⟨zc_229, by decide⟩ zis_8_106 (ok_lm_asksState ⟨r1_, e1, ?_⟩)
  refine E_if (pc := 4) (t := 27) (zDk zD_277_ok 2 rfl) rfl (fun hz => ?_) (fun hz => ?_)
  · have h := zS_t h (T_eq hz)
    refine E_bipush (pc := 27) (zDk zD_277_ok 13 rfl) (by decide +kernel) ?_
    have h := zS_some h
    exact E_ireturn (pc := 29) (zDk zD_277_ok 14 rfl) zt_277 h
  · have h := zS_f h (F_eq hz)
    refine E_iload_n (pc := 7) (zDk zD_277_ok 3 rfl) rfl ?_
    refine E_i2l (pc := 8) (zDk zD_277_ok 4 rfl) ?_
    refine E_lconst (pc := 9) (v := 0) (zDk zD_277_ok 5 rfl) (by decide +kernel) ?_
    refine E_ldc2_w (pc := 10) (v := .inr (.inl (3 : Int))) (zDk zD_277_ok 6 rfl) zc_277 (by decide +kernel) ?_
    obtain ⟨v13, e13, h⟩ := zS_bind h
    refine E_staI (pc := 13) (c := 176) (as := [.inr (.inl x1), .inr (.inl (0 : Int)), .inr (.inl (3 : Int))]) (rest := []) (zDk zD_277_ok 7 rfl) zc_277 (by decide +kernel) (by decide +kernel) zk_176 ⟨(Nat.le_of_ble_eq_true rfl), rfl, rfl⟩ (Nat.le_of_ble_eq_true rfl) (zr_176 _) (Nat.lt_of_lt_of_le (by decide) hq) (by rw [zm_176]; exact (Nat.le_of_ble_eq_true rfl)) (ok_lm_in ⟨v13, e13, ?_⟩)
    refine E_if (pc := 16) (t := 27) (zDk zD_277_ok 8 rfl) rfl (fun hz => ?_) (fun hz => ?_)
    · have h := zS_t h (T_eq hz)
      refine E_bipush (pc := 27) (zDk zD_277_ok 13 rfl) (by decide +kernel) ?_
      have h := zS_some h
      exact E_ireturn (pc := 29) (zDk zD_277_ok 14 rfl) zt_277 h
    · have h := zS_f h (F_eq hz)
      refine E_aload_n (pc := 19) (zDk zD_277_ok 9 rfl) rfl ?_
      refine E_iload_n (pc := 20) (zDk zD_277_ok 10 rfl) rfl ?_
      obtain ⟨r21_, e21, h⟩ := zS_bind h
      refine E_virI (pc := 21) (c := 276) (r := 106) (as := [.inl x1]) (rest := []) (zDk zD_277_ok 11 rfl) zc_277 (by decide +kernel) zk_276 ⟨(Nat.le_of_ble_eq_true rfl), rfl, rfl⟩ (Nat.le_of_ble_eq_true rfl) (zr_276 _) (Nat.lt_of_lt_of_le (by decide) hq) (by rw [zm_276]; exact (Nat.le_of_ble_eq_true rfl)) ⟨zc_276, by decide⟩ zis_8_106 (ok_lm_signsBy ⟨r21_, e21, ?_⟩)
      refine E_goto (pc := 24) (t := 29) (zDk zD_277_ok 12 rfl) rfl ?_
      have h := zS_some h
      exact E_ireturn (pc := 29) (zDk zD_277_ok 14 rfl) zt_277 h
def zD_278 : List (Nat × Instr × Nat) := [(0, .aload_n (0), 1), (1, .invokevirtual (308), 3), (4, .ifCond .ne (6), 3), (7, .bipush (-2), 2), (9, .ireturn, 1), (10, .iconst (0), 1), (11, .istore_n (1), 1), (12, .iconst (1), 1), (13, .istore_n (2), 1), (14, .iload_n (2), 1), (15, .iconst (4), 1), (16, .if_icmp .ge (28), 3), (19, .aload_n (0), 1), (20, .iload_n (2), 1), (21, .invokevirtual (372), 3), (24, .aload_n (0), 1), (25, .iload_n (1), 1), (26, .invokevirtual (372), 3), (29, .if_icmp .le (7), 3), (32, .iload_n (2), 1), (33, .goto (4), 3), (36, .iload_n (1), 1), (37, .istore_n (1), 1), (38, .iinc (2) (1), 3), (41, .goto (-27), 3), (44, .iload_n (1), 1), (45, .ireturn, 1)]
set_option maxRecDepth 100000 in
theorem zD_278_ok : zDo 278 zD_278 = true := by decide +kernel
theorem zc_278 : zcls 278 = 8 := by decide +kernel
theorem zm_278 : zml 278 = 3 := by decide +kernel
theorem zt_278 : zrt 278 = (some (.int)) := by decide +kernel
theorem zk_278 : zkd 278 = 1 ∧ znp 278 + 1 = 1 := by decide +kernel
theorem zr_278 (as : List zV) : zrk 278 as = 6 := by unfold zrk; rw [if_neg (by decide)]; decide +kernel
def lm_law_c14 : Nat → Int → Int → (Nat → Nat → Int) → Option (Int × (Nat → Nat → Int))
  | 0, _, _, _ => none
  | n + 1, y1, y2, M =>
    (if y2 < (4 : Int) then
    ((lm_signsBy y2 M).bind (fun r21_ =>
    ((lm_signsBy y1 r21_.2).bind (fun r26_ =>
    (if r26_.1 < r21_.1 then
    ((lm_law_c14 n) y2 (w32 (y2 + 1)) r26_.2)
    else
    ((lm_law_c14 n) y1 (w32 (y2 + 1)) r26_.2))))))
    else
    (some (y1, M)))
set_option maxRecDepth 100000 in
theorem ok_lm_law_c14 {sc : zSc} {q : Nat} {P : Option zV → (Nat → Nat → Int) → Prop} (hq : 6 ≤ q) : ∀ (n : Nat) (y1 : Int) (y2 : Int) (M : Nat → Nat → Int), zS (lm_law_c14 n y1 y2 M) (fun r => P (some (.inl r.1)) r.2) → zWp sc q 278 14 [some (.inr (.inr 106)), some (.inl y1), some (.inl y2)] [] M P := by
  intro n
  induction n with
  | zero => intro y1 y2 M h; exact (zS_none h).elim
  | succ n ih =>
    intro y1 y2 M h
    rw [lm_law_c14] at h
    refine E_iload_n (pc := 14) (zDk zD_278_ok 9 rfl) rfl ?_
    refine E_iconst (pc := 15) (zDk zD_278_ok 10 rfl) (by decide +kernel) ?_
    refine E_icmp (pc := 16) (t := 44) (zDk zD_278_ok 11 rfl) rfl (fun hz => ?_) (fun hz => ?_)
    · have h := zS_f h (Int.not_lt.mpr (T_ge hz))
      refine E_iload_n (pc := 44) (zDk zD_278_ok 25 rfl) rfl ?_
      have h := zS_some h
      exact E_ireturn (pc := 45) (zDk zD_278_ok 26 rfl) zt_278 h
    · have h := zS_t h (F_ge hz)
      refine E_aload_n (pc := 19) (zDk zD_278_ok 12 rfl) rfl ?_
      refine E_iload_n (pc := 20) (zDk zD_278_ok 13 rfl) rfl ?_
      obtain ⟨r21_, e21, h⟩ := zS_bind h
      refine E_virI (pc := 21) (c := 276) (r := 106) (as := [.inl y2]) (rest := []) (zDk zD_278_ok 14 rfl) zc_278 (by decide +kernel) zk_276 ⟨(Nat.le_of_ble_eq_true rfl), rfl, rfl⟩ (Nat.le_of_ble_eq_true rfl) (zr_276 _) (Nat.lt_of_lt_of_le (by decide) hq) (by rw [zm_276]; exact (Nat.le_of_ble_eq_true rfl)) ⟨zc_276, by decide⟩ zis_8_106 (ok_lm_signsBy ⟨r21_, e21, ?_⟩)
      refine E_aload_n (pc := 24) (zDk zD_278_ok 15 rfl) rfl ?_
      refine E_iload_n (pc := 25) (zDk zD_278_ok 16 rfl) rfl ?_
      obtain ⟨r26_, e26, h⟩ := zS_bind h
      refine E_virI (pc := 26) (c := 276) (r := 106) (as := [.inl y1]) (rest := [.inl r21_.1]) (zDk zD_278_ok 17 rfl) zc_278 (by decide +kernel) zk_276 ⟨(Nat.le_of_ble_eq_true rfl), rfl, rfl⟩ (Nat.le_of_ble_eq_true rfl) (zr_276 _) (Nat.lt_of_lt_of_le (by decide) hq) (by rw [zm_276]; exact (Nat.le_of_ble_eq_true rfl)) ⟨zc_276, by decide⟩ zis_8_106 (ok_lm_signsBy ⟨r26_, e26, ?_⟩)
      refine E_icmp (pc := 29) (t := 36) (zDk zD_278_ok 18 rfl) rfl (fun hz => ?_) (fun hz => ?_)
      · have h := zS_f h (Int.not_lt.mpr (T_le hz))
        refine E_iload_n (pc := 36) (zDk zD_278_ok 21 rfl) rfl ?_
        refine W_istore_n (pc := 37) (L' := [some (.inr (.inr 106)), some (.inl y1), some (.inl y2)]) (zDk zD_278_ok 22 rfl) zm_278 (by decide) rfl ?_
        refine W_iinc (pc := 38) (L' := [some (.inr (.inr 106)), some (.inl y1), some (.inl (w32 (y2 + 1)))]) (zDk zD_278_ok 23 rfl) rfl zm_278 (by decide) rfl ?_
        refine E_goto (pc := 41) (t := 14) (zDk zD_278_ok 24 rfl) rfl ?_
        exact (ih) y1 (w32 (y2 + 1)) r26_.2 h
      · have h := zS_t h (F_le hz)
        refine E_iload_n (pc := 32) (zDk zD_278_ok 19 rfl) rfl ?_
        refine E_goto (pc := 33) (t := 37) (zDk zD_278_ok 20 rfl) rfl ?_
        refine W_istore_n (pc := 37) (L' := [some (.inr (.inr 106)), some (.inl y2), some (.inl y2)]) (zDk zD_278_ok 22 rfl) zm_278 (by decide) rfl ?_
        refine W_iinc (pc := 38) (L' := [some (.inr (.inr 106)), some (.inl y2), some (.inl (w32 (y2 + 1)))]) (zDk zD_278_ok 23 rfl) rfl zm_278 (by decide) rfl ?_
        refine E_goto (pc := 41) (t := 14) (zDk zD_278_ok 24 rfl) rfl ?_
        exact (ih) y2 (w32 (y2 + 1)) r26_.2 h
def lm_law (M : Nat → Nat → Int) : Option (Int × (Nat → Nat → Int)) :=
    ((lm_asksState M).bind (fun r1_ =>
    (if r1_.1 = 0 then
    (some ((-2 : Int), r1_.2))
    else
    (lm_law_c14 zN (0 : Int) (1 : Int) r1_.2))))
set_option maxRecDepth 100000 in
theorem ok_lm_law {sc : zSc} {M : Nat → Nat → Int} {P : Int → (Nat → Nat → Int) → Prop} (h : zS (lm_law M) (fun r => P r.1 r.2)) : zCi sc 278 [.inr (.inr 106)] M P := by
  have ea : zarg (zml 278) [.inr (.inr 106)] = [some (.inr (.inr 106)), none, none] := by rw [zm_278]; rfl
  unfold zCi zCw
  rw [ea, zr_278]
  have hq : 6 ≤ 6 := Nat.le_refl _
  unfold lm_law at h
  have h := zS_mono h (fun x hx => (⟨x.1, rfl, hx⟩ : ∃ y, (some (.inl x.1) : Option zV) = some (.inl y) ∧ P y x.2))
  skip
  refine E_aload_n (pc := 0) (zDk zD_278_ok 0 rfl) rfl ?_
  obtain ⟨r1_, e1, h⟩ := zS_bind h
  refine E_virI (pc := 1) (c := 229) (r := 106) (as := []) (rest := []) (zDk zD_278_ok 1 rfl) zc_278 (by decide +kernel) zk_229 ⟨(Nat.le_of_ble_eq_true rfl), rfl, rfl⟩ (Nat.le_of_ble_eq_true rfl) (zr_229 _) (Nat.lt_of_lt_of_le (by decide) hq) (by rw [zm_229]; exact (Nat.le_of_ble_eq_true rfl)) ⟨zc_229, by decide⟩ zis_8_106 (ok_lm_asksState ⟨r1_, e1, ?_⟩)
  refine E_if (pc := 4) (t := 10) (zDk zD_278_ok 2 rfl) rfl (fun hz => ?_) (fun hz => ?_)
  · have h := zS_f h (T_ne hz)
    refine E_iconst (pc := 10) (zDk zD_278_ok 5 rfl) (by decide +kernel) ?_
    refine W_istore_n (pc := 11) (L' := [some (.inr (.inr 106)), some (.inl (0 : Int)), none]) (zDk zD_278_ok 6 rfl) zm_278 (by decide) rfl ?_
    refine E_iconst (pc := 12) (zDk zD_278_ok 7 rfl) (by decide +kernel) ?_
    refine W_istore_n (pc := 13) (L' := [some (.inr (.inr 106)), some (.inl (0 : Int)), some (.inl (1 : Int))]) (zDk zD_278_ok 8 rfl) zm_278 (by decide) rfl ?_
    exact ok_lm_law_c14 hq zN (0 : Int) (1 : Int) r1_.2 h
  · have h := zS_t h (F_ne hz)
    refine E_bipush (pc := 7) (zDk zD_278_ok 3 rfl) (by decide +kernel) ?_
    have h := zS_some h
    exact E_ireturn (pc := 9) (zDk zD_278_ok 4 rfl) zt_278 h
def zD_279 : List (Nat × Instr × Nat) := [(0, .aload_n (0), 1), (1, .iload_n (1), 1), (2, .invokevirtual (320), 3), (5, .ifCond .ne (6), 3), (8, .bipush (-2), 2), (10, .ireturn, 1), (11, .aload_n (0), 1), (12, .getfield (37), 3), (15, .iload_n (1), 1), (16, .bipush (40), 2), (18, .iastore, 1), (19, .aload_n (0), 1), (20, .invokevirtual (369), 3), (23, .istore_n (2), 1), (24, .aload_n (0), 1), (25, .getfield (37), 3), (28, .iload_n (1), 1), (29, .iconst (0), 1), (30, .iastore, 1), (31, .aload_n (0), 1), (32, .invokevirtual (369), 3), (35, .iload_n (2), 1), (36, .if_icmp .eq (16), 3), (39, .aload_n (0), 1), (40, .getfield (37), 3), (43, .iload_n (1), 1), (44, .dup2, 1), (45, .iaload, 1), (46, .iconst (1), 1), (47, .iadd, 1), (48, .iastore, 1), (49, .goto (-18), 3), (52, .aload_n (0), 1), (53, .getfield (37), 3), (56, .iload_n (1), 1), (57, .iaload, 1), (58, .ireturn, 1)]
set_option maxRecDepth 100000 in
theorem zD_279_ok : zDo 279 zD_279 = true := by decide +kernel
theorem zc_279 : zcls 279 = 8 := by decide +kernel
theorem zm_279 : zml 279 = 3 := by decide +kernel
theorem zt_279 : zrt 279 = (some (.int)) := by decide +kernel
theorem zk_279 : zkd 279 = 1 ∧ znp 279 + 1 = 2 := by decide +kernel
theorem zr_279 (as : List zV) : zrk 279 as = 6 := by unfold zrk; rw [if_neg (by decide)]; decide +kernel
def lm_needs_279_c31 (x1 : Int) : Nat → Int → (Nat → Nat → Int) → Option (Int × (Nat → Nat → Int))
  | 0, _, _ => none
  | n + 1, y2, M =>
    ((lm_signsNow M).bind (fun r32_ =>
    (if r32_.1 = y2 then
    ((rdI 114 x1 r32_.2).bind (fun v57 =>
    (some (v57, r32_.2))))
    else
    ((rdI 114 x1 r32_.2).bind (fun v45 =>
    ((wrI 114 x1 (w32 (v45 + (1 : Int))) r32_.2).bind (fun M48 =>
    ((lm_needs_279_c31 x1 n) y2 M48))))))))
set_option maxRecDepth 100000 in
theorem ok_lm_needs_279_c31 {sc : zSc} {q : Nat} {P : Option zV → (Nat → Nat → Int) → Prop} (hq : 6 ≤ q) (x1 : Int) : ∀ (n : Nat) (y2 : Int) (M : Nat → Nat → Int), zS (lm_needs_279_c31 x1 n y2 M) (fun r => P (some (.inl r.1)) r.2) → zWp sc q 279 31 [some (.inr (.inr 106)), some (.inl x1), some (.inl y2)] [] M P := by
  intro n
  induction n with
  | zero => intro y2 M h; exact (zS_none h).elim
  | succ n ih =>
    intro y2 M h
    rw [lm_needs_279_c31] at h
    refine E_aload_n (pc := 31) (zDk zD_279_ok 19 rfl) rfl ?_
    obtain ⟨r32_, e32, h⟩ := zS_bind h
    refine E_virI (pc := 32) (c := 275) (r := 106) (as := []) (rest := []) (zDk zD_279_ok 20 rfl) zc_279 (by decide +kernel) zk_275 ⟨(Nat.le_of_ble_eq_true rfl), rfl, rfl⟩ (Nat.le_of_ble_eq_true rfl) (zr_275 _) (Nat.lt_of_lt_of_le (by decide) hq) (by rw [zm_275]; exact (Nat.le_of_ble_eq_true rfl)) ⟨zc_275, by decide⟩ zis_8_106 (ok_lm_signsNow ⟨r32_, e32, ?_⟩)
    refine E_iload_n (pc := 35) (zDk zD_279_ok 21 rfl) rfl ?_
    refine E_icmp (pc := 36) (t := 52) (zDk zD_279_ok 22 rfl) rfl (fun hz => ?_) (fun hz => ?_)
    · have h := zS_t h (T_eq hz)
      refine E_aload_n (pc := 52) (zDk zD_279_ok 32 rfl) rfl ?_
      refine E_getR (pc := 53) (ci := 8) (f := 20) (r := 114) (zDk zD_279_ok 33 rfl) zc_279 (by decide +kernel) (by decide) zis_8_106 (by decide +kernel) (by decide) ?_
      refine E_iload_n (pc := 56) (zDk zD_279_ok 34 rfl) rfl ?_
      obtain ⟨v57, e57, h⟩ := zS_bind h
      refine E_iaload (pc := 57) (zDk zD_279_ok 35 rfl) e57 ?_
      have h := zS_some h
      exact E_ireturn (pc := 58) (zDk zD_279_ok 36 rfl) zt_279 h
    · have h := zS_f h (F_eq hz)
      refine E_aload_n (pc := 39) (zDk zD_279_ok 23 rfl) rfl ?_
      refine E_getR (pc := 40) (ci := 8) (f := 20) (r := 114) (zDk zD_279_ok 24 rfl) zc_279 (by decide +kernel) (by decide) zis_8_106 (by decide +kernel) (by decide) ?_
      refine E_iload_n (pc := 43) (zDk zD_279_ok 25 rfl) rfl ?_
      refine E_dup2 (pc := 44) (zDk zD_279_ok 26 rfl) rfl rfl ?_
      obtain ⟨v45, e45, h⟩ := zS_bind h
      refine E_iaload (pc := 45) (zDk zD_279_ok 27 rfl) e45 ?_
      refine E_iconst (pc := 46) (zDk zD_279_ok 28 rfl) (by decide +kernel) ?_
      refine W_iadd (pc := 47) (zDk zD_279_ok 29 rfl) ?_
      obtain ⟨M48, e48, h⟩ := zS_bind h
      refine E_iastore (pc := 48) (zDk zD_279_ok 30 rfl) e48 ?_
      refine E_goto (pc := 49) (t := 31) (zDk zD_279_ok 31 rfl) rfl ?_
      exact (ih) y2 M48 h
def lm_needs_279 (x1 : Int) (M : Nat → Nat → Int) : Option (Int × (Nat → Nat → Int)) :=
    ((lm_asksName x1 M).bind (fun r2_ =>
    (if r2_.1 = 0 then
    (some ((-2 : Int), r2_.2))
    else
    ((wrI 114 x1 (40 : Int) r2_.2).bind (fun M18 =>
    ((lm_signsNow M18).bind (fun r20_ =>
    ((wrI 114 x1 (0 : Int) r20_.2).bind (fun M30 =>
    (lm_needs_279_c31 x1 zN r20_.1 M30))))))))))
set_option maxRecDepth 100000 in
theorem ok_lm_needs_279 {sc : zSc} {x1 : Int} {M : Nat → Nat → Int} {P : Int → (Nat → Nat → Int) → Prop} (h : zS (lm_needs_279 x1 M) (fun r => P r.1 r.2)) : zCi sc 279 [.inr (.inr 106), .inl x1] M P := by
  have ea : zarg (zml 279) [.inr (.inr 106), .inl x1] = [some (.inr (.inr 106)), some (.inl x1), none] := by rw [zm_279]; rfl
  unfold zCi zCw
  rw [ea, zr_279]
  have hq : 6 ≤ 6 := Nat.le_refl _
  unfold lm_needs_279 at h
  have h := zS_mono h (fun x hx => (⟨x.1, rfl, hx⟩ : ∃ y, (some (.inl x.1) : Option zV) = some (.inl y) ∧ P y x.2))
  skip
  refine E_aload_n (pc := 0) (zDk zD_279_ok 0 rfl) rfl ?_
  refine E_iload_n (pc := 1) (zDk zD_279_ok 1 rfl) rfl ?_
  obtain ⟨r2_, e2, h⟩ := zS_bind h
  refine E_virI (pc := 2) (c := 231) (r := 106) (as := [.inl x1]) (rest := []) (zDk zD_279_ok 2 rfl) zc_279 (by decide +kernel) zk_231 ⟨(Nat.le_of_ble_eq_true rfl), rfl, rfl⟩ (Nat.le_of_ble_eq_true rfl) (zr_231 _) (Nat.lt_of_lt_of_le (by decide) hq) (by rw [zm_231]; exact (Nat.le_of_ble_eq_true rfl)) ⟨zc_231, by decide⟩ zis_8_106 (ok_lm_asksName ⟨r2_, e2, ?_⟩)
  refine E_if (pc := 5) (t := 11) (zDk zD_279_ok 3 rfl) rfl (fun hz => ?_) (fun hz => ?_)
  · have h := zS_f h (T_ne hz)
    refine E_aload_n (pc := 11) (zDk zD_279_ok 6 rfl) rfl ?_
    refine E_getR (pc := 12) (ci := 8) (f := 20) (r := 114) (zDk zD_279_ok 7 rfl) zc_279 (by decide +kernel) (by decide) zis_8_106 (by decide +kernel) (by decide) ?_
    refine E_iload_n (pc := 15) (zDk zD_279_ok 8 rfl) rfl ?_
    refine E_bipush (pc := 16) (zDk zD_279_ok 9 rfl) (by decide +kernel) ?_
    obtain ⟨M18, e18, h⟩ := zS_bind h
    refine E_iastore (pc := 18) (zDk zD_279_ok 10 rfl) e18 ?_
    refine E_aload_n (pc := 19) (zDk zD_279_ok 11 rfl) rfl ?_
    obtain ⟨r20_, e20, h⟩ := zS_bind h
    refine E_virI (pc := 20) (c := 275) (r := 106) (as := []) (rest := []) (zDk zD_279_ok 12 rfl) zc_279 (by decide +kernel) zk_275 ⟨(Nat.le_of_ble_eq_true rfl), rfl, rfl⟩ (Nat.le_of_ble_eq_true rfl) (zr_275 _) (Nat.lt_of_lt_of_le (by decide) hq) (by rw [zm_275]; exact (Nat.le_of_ble_eq_true rfl)) ⟨zc_275, by decide⟩ zis_8_106 (ok_lm_signsNow ⟨r20_, e20, ?_⟩)
    refine W_istore_n (pc := 23) (L' := [some (.inr (.inr 106)), some (.inl x1), some (.inl r20_.1)]) (zDk zD_279_ok 13 rfl) zm_279 (by decide) rfl ?_
    refine E_aload_n (pc := 24) (zDk zD_279_ok 14 rfl) rfl ?_
    refine E_getR (pc := 25) (ci := 8) (f := 20) (r := 114) (zDk zD_279_ok 15 rfl) zc_279 (by decide +kernel) (by decide) zis_8_106 (by decide +kernel) (by decide) ?_
    refine E_iload_n (pc := 28) (zDk zD_279_ok 16 rfl) rfl ?_
    refine E_iconst (pc := 29) (zDk zD_279_ok 17 rfl) (by decide +kernel) ?_
    obtain ⟨M30, e30, h⟩ := zS_bind h
    refine E_iastore (pc := 30) (zDk zD_279_ok 18 rfl) e30 ?_
    exact ok_lm_needs_279_c31 hq x1 zN r20_.1 M30 h
  · have h := zS_t h (F_ne hz)
    refine E_bipush (pc := 8) (zDk zD_279_ok 4 rfl) (by decide +kernel) ?_
    have h := zS_some h
    exact E_ireturn (pc := 10) (zDk zD_279_ok 5 rfl) zt_279 h
def zD_280 : List (Nat × Instr × Nat) := [(0, .aload_n (0), 1), (1, .iload_n (1), 1), (2, .invokevirtual (320), 3), (5, .ifCond .ne (6), 3), (8, .bipush (-2), 2), (10, .ireturn, 1), (11, .iconst (0), 1), (12, .istore_n (2), 1), (13, .iconst (-1), 1), (14, .istore_n (3), 1), (15, .iconst (0), 1), (16, .istore (4), 2), (18, .iload (4), 2), (20, .aload_n (0), 1), (21, .getfield (9), 3), (24, .iconst (0), 1), (25, .iaload, 1), (26, .if_icmp .ge (38), 3), (29, .aload_n (0), 1), (30, .getfield (34), 3), (33, .iload_n (1), 1), (34, .iload (4), 2), (36, .iastore, 1), (37, .aload_n (0), 1), (38, .invokevirtual (369), 3), (41, .istore (5), 2), (43, .iload (5), 2), (45, .iload_n (3), 1), (46, .if_icmp .gt (6), 3), (49, .goto (9), 3), (52, .iload (5), 2), (54, .istore_n (3), 1), (55, .iload (4), 2), (57, .istore_n (2), 1), (58, .iinc (4) (1), 3), (61, .goto (-43), 3), (64, .iload_n (2), 1), (65, .ireturn, 1)]
set_option maxRecDepth 100000 in
theorem zD_280_ok : zDo 280 zD_280 = true := by decide +kernel
theorem zc_280 : zcls 280 = 8 := by decide +kernel
theorem zm_280 : zml 280 = 6 := by decide +kernel
theorem zt_280 : zrt 280 = (some (.int)) := by decide +kernel
theorem zk_280 : zkd 280 = 1 ∧ znp 280 + 1 = 2 := by decide +kernel
theorem zr_280 (as : List zV) : zrk 280 as = 6 := by unfold zrk; rw [if_neg (by decide)]; decide +kernel
def lm_lives_c18 (x1 : Int) : Nat → Int → Int → Int → (Nat → Nat → Int) → Option (Int × (Nat → Nat → Int))
  | 0, _, _, _, _ => none
  | n + 1, y2, y3, y4, M =>
    ((rdI 107 (0 : Int) M).bind (fun v25 =>
    (if y4 < v25 then
    ((wrI 113 x1 y4 M).bind (fun M36 =>
    ((lm_signsNow M36).bind (fun r38_ =>
    (if y3 < r38_.1 then
    ((lm_lives_c18 x1 n) y4 r38_.1 (w32 (y4 + 1)) r38_.2)
    else
    ((lm_lives_c18 x1 n) y2 y3 (w32 (y4 + 1)) r38_.2))))))
    else
    (some (y2, M)))))
set_option maxRecDepth 100000 in
theorem ok_lm_lives_c18 {sc : zSc} {q : Nat} {P : Option zV → (Nat → Nat → Int) → Prop} (hq : 6 ≤ q) (x1 : Int) : ∀ (n : Nat) (y2 : Int) (y3 : Int) (y4 : Int) (M : Nat → Nat → Int) (d5 : Option zV), zS (lm_lives_c18 x1 n y2 y3 y4 M) (fun r => P (some (.inl r.1)) r.2) → zWp sc q 280 18 [some (.inr (.inr 106)), some (.inl x1), some (.inl y2), some (.inl y3), some (.inl y4), d5] [] M P := by
  intro n
  induction n with
  | zero => intro y2 y3 y4 M d5 h; exact (zS_none h).elim
  | succ n ih =>
    intro y2 y3 y4 M d5 h
    rw [lm_lives_c18] at h
    refine E_iload (pc := 18) (zDk zD_280_ok 12 rfl) rfl ?_
    refine E_aload_n (pc := 20) (zDk zD_280_ok 13 rfl) rfl ?_
    refine E_getR (pc := 21) (ci := 8) (f := 1) (r := 107) (zDk zD_280_ok 14 rfl) zc_280 (by decide +kernel) (by decide) zis_8_106 (by decide +kernel) (by decide) ?_
    refine E_iconst (pc := 24) (zDk zD_280_ok 15 rfl) (by decide +kernel) ?_
    obtain ⟨v25, e25, h⟩ := zS_bind h
    refine E_iaload (pc := 25) (zDk zD_280_ok 16 rfl) e25 ?_
    refine E_icmp (pc := 26) (t := 64) (zDk zD_280_ok 17 rfl) rfl (fun hz => ?_) (fun hz => ?_)
    · have h := zS_f h (Int.not_lt.mpr (T_ge hz))
      refine E_iload_n (pc := 64) (zDk zD_280_ok 36 rfl) rfl ?_
      have h := zS_some h
      exact E_ireturn (pc := 65) (zDk zD_280_ok 37 rfl) zt_280 h
    · have h := zS_t h (F_ge hz)
      refine E_aload_n (pc := 29) (zDk zD_280_ok 18 rfl) rfl ?_
      refine E_getR (pc := 30) (ci := 8) (f := 19) (r := 113) (zDk zD_280_ok 19 rfl) zc_280 (by decide +kernel) (by decide) zis_8_106 (by decide +kernel) (by decide) ?_
      refine E_iload_n (pc := 33) (zDk zD_280_ok 20 rfl) rfl ?_
      refine E_iload (pc := 34) (zDk zD_280_ok 21 rfl) rfl ?_
      obtain ⟨M36, e36, h⟩ := zS_bind h
      refine E_iastore (pc := 36) (zDk zD_280_ok 22 rfl) e36 ?_
      refine E_aload_n (pc := 37) (zDk zD_280_ok 23 rfl) rfl ?_
      obtain ⟨r38_, e38, h⟩ := zS_bind h
      refine E_virI (pc := 38) (c := 275) (r := 106) (as := []) (rest := []) (zDk zD_280_ok 24 rfl) zc_280 (by decide +kernel) zk_275 ⟨(Nat.le_of_ble_eq_true rfl), rfl, rfl⟩ (Nat.le_of_ble_eq_true rfl) (zr_275 _) (Nat.lt_of_lt_of_le (by decide) hq) (by rw [zm_275]; exact (Nat.le_of_ble_eq_true rfl)) ⟨zc_275, by decide⟩ zis_8_106 (ok_lm_signsNow ⟨r38_, e38, ?_⟩)
      refine W_istore (pc := 41) (L' := [some (.inr (.inr 106)), some (.inl x1), some (.inl y2), some (.inl y3), some (.inl y4), some (.inl r38_.1)]) (zDk zD_280_ok 25 rfl) zm_280 (by decide) rfl ?_
      refine E_iload (pc := 43) (zDk zD_280_ok 26 rfl) rfl ?_
      refine E_iload_n (pc := 45) (zDk zD_280_ok 27 rfl) rfl ?_
      refine E_icmp (pc := 46) (t := 52) (zDk zD_280_ok 28 rfl) rfl (fun hz => ?_) (fun hz => ?_)
      · have h := zS_t h (T_gt hz)
        refine E_iload (pc := 52) (zDk zD_280_ok 30 rfl) rfl ?_
        refine W_istore_n (pc := 54) (L' := [some (.inr (.inr 106)), some (.inl x1), some (.inl y2), some (.inl r38_.1), some (.inl y4), some (.inl r38_.1)]) (zDk zD_280_ok 31 rfl) zm_280 (by decide) rfl ?_
        refine E_iload (pc := 55) (zDk zD_280_ok 32 rfl) rfl ?_
        refine W_istore_n (pc := 57) (L' := [some (.inr (.inr 106)), some (.inl x1), some (.inl y4), some (.inl r38_.1), some (.inl y4), some (.inl r38_.1)]) (zDk zD_280_ok 33 rfl) zm_280 (by decide) rfl ?_
        refine W_iinc (pc := 58) (L' := [some (.inr (.inr 106)), some (.inl x1), some (.inl y4), some (.inl r38_.1), some (.inl (w32 (y4 + 1))), some (.inl r38_.1)]) (zDk zD_280_ok 34 rfl) rfl zm_280 (by decide) rfl ?_
        refine E_goto (pc := 61) (t := 18) (zDk zD_280_ok 35 rfl) rfl ?_
        exact (ih) y4 r38_.1 (w32 (y4 + 1)) r38_.2 (some (.inl r38_.1)) h
      · have h := zS_f h (Int.not_lt.mpr (F_gt hz))
        refine E_goto (pc := 49) (t := 58) (zDk zD_280_ok 29 rfl) rfl ?_
        refine W_iinc (pc := 58) (L' := [some (.inr (.inr 106)), some (.inl x1), some (.inl y2), some (.inl y3), some (.inl (w32 (y4 + 1))), some (.inl r38_.1)]) (zDk zD_280_ok 34 rfl) rfl zm_280 (by decide) rfl ?_
        refine E_goto (pc := 61) (t := 18) (zDk zD_280_ok 35 rfl) rfl ?_
        exact (ih) y2 y3 (w32 (y4 + 1)) r38_.2 (some (.inl r38_.1)) h
def lm_lives (x1 : Int) (M : Nat → Nat → Int) : Option (Int × (Nat → Nat → Int)) :=
    ((lm_asksName x1 M).bind (fun r2_ =>
    (if r2_.1 = 0 then
    (some ((-2 : Int), r2_.2))
    else
    (lm_lives_c18 x1 zN (0 : Int) (-1 : Int) (0 : Int) r2_.2))))
set_option maxRecDepth 100000 in
theorem ok_lm_lives {sc : zSc} {x1 : Int} {M : Nat → Nat → Int} {P : Int → (Nat → Nat → Int) → Prop} (h : zS (lm_lives x1 M) (fun r => P r.1 r.2)) : zCi sc 280 [.inr (.inr 106), .inl x1] M P := by
  have ea : zarg (zml 280) [.inr (.inr 106), .inl x1] = [some (.inr (.inr 106)), some (.inl x1), none, none, none, none] := by rw [zm_280]; rfl
  unfold zCi zCw
  rw [ea, zr_280]
  have hq : 6 ≤ 6 := Nat.le_refl _
  unfold lm_lives at h
  have h := zS_mono h (fun x hx => (⟨x.1, rfl, hx⟩ : ∃ y, (some (.inl x.1) : Option zV) = some (.inl y) ∧ P y x.2))
  skip
  refine E_aload_n (pc := 0) (zDk zD_280_ok 0 rfl) rfl ?_
  refine E_iload_n (pc := 1) (zDk zD_280_ok 1 rfl) rfl ?_
  obtain ⟨r2_, e2, h⟩ := zS_bind h
  refine E_virI (pc := 2) (c := 231) (r := 106) (as := [.inl x1]) (rest := []) (zDk zD_280_ok 2 rfl) zc_280 (by decide +kernel) zk_231 ⟨(Nat.le_of_ble_eq_true rfl), rfl, rfl⟩ (Nat.le_of_ble_eq_true rfl) (zr_231 _) (Nat.lt_of_lt_of_le (by decide) hq) (by rw [zm_231]; exact (Nat.le_of_ble_eq_true rfl)) ⟨zc_231, by decide⟩ zis_8_106 (ok_lm_asksName ⟨r2_, e2, ?_⟩)
  refine E_if (pc := 5) (t := 11) (zDk zD_280_ok 3 rfl) rfl (fun hz => ?_) (fun hz => ?_)
  · have h := zS_f h (T_ne hz)
    refine E_iconst (pc := 11) (zDk zD_280_ok 6 rfl) (by decide +kernel) ?_
    refine W_istore_n (pc := 12) (L' := [some (.inr (.inr 106)), some (.inl x1), some (.inl (0 : Int)), none, none, none]) (zDk zD_280_ok 7 rfl) zm_280 (by decide) rfl ?_
    refine E_iconst (pc := 13) (zDk zD_280_ok 8 rfl) (by decide +kernel) ?_
    refine W_istore_n (pc := 14) (L' := [some (.inr (.inr 106)), some (.inl x1), some (.inl (0 : Int)), some (.inl (-1 : Int)), none, none]) (zDk zD_280_ok 9 rfl) zm_280 (by decide) rfl ?_
    refine E_iconst (pc := 15) (zDk zD_280_ok 10 rfl) (by decide +kernel) ?_
    refine W_istore (pc := 16) (L' := [some (.inr (.inr 106)), some (.inl x1), some (.inl (0 : Int)), some (.inl (-1 : Int)), some (.inl (0 : Int)), none]) (zDk zD_280_ok 11 rfl) zm_280 (by decide) rfl ?_
    exact ok_lm_lives_c18 hq x1 zN (0 : Int) (-1 : Int) (0 : Int) r2_.2 none h
  · have h := zS_t h (F_ne hz)
    refine E_bipush (pc := 8) (zDk zD_280_ok 4 rfl) (by decide +kernel) ?_
    have h := zS_some h
    exact E_ireturn (pc := 10) (zDk zD_280_ok 5 rfl) zt_280 h
def zD_48 : List (Nat × Instr × Nat) := [(0, .aload_n (1), 1), (1, .getfield (125), 3), (4, .iconst (5), 1), (5, .if_icmp .lt (9), 3), (8, .aload_n (0), 1), (9, .iconst (3), 1), (10, .invokevirtual (73), 3), (13, .return_, 1), (14, .aload_n (1), 1), (15, .getfield (125), 3), (18, .istore_n (2), 1), (19, .aload_n (0), 1), (20, .ldc (63), 2), (22, .invokevirtual (82), 3), (25, .aload_n (0), 1), (26, .ldc (128), 2), (28, .invokevirtual (82), 3), (31, .aload_n (1), 1), (32, .getfield (130), 3), (35, .iload_n (2), 1), (36, .aload_n (0), 1), (37, .iconst (0), 1), (38, .aload_n (1), 1), (39, .getfield (92), 3), (42, .iconst (1), 1), (43, .isub, 1), (44, .iconst (0), 1), (45, .invokevirtual (88), 3), (48, .iastore, 1), (49, .aload_n (0), 1), (50, .ldc (133), 2), (52, .invokevirtual (82), 3), (55, .aload_n (1), 1), (56, .getfield (135), 3), (59, .iload_n (2), 1), (60, .aload_n (0), 1), (61, .iconst (0), 1), (62, .bipush (40), 2), (64, .iconst (0), 1), (65, .invokevirtual (88), 3), (68, .iastore, 1), (69, .aload_n (0), 1), (70, .ldc (138), 2), (72, .invokevirtual (82), 3), (75, .aload_n (1), 1), (76, .getfield (140), 3), (79, .iload_n (2), 1), (80, .aload_n (0), 1), (81, .iconst (0), 1), (82, .bipush (59), 2), (84, .iconst (0), 1), (85, .invokevirtual (88), 3), (88, .iastore, 1), (89, .aload_n (0), 1), (90, .aload_n (1), 1), (91, .iload_n (2), 1), (92, .invokevirtual (142), 3), (95, .aload_n (1), 1), (96, .dup, 1), (97, .getfield (125), 3), (100, .iconst (1), 1), (101, .iadd, 1), (102, .putfield (125), 3), (105, .return_, 1)]
set_option maxRecDepth 100000 in
theorem zD_48_ok : zDo 48 zD_48 = true := by decide +kernel
theorem zc_48 : zcls 48 = 4 := by decide +kernel
theorem zm_48 : zml 48 = 3 := by decide +kernel
theorem zt_48 : zrt 48 = none := by decide +kernel
theorem zk_48 : zkd 48 = 1 ∧ znp 48 + 1 = 2 := by decide +kernel
theorem zr_48 (as : List zV) : zrk 48 as = 7 := by unfold zrk; rw [if_neg (by decide)]; decide +kernel
def lR_readName (r1 : Nat) (M : Nat → Nat → Int) : Option (Nat → Nat → Int) :=
    (if zis 6 r1 = true then
    (if (M r1 7) < (5 : Int) then
    ((lR_takeWord 5012 M).bind (fun M22 =>
    ((lR_takeWord 5013 M22).bind (fun M28 =>
    ((lR_takeNumber (0 : Int) (w32 ((M28 r1 0) - (1 : Int))) (0 : Int) M28).bind (fun r45_ =>
    ((wrI (r1 + 4) (M r1 7) r45_.1 r45_.2).bind (fun M48 =>
    ((lR_takeWord 5014 M48).bind (fun M52 =>
    ((lR_takeNumber (0 : Int) (40 : Int) (0 : Int) M52).bind (fun r65_ =>
    ((wrI (r1 + 5) (M r1 7) r65_.1 r65_.2).bind (fun M68 =>
    ((lR_takeWord 5015 M68).bind (fun M72 =>
    ((lR_takeNumber (0 : Int) (59 : Int) (0 : Int) M72).bind (fun r85_ =>
    ((wrI (r1 + 6) (M r1 7) r85_.1 r85_.2).bind (fun M88 =>
    ((lR_readWalk r1 (M r1 7) M88).bind (fun M92 =>
    ((some (zup M92 r1 7 (w32 ((M92 r1 7) + (1 : Int))))).bind (fun M102 =>
    (some M102)))))))))))))))))))))))))
    else
    ((lR_fail (3 : Int) M).bind (fun M10 =>
    (some M10))))
    else none)
set_option maxRecDepth 100000 in
theorem ok_lR_readName {sc : zSc} {r1 : Nat} {M : Nat → Nat → Int} {P : (Nat → Nat → Int) → Prop} (h : zS (lR_readName r1 M) P) : zCv sc 48 [.inr (.inr 1), .inr (.inr r1)] M P := by
  have ea : zarg (zml 48) [.inr (.inr 1), .inr (.inr r1)] = [some (.inr (.inr 1)), some (.inr (.inr r1)), none] := by rw [zm_48]; rfl
  unfold zCv zCw
  rw [ea, zr_48]
  have hq : 7 ≤ 7 := Nat.le_refl _
  unfold lR_readName at h
  have h := zS_mono h (fun x hx => (⟨rfl, hx⟩ : (none : Option zV) = none ∧ P x))
  obtain ⟨hr1, h⟩ := zS_c h
  skip
  refine E_aload_n (pc := 0) (zDk zD_48_ok 0 rfl) rfl ?_
  refine E_getI (pc := 1) (ci := 6) (f := 7) (zDk zD_48_ok 1 rfl) zc_48 (by decide +kernel) (by decide) hr1 ?_
  refine E_iconst (pc := 4) (zDk zD_48_ok 2 rfl) (by decide +kernel) ?_
  refine E_icmp (pc := 5) (t := 14) (zDk zD_48_ok 3 rfl) rfl (fun hz => ?_) (fun hz => ?_)
  · have h := zS_t h (T_lt hz)
    refine E_aload_n (pc := 14) (zDk zD_48_ok 8 rfl) rfl ?_
    refine E_getI (pc := 15) (ci := 6) (f := 7) (zDk zD_48_ok 9 rfl) zc_48 (by decide +kernel) (by decide) hr1 ?_
    refine W_istore_n (pc := 18) (L' := [some (.inr (.inr 1)), some (.inr (.inr r1)), some (.inl (M r1 7))]) (zDk zD_48_ok 10 rfl) zm_48 (by decide) rfl ?_
    refine E_aload_n (pc := 19) (zDk zD_48_ok 11 rfl) rfl ?_
    refine E_ldc (pc := 20) (v := .inr (.inr 5012)) (zDk zD_48_ok 12 rfl) zc_48 (by decide +kernel) ?_
    obtain ⟨M22, e22, h⟩ := zS_bind h
    refine E_virV (pc := 22) (c := 52) (r := 1) (as := [.inr (.inr 5012)]) (rest := []) (zDk zD_48_ok 13 rfl) zc_48 (by decide +kernel) zk_52 ⟨(Nat.le_of_ble_eq_true rfl), rfl, rfl⟩ (Nat.le_of_ble_eq_true rfl) (zr_52 _) (Nat.lt_of_lt_of_le (by decide) hq) (by rw [zm_52]; exact (Nat.le_of_ble_eq_true rfl)) ⟨zc_52, by decide⟩ zis_4_1 (ok_lR_takeWord ⟨M22, e22, ?_⟩)
    refine E_aload_n (pc := 25) (zDk zD_48_ok 14 rfl) rfl ?_
    refine E_ldc (pc := 26) (v := .inr (.inr 5013)) (zDk zD_48_ok 15 rfl) zc_48 (by decide +kernel) ?_
    obtain ⟨M28, e28, h⟩ := zS_bind h
    refine E_virV (pc := 28) (c := 52) (r := 1) (as := [.inr (.inr 5013)]) (rest := []) (zDk zD_48_ok 16 rfl) zc_48 (by decide +kernel) zk_52 ⟨(Nat.le_of_ble_eq_true rfl), rfl, rfl⟩ (Nat.le_of_ble_eq_true rfl) (zr_52 _) (Nat.lt_of_lt_of_le (by decide) hq) (by rw [zm_52]; exact (Nat.le_of_ble_eq_true rfl)) ⟨zc_52, by decide⟩ zis_4_1 (ok_lR_takeWord ⟨M28, e28, ?_⟩)
    refine E_aload_n (pc := 31) (zDk zD_48_ok 17 rfl) rfl ?_
    refine E_getR (pc := 32) (ci := 6) (f := 12) (r := (r1 + 4)) (zDk zD_48_ok 18 rfl) zc_48 (by decide +kernel) (by decide) hr1 (zg_6_12 hr1) (zh_6_12 hr1) ?_
    refine E_iload_n (pc := 35) (zDk zD_48_ok 19 rfl) rfl ?_
    refine E_aload_n (pc := 36) (zDk zD_48_ok 20 rfl) rfl ?_
    refine E_iconst (pc := 37) (zDk zD_48_ok 21 rfl) (by decide +kernel) ?_
    refine E_aload_n (pc := 38) (zDk zD_48_ok 22 rfl) rfl ?_
    refine E_getI (pc := 39) (ci := 6) (f := 0) (zDk zD_48_ok 23 rfl) zc_48 (by decide +kernel) (by decide) hr1 ?_
    refine E_iconst (pc := 42) (zDk zD_48_ok 24 rfl) (by decide +kernel) ?_
    refine W_isub (pc := 43) (zDk zD_48_ok 25 rfl) ?_
    refine E_iconst (pc := 44) (zDk zD_48_ok 26 rfl) (by decide +kernel) ?_
    obtain ⟨r45_, e45, h⟩ := zS_bind h
    refine E_virI (pc := 45) (c := 54) (r := 1) (as := [.inl (0 : Int), .inl (w32 ((M28 r1 0) - (1 : Int))), .inl (0 : Int)]) (rest := [.inl (M r1 7), .inr (.inr (r1 + 4))]) (zDk zD_48_ok 27 rfl) zc_48 (by decide +kernel) zk_54 ⟨(Nat.le_of_ble_eq_true rfl), rfl, rfl⟩ (Nat.le_of_ble_eq_true rfl) (zr_54 _) (Nat.lt_of_lt_of_le (by decide) hq) (by rw [zm_54]; exact (Nat.le_of_ble_eq_true rfl)) ⟨zc_54, by decide⟩ zis_4_1 (ok_lR_takeNumber ⟨r45_, e45, ?_⟩)
    obtain ⟨M48, e48, h⟩ := zS_bind h
    refine E_iastore (pc := 48) (zDk zD_48_ok 28 rfl) e48 ?_
    refine E_aload_n (pc := 49) (zDk zD_48_ok 29 rfl) rfl ?_
    refine E_ldc (pc := 50) (v := .inr (.inr 5014)) (zDk zD_48_ok 30 rfl) zc_48 (by decide +kernel) ?_
    obtain ⟨M52, e52, h⟩ := zS_bind h
    refine E_virV (pc := 52) (c := 52) (r := 1) (as := [.inr (.inr 5014)]) (rest := []) (zDk zD_48_ok 31 rfl) zc_48 (by decide +kernel) zk_52 ⟨(Nat.le_of_ble_eq_true rfl), rfl, rfl⟩ (Nat.le_of_ble_eq_true rfl) (zr_52 _) (Nat.lt_of_lt_of_le (by decide) hq) (by rw [zm_52]; exact (Nat.le_of_ble_eq_true rfl)) ⟨zc_52, by decide⟩ zis_4_1 (ok_lR_takeWord ⟨M52, e52, ?_⟩)
    refine E_aload_n (pc := 55) (zDk zD_48_ok 32 rfl) rfl ?_
    refine E_getR (pc := 56) (ci := 6) (f := 13) (r := (r1 + 5)) (zDk zD_48_ok 33 rfl) zc_48 (by decide +kernel) (by decide) hr1 (zg_6_13 hr1) (zh_6_13 hr1) ?_
    refine E_iload_n (pc := 59) (zDk zD_48_ok 34 rfl) rfl ?_
    refine E_aload_n (pc := 60) (zDk zD_48_ok 35 rfl) rfl ?_
    refine E_iconst (pc := 61) (zDk zD_48_ok 36 rfl) (by decide +kernel) ?_
    refine E_bipush (pc := 62) (zDk zD_48_ok 37 rfl) (by decide +kernel) ?_
    refine E_iconst (pc := 64) (zDk zD_48_ok 38 rfl) (by decide +kernel) ?_
    obtain ⟨r65_, e65, h⟩ := zS_bind h
    refine E_virI (pc := 65) (c := 54) (r := 1) (as := [.inl (0 : Int), .inl (40 : Int), .inl (0 : Int)]) (rest := [.inl (M r1 7), .inr (.inr (r1 + 5))]) (zDk zD_48_ok 39 rfl) zc_48 (by decide +kernel) zk_54 ⟨(Nat.le_of_ble_eq_true rfl), rfl, rfl⟩ (Nat.le_of_ble_eq_true rfl) (zr_54 _) (Nat.lt_of_lt_of_le (by decide) hq) (by rw [zm_54]; exact (Nat.le_of_ble_eq_true rfl)) ⟨zc_54, by decide⟩ zis_4_1 (ok_lR_takeNumber ⟨r65_, e65, ?_⟩)
    obtain ⟨M68, e68, h⟩ := zS_bind h
    refine E_iastore (pc := 68) (zDk zD_48_ok 40 rfl) e68 ?_
    refine E_aload_n (pc := 69) (zDk zD_48_ok 41 rfl) rfl ?_
    refine E_ldc (pc := 70) (v := .inr (.inr 5015)) (zDk zD_48_ok 42 rfl) zc_48 (by decide +kernel) ?_
    obtain ⟨M72, e72, h⟩ := zS_bind h
    refine E_virV (pc := 72) (c := 52) (r := 1) (as := [.inr (.inr 5015)]) (rest := []) (zDk zD_48_ok 43 rfl) zc_48 (by decide +kernel) zk_52 ⟨(Nat.le_of_ble_eq_true rfl), rfl, rfl⟩ (Nat.le_of_ble_eq_true rfl) (zr_52 _) (Nat.lt_of_lt_of_le (by decide) hq) (by rw [zm_52]; exact (Nat.le_of_ble_eq_true rfl)) ⟨zc_52, by decide⟩ zis_4_1 (ok_lR_takeWord ⟨M72, e72, ?_⟩)
    refine E_aload_n (pc := 75) (zDk zD_48_ok 44 rfl) rfl ?_
    refine E_getR (pc := 76) (ci := 6) (f := 14) (r := (r1 + 6)) (zDk zD_48_ok 45 rfl) zc_48 (by decide +kernel) (by decide) hr1 (zg_6_14 hr1) (zh_6_14 hr1) ?_
    refine E_iload_n (pc := 79) (zDk zD_48_ok 46 rfl) rfl ?_
    refine E_aload_n (pc := 80) (zDk zD_48_ok 47 rfl) rfl ?_
    refine E_iconst (pc := 81) (zDk zD_48_ok 48 rfl) (by decide +kernel) ?_
    refine E_bipush (pc := 82) (zDk zD_48_ok 49 rfl) (by decide +kernel) ?_
    refine E_iconst (pc := 84) (zDk zD_48_ok 50 rfl) (by decide +kernel) ?_
    obtain ⟨r85_, e85, h⟩ := zS_bind h
    refine E_virI (pc := 85) (c := 54) (r := 1) (as := [.inl (0 : Int), .inl (59 : Int), .inl (0 : Int)]) (rest := [.inl (M r1 7), .inr (.inr (r1 + 6))]) (zDk zD_48_ok 51 rfl) zc_48 (by decide +kernel) zk_54 ⟨(Nat.le_of_ble_eq_true rfl), rfl, rfl⟩ (Nat.le_of_ble_eq_true rfl) (zr_54 _) (Nat.lt_of_lt_of_le (by decide) hq) (by rw [zm_54]; exact (Nat.le_of_ble_eq_true rfl)) ⟨zc_54, by decide⟩ zis_4_1 (ok_lR_takeNumber ⟨r85_, e85, ?_⟩)
    obtain ⟨M88, e88, h⟩ := zS_bind h
    refine E_iastore (pc := 88) (zDk zD_48_ok 52 rfl) e88 ?_
    refine E_aload_n (pc := 89) (zDk zD_48_ok 53 rfl) rfl ?_
    refine E_aload_n (pc := 90) (zDk zD_48_ok 54 rfl) rfl ?_
    refine E_iload_n (pc := 91) (zDk zD_48_ok 55 rfl) rfl ?_
    obtain ⟨M92, e92, h⟩ := zS_bind h
    refine E_virV (pc := 92) (c := 49) (r := 1) (as := [.inr (.inr r1), .inl (M r1 7)]) (rest := []) (zDk zD_48_ok 56 rfl) zc_48 (by decide +kernel) zk_49 ⟨(Nat.le_of_ble_eq_true rfl), rfl, rfl⟩ (Nat.le_of_ble_eq_true rfl) (zr_49 _) (Nat.lt_of_lt_of_le (by decide) hq) (by rw [zm_49]; exact (Nat.le_of_ble_eq_true rfl)) ⟨zc_49, by decide⟩ zis_4_1 (ok_lR_readWalk ⟨M92, e92, ?_⟩)
    refine E_aload_n (pc := 95) (zDk zD_48_ok 57 rfl) rfl ?_
    refine E_dup (pc := 96) (zDk zD_48_ok 58 rfl) rfl ?_
    refine E_getI (pc := 97) (ci := 6) (f := 7) (zDk zD_48_ok 59 rfl) zc_48 (by decide +kernel) (by decide) hr1 ?_
    refine E_iconst (pc := 100) (zDk zD_48_ok 60 rfl) (by decide +kernel) ?_
    refine W_iadd (pc := 101) (zDk zD_48_ok 61 rfl) ?_
    obtain ⟨M102, e102, h⟩ := zS_bind h
    refine W_putI (pc := 102) (ci := 6) (f := 7) (zDk zD_48_ok 62 rfl) zc_48 (by decide +kernel) (by decide) hr1 (Option.some.inj e102) ?_
    have h := zS_some h
    exact E_return (x := ()) (pc := 105) (zDk zD_48_ok 63 rfl) zt_48 h
  · have h := zS_f h (Int.not_lt.mpr (F_lt hz))
    refine E_aload_n (pc := 8) (zDk zD_48_ok 4 rfl) rfl ?_
    refine E_iconst (pc := 9) (zDk zD_48_ok 5 rfl) (by decide +kernel) ?_
    obtain ⟨M10, e10, h⟩ := zS_bind h
    refine E_virV (pc := 10) (c := 51) (r := 1) (as := [.inl (3 : Int)]) (rest := []) (zDk zD_48_ok 6 rfl) zc_48 (by decide +kernel) zk_51 ⟨(Nat.le_of_ble_eq_true rfl), rfl, rfl⟩ (Nat.le_of_ble_eq_true rfl) (zr_51 _) (Nat.lt_of_lt_of_le (by decide) hq) (by rw [zm_51]; exact (Nat.le_of_ble_eq_true rfl)) ⟨zc_51, by decide⟩ zis_4_1 (ok_lR_fail ⟨M10, e10, ?_⟩)
    have h := zS_some h
    exact E_return (x := ()) (pc := 13) (zDk zD_48_ok 7 rfl) zt_48 h
def zD_202 : List (Nat × Instr × Nat) := [(0, .aload_n (0), 1), (1, .aload_n (1), 1), (2, .invokevirtual (169), 3), (5, .aload_n (0), 1), (6, .iload_n (2), 1), (7, .iload_n (3), 1), (8, .invokevirtual (173), 3), (11, .ireturn, 1)]
set_option maxRecDepth 100000 in
theorem zD_202_ok : zDo 202 zD_202 = true := by decide +kernel
theorem zc_202 : zcls 202 = 8 := by decide +kernel
theorem zm_202 : zml 202 = 4 := by decide +kernel
theorem zt_202 : zrt 202 = (some (.int)) := by decide +kernel
theorem zk_202 : zkd 202 = 1 ∧ znp 202 + 1 = 4 := by decide +kernel
theorem zr_202 (as : List zV) : zrk 202 as = 7 := by unfold zrk; rw [if_neg (by decide)]; decide +kernel
def lm_told (w1 : Nat) (x2 : Int) (x3 : Int) (M : Nat → Nat → Int) : Option (Int × (Nat → Nat → Int)) :=
    (if 5003 ≤ w1 ∧ w1 < 5033 then
    ((lm_needs w1 M).bind (fun M2 =>
    ((lm_number x2 x3 M2).bind (fun r8_ =>
    (some (r8_.1, r8_.2))))))
    else none)
set_option maxRecDepth 100000 in
theorem ok_lm_told {sc : zSc} {w1 : Nat} {x2 : Int} {x3 : Int} {M : Nat → Nat → Int} {P : Int → (Nat → Nat → Int) → Prop} (h : zS (lm_told w1 x2 x3 M) (fun r => P r.1 r.2)) : zCi sc 202 [.inr (.inr 106), .inr (.inr w1), .inl x2, .inl x3] M P := by
  have ea : zarg (zml 202) [.inr (.inr 106), .inr (.inr w1), .inl x2, .inl x3] = [some (.inr (.inr 106)), some (.inr (.inr w1)), some (.inl x2), some (.inl x3)] := by rw [zm_202]; rfl
  unfold zCi zCw
  rw [ea, zr_202]
  have hq : 7 ≤ 7 := Nat.le_refl _
  unfold lm_told at h
  have h := zS_mono h (fun x hx => (⟨x.1, rfl, hx⟩ : ∃ y, (some (.inl x.1) : Option zV) = some (.inl y) ∧ P y x.2))
  obtain ⟨hw1, h⟩ := zS_c h
  skip
  refine E_aload_n (pc := 0) (zDk zD_202_ok 0 rfl) rfl ?_
  refine E_aload_n (pc := 1) (zDk zD_202_ok 1 rfl) rfl ?_
  obtain ⟨M2, e2, h⟩ := zS_bind h
  refine E_virV (pc := 2) (c := 200) (r := 106) (as := [.inr (.inr w1)]) (rest := []) (zDk zD_202_ok 2 rfl) zc_202 (by decide +kernel) zk_200 ⟨(Nat.le_of_ble_eq_true rfl), rfl, rfl⟩ (Nat.le_of_ble_eq_true rfl) (zr_200 _) (Nat.lt_of_lt_of_le (by decide) hq) (by rw [zm_200]; exact (Nat.le_of_ble_eq_true rfl)) ⟨zc_200, by decide⟩ zis_8_106 (ok_lm_needs ⟨M2, e2, ?_⟩)
  refine E_aload_n (pc := 5) (zDk zD_202_ok 3 rfl) rfl ?_
  refine E_iload_n (pc := 6) (zDk zD_202_ok 4 rfl) rfl ?_
  refine E_iload_n (pc := 7) (zDk zD_202_ok 5 rfl) rfl ?_
  obtain ⟨r8_, e8, h⟩ := zS_bind h
  refine E_virI (pc := 8) (c := 201) (r := 106) (as := [.inl x2, .inl x3]) (rest := []) (zDk zD_202_ok 6 rfl) zc_202 (by decide +kernel) zk_201 ⟨(Nat.le_of_ble_eq_true rfl), rfl, rfl⟩ (Nat.le_of_ble_eq_true rfl) (zr_201 _) (Nat.lt_of_lt_of_le (by decide) hq) (by rw [zm_201]; exact (Nat.le_of_ble_eq_true rfl)) ⟨zc_201, by decide⟩ zis_8_106 (ok_lm_number ⟨r8_, e8, ?_⟩)
  have h := zS_some h
  exact E_ireturn (pc := 11) (zDk zD_202_ok 7 rfl) zt_202 h
def zD_206 : List (Nat × Instr × Nat) := [(0, .bipush (10), 2), (2, .iconst (2), 1), (3, .aload_n (0), 1), (4, .getfield (31), 3), (7, .iconst (4), 1), (8, .iaload, 1), (9, .imul, 1), (10, .iadd, 1), (11, .istore_n (1), 1), (12, .aload_n (0), 1), (13, .getfield (31), 3), (16, .iload_n (1), 1), (17, .aload_n (0), 1), (18, .invokevirtual (190), 3), (21, .iastore, 1), (22, .aload_n (0), 1), (23, .ldc (193), 2), (25, .invokevirtual (169), 3), (28, .aload_n (0), 1), (29, .invokevirtual (143), 3), (32, .ifCond .eq (29), 3), (35, .aload_n (0), 1), (36, .getfield (119), 3), (39, .iconst (2), 1), (40, .if_icmp .ne (21), 3), (43, .aload_n (0), 1), (44, .getfield (130), 3), (47, .aload_n (0), 1), (48, .getfield (31), 3), (51, .iload_n (1), 1), (52, .iaload, 1), (53, .if_icmp .ne (8), 3), (56, .aload_n (0), 1), (57, .iconst (2), 1), (58, .invokevirtual (165), 3), (61, .aload_n (0), 1), (62, .getfield (31), 3), (65, .iload_n (1), 1), (66, .iconst (1), 1), (67, .iadd, 1), (68, .aload_n (0), 1), (69, .invokevirtual (190), 3), (72, .iastore, 1), (73, .aload_n (0), 1), (74, .getfield (31), 3), (77, .iconst (4), 1), (78, .dup2, 1), (79, .iaload, 1), (80, .iconst (1), 1), (81, .iadd, 1), (82, .iastore, 1), (83, .return_, 1)]
set_option maxRecDepth 100000 in
theorem zD_206_ok : zDo 206 zD_206 = true := by decide +kernel
theorem zc_206 : zcls 206 = 8 := by decide +kernel
theorem zm_206 : zml 206 = 2 := by decide +kernel
theorem zt_206 : zrt 206 = none := by decide +kernel
theorem zk_206 : zkd 206 = 1 ∧ znp 206 + 1 = 1 := by decide +kernel
theorem zr_206 (as : List zV) : zrk 206 as = 7 := by unfold zrk; rw [if_neg (by decide)]; decide +kernel
def lm_readStreet_c61 (y1 : Int) (M : Nat → Nat → Int) : Option (Nat → Nat → Int) :=
    ((lm_freshCorner M).bind (fun r69_ =>
    ((wrI 112 (w32 (y1 + (1 : Int))) r69_.1 r69_.2).bind (fun M72 =>
    ((rdI 112 (4 : Int) M72).bind (fun v79 =>
    ((wrI 112 (4 : Int) (w32 (v79 + (1 : Int))) M72).bind (fun M82 =>
    (some M82)))))))))
set_option maxRecDepth 100000 in
theorem ok_lm_readStreet_c61 {sc : zSc} {q : Nat} {P : Option zV → (Nat → Nat → Int) → Prop} (hq : 7 ≤ q) : ∀ (y1 : Int) (M : Nat → Nat → Int), zS (lm_readStreet_c61 y1 M) (fun M0 => P none M0) → zWp sc q 206 61 [some (.inr (.inr 106)), some (.inl y1)] [] M P := by
  intro y1 M h
  unfold lm_readStreet_c61 at h
  refine E_aload_n (pc := 61) (zDk zD_206_ok 35 rfl) rfl ?_
  refine E_getR (pc := 62) (ci := 8) (f := 14) (r := 112) (zDk zD_206_ok 36 rfl) zc_206 (by decide +kernel) (by decide) zis_8_106 (by decide +kernel) (by decide) ?_
  refine E_iload_n (pc := 65) (zDk zD_206_ok 37 rfl) rfl ?_
  refine E_iconst (pc := 66) (zDk zD_206_ok 38 rfl) (by decide +kernel) ?_
  refine W_iadd (pc := 67) (zDk zD_206_ok 39 rfl) ?_
  refine E_aload_n (pc := 68) (zDk zD_206_ok 40 rfl) rfl ?_
  obtain ⟨r69_, e69, h⟩ := zS_bind h
  refine E_virI (pc := 69) (c := 204) (r := 106) (as := []) (rest := [.inl (w32 (y1 + (1 : Int))), .inr (.inr 112)]) (zDk zD_206_ok 41 rfl) zc_206 (by decide +kernel) zk_204 ⟨(Nat.le_of_ble_eq_true rfl), rfl, rfl⟩ (Nat.le_of_ble_eq_true rfl) (zr_204 _) (Nat.lt_of_lt_of_le (by decide) hq) (by rw [zm_204]; exact (Nat.le_of_ble_eq_true rfl)) ⟨zc_204, by decide⟩ zis_8_106 (ok_lm_freshCorner ⟨r69_, e69, ?_⟩)
  obtain ⟨M72, e72, h⟩ := zS_bind h
  refine E_iastore (pc := 72) (zDk zD_206_ok 42 rfl) e72 ?_
  refine E_aload_n (pc := 73) (zDk zD_206_ok 43 rfl) rfl ?_
  refine E_getR (pc := 74) (ci := 8) (f := 14) (r := 112) (zDk zD_206_ok 44 rfl) zc_206 (by decide +kernel) (by decide) zis_8_106 (by decide +kernel) (by decide) ?_
  refine E_iconst (pc := 77) (zDk zD_206_ok 45 rfl) (by decide +kernel) ?_
  refine E_dup2 (pc := 78) (zDk zD_206_ok 46 rfl) rfl rfl ?_
  obtain ⟨v79, e79, h⟩ := zS_bind h
  refine E_iaload (pc := 79) (zDk zD_206_ok 47 rfl) e79 ?_
  refine E_iconst (pc := 80) (zDk zD_206_ok 48 rfl) (by decide +kernel) ?_
  refine W_iadd (pc := 81) (zDk zD_206_ok 49 rfl) ?_
  obtain ⟨M82, e82, h⟩ := zS_bind h
  refine E_iastore (pc := 82) (zDk zD_206_ok 50 rfl) e82 ?_
  have h := zS_some h
  exact E_return (x := ()) (pc := 83) (zDk zD_206_ok 51 rfl) zt_206 h
def lm_readStreet (M : Nat → Nat → Int) : Option (Nat → Nat → Int) :=
    ((rdI 112 (4 : Int) M).bind (fun v8 =>
    ((lm_freshCorner M).bind (fun r18_ =>
    ((wrI 112 (w32 ((10 : Int) + (w32 ((2 : Int) * v8)))) r18_.1 r18_.2).bind (fun M21 =>
    ((lm_needs 5027 M21).bind (fun M25 =>
    ((lm_good M25).bind (fun v29 =>
    (if v29 = 0 then
    (lm_readStreet_c61 (w32 ((10 : Int) + (w32 ((2 : Int) * v8)))) M25)
    else
    (if (M25 106 10) = (2 : Int) then
    ((rdI 112 (w32 ((10 : Int) + (w32 ((2 : Int) * v8)))) M25).bind (fun v52 =>
    (if (M25 106 11) = v52 then
    ((lm_errs (2 : Int) M25).bind (fun M58 =>
    (lm_readStreet_c61 (w32 ((10 : Int) + (w32 ((2 : Int) * v8)))) M58)))
    else
    (lm_readStreet_c61 (w32 ((10 : Int) + (w32 ((2 : Int) * v8)))) M25))))
    else
    (lm_readStreet_c61 (w32 ((10 : Int) + (w32 ((2 : Int) * v8)))) M25)))))))))))))
set_option maxRecDepth 100000 in
theorem ok_lm_readStreet {sc : zSc} {M : Nat → Nat → Int} {P : (Nat → Nat → Int) → Prop} (h : zS (lm_readStreet M) P) : zCv sc 206 [.inr (.inr 106)] M P := by
  have ea : zarg (zml 206) [.inr (.inr 106)] = [some (.inr (.inr 106)), none] := by rw [zm_206]; rfl
  unfold zCv zCw
  rw [ea, zr_206]
  have hq : 7 ≤ 7 := Nat.le_refl _
  unfold lm_readStreet at h
  have h := zS_mono h (fun x hx => (⟨rfl, hx⟩ : (none : Option zV) = none ∧ P x))
  skip
  refine E_bipush (pc := 0) (zDk zD_206_ok 0 rfl) (by decide +kernel) ?_
  refine E_iconst (pc := 2) (zDk zD_206_ok 1 rfl) (by decide +kernel) ?_
  refine E_aload_n (pc := 3) (zDk zD_206_ok 2 rfl) rfl ?_
  refine E_getR (pc := 4) (ci := 8) (f := 14) (r := 112) (zDk zD_206_ok 3 rfl) zc_206 (by decide +kernel) (by decide) zis_8_106 (by decide +kernel) (by decide) ?_
  refine E_iconst (pc := 7) (zDk zD_206_ok 4 rfl) (by decide +kernel) ?_
  obtain ⟨v8, e8, h⟩ := zS_bind h
  refine E_iaload (pc := 8) (zDk zD_206_ok 5 rfl) e8 ?_
  refine W_imul (pc := 9) (zDk zD_206_ok 6 rfl) ?_
  refine W_iadd (pc := 10) (zDk zD_206_ok 7 rfl) ?_
  refine W_istore_n (pc := 11) (L' := [some (.inr (.inr 106)), some (.inl (w32 ((10 : Int) + (w32 ((2 : Int) * v8)))))]) (zDk zD_206_ok 8 rfl) zm_206 (by decide) rfl ?_
  refine E_aload_n (pc := 12) (zDk zD_206_ok 9 rfl) rfl ?_
  refine E_getR (pc := 13) (ci := 8) (f := 14) (r := 112) (zDk zD_206_ok 10 rfl) zc_206 (by decide +kernel) (by decide) zis_8_106 (by decide +kernel) (by decide) ?_
  refine E_iload_n (pc := 16) (zDk zD_206_ok 11 rfl) rfl ?_
  refine E_aload_n (pc := 17) (zDk zD_206_ok 12 rfl) rfl ?_
  obtain ⟨r18_, e18, h⟩ := zS_bind h
  refine E_virI (pc := 18) (c := 204) (r := 106) (as := []) (rest := [.inl (w32 ((10 : Int) + (w32 ((2 : Int) * v8)))), .inr (.inr 112)]) (zDk zD_206_ok 13 rfl) zc_206 (by decide +kernel) zk_204 ⟨(Nat.le_of_ble_eq_true rfl), rfl, rfl⟩ (Nat.le_of_ble_eq_true rfl) (zr_204 _) (Nat.lt_of_lt_of_le (by decide) hq) (by rw [zm_204]; exact (Nat.le_of_ble_eq_true rfl)) ⟨zc_204, by decide⟩ zis_8_106 (ok_lm_freshCorner ⟨r18_, e18, ?_⟩)
  obtain ⟨M21, e21, h⟩ := zS_bind h
  refine E_iastore (pc := 21) (zDk zD_206_ok 14 rfl) e21 ?_
  refine E_aload_n (pc := 22) (zDk zD_206_ok 15 rfl) rfl ?_
  refine E_ldc (pc := 23) (v := .inr (.inr 5027)) (zDk zD_206_ok 16 rfl) zc_206 (by decide +kernel) ?_
  obtain ⟨M25, e25, h⟩ := zS_bind h
  refine E_virV (pc := 25) (c := 200) (r := 106) (as := [.inr (.inr 5027)]) (rest := []) (zDk zD_206_ok 17 rfl) zc_206 (by decide +kernel) zk_200 ⟨(Nat.le_of_ble_eq_true rfl), rfl, rfl⟩ (Nat.le_of_ble_eq_true rfl) (zr_200 _) (Nat.lt_of_lt_of_le (by decide) hq) (by rw [zm_200]; exact (Nat.le_of_ble_eq_true rfl)) ⟨zc_200, by decide⟩ zis_8_106 (ok_lm_needs ⟨M25, e25, ?_⟩)
  refine E_aload_n (pc := 28) (zDk zD_206_ok 18 rfl) rfl ?_
  obtain ⟨v29, e29, h⟩ := zS_bind h
  refine E_virI (pc := 29) (c := 196) (r := 106) (as := []) (rest := []) (zDk zD_206_ok 19 rfl) zc_206 (by decide +kernel) zk_196 ⟨(Nat.le_of_ble_eq_true rfl), rfl, rfl⟩ (Nat.le_of_ble_eq_true rfl) (zr_196 _) (Nat.lt_of_lt_of_le (by decide) hq) (by rw [zm_196]; exact (Nat.le_of_ble_eq_true rfl)) ⟨zc_196, by decide⟩ zis_8_106 (ok_lm_good ⟨v29, e29, ?_⟩)
  refine E_if (pc := 32) (t := 61) (zDk zD_206_ok 20 rfl) rfl (fun hz => ?_) (fun hz => ?_)
  · have h := zS_t h (T_eq hz)
    exact ok_lm_readStreet_c61 hq (w32 ((10 : Int) + (w32 ((2 : Int) * v8)))) M25 h
  · have h := zS_f h (F_eq hz)
    refine E_aload_n (pc := 35) (zDk zD_206_ok 21 rfl) rfl ?_
    refine E_getI (pc := 36) (ci := 8) (f := 10) (zDk zD_206_ok 22 rfl) zc_206 (by decide +kernel) (by decide) zis_8_106 ?_
    refine E_iconst (pc := 39) (zDk zD_206_ok 23 rfl) (by decide +kernel) ?_
    refine E_icmp (pc := 40) (t := 61) (zDk zD_206_ok 24 rfl) rfl (fun hz => ?_) (fun hz => ?_)
    · have h := zS_f h (T_ne hz)
      exact ok_lm_readStreet_c61 hq (w32 ((10 : Int) + (w32 ((2 : Int) * v8)))) M25 h
    · have h := zS_t h (F_ne hz)
      refine E_aload_n (pc := 43) (zDk zD_206_ok 25 rfl) rfl ?_
      refine E_getI (pc := 44) (ci := 8) (f := 11) (zDk zD_206_ok 26 rfl) zc_206 (by decide +kernel) (by decide) zis_8_106 ?_
      refine E_aload_n (pc := 47) (zDk zD_206_ok 27 rfl) rfl ?_
      refine E_getR (pc := 48) (ci := 8) (f := 14) (r := 112) (zDk zD_206_ok 28 rfl) zc_206 (by decide +kernel) (by decide) zis_8_106 (by decide +kernel) (by decide) ?_
      refine E_iload_n (pc := 51) (zDk zD_206_ok 29 rfl) rfl ?_
      obtain ⟨v52, e52, h⟩ := zS_bind h
      refine E_iaload (pc := 52) (zDk zD_206_ok 30 rfl) e52 ?_
      refine E_icmp (pc := 53) (t := 61) (zDk zD_206_ok 31 rfl) rfl (fun hz => ?_) (fun hz => ?_)
      · have h := zS_f h (T_ne hz)
        exact ok_lm_readStreet_c61 hq (w32 ((10 : Int) + (w32 ((2 : Int) * v8)))) M25 h
      · have h := zS_t h (F_ne hz)
        refine E_aload_n (pc := 56) (zDk zD_206_ok 32 rfl) rfl ?_
        refine E_iconst (pc := 57) (zDk zD_206_ok 33 rfl) (by decide +kernel) ?_
        obtain ⟨M58, e58, h⟩ := zS_bind h
        refine E_virV (pc := 58) (c := 197) (r := 106) (as := [.inl (2 : Int)]) (rest := []) (zDk zD_206_ok 34 rfl) zc_206 (by decide +kernel) zk_197 ⟨(Nat.le_of_ble_eq_true rfl), rfl, rfl⟩ (Nat.le_of_ble_eq_true rfl) (zr_197 _) (Nat.lt_of_lt_of_le (by decide) hq) (by rw [zm_197]; exact (Nat.le_of_ble_eq_true rfl)) ⟨zc_197, by decide⟩ zis_8_106 (ok_lm_errs ⟨M58, e58, ?_⟩)
        exact ok_lm_readStreet_c61 hq (w32 ((10 : Int) + (w32 ((2 : Int) * v8)))) M58 h
def zD_44 : List (Nat × Instr × Nat) := [(0, .aload_n (1), 1), (1, .getfield (43), 3), (4, .ifCond .ne (11), 3), (7, .aload_n (0), 1), (8, .aload_n (1), 1), (9, .invokevirtual (46), 3), (12, .goto (76), 3), (15, .aload_n (0), 1), (16, .ldc (49), 2), (18, .invokevirtual (51), 3), (21, .ifCond .eq (11), 3), (24, .aload_n (0), 1), (25, .aload_n (1), 1), (26, .invokevirtual (55), 3), (29, .goto (59), 3), (32, .aload_n (0), 1), (33, .ldc (58), 2), (35, .invokevirtual (51), 3), (38, .ifCond .eq (11), 3), (41, .aload_n (0), 1), (42, .aload_n (1), 1), (43, .invokevirtual (60), 3), (46, .goto (42), 3), (49, .aload_n (0), 1), (50, .ldc (63), 2), (52, .invokevirtual (51), 3), (55, .ifCond .eq (11), 3), (58, .aload_n (0), 1), (59, .aload_n (1), 1), (60, .invokevirtual (65), 3), (63, .goto (25), 3), (66, .aload_n (0), 1), (67, .ldc (68), 2), (69, .invokevirtual (51), 3), (72, .ifCond .eq (11), 3), (75, .aload_n (0), 1), (76, .aload_n (1), 1), (77, .invokevirtual (70), 3), (80, .goto (8), 3), (83, .aload_n (0), 1), (84, .iconst (1), 1), (85, .invokevirtual (73), 3), (88, .aload_n (0), 1), (89, .invokevirtual (77), 3), (92, .aload_n (1), 1), (93, .dup, 1), (94, .getfield (43), 3), (97, .iconst (1), 1), (98, .iadd, 1), (99, .putfield (43), 3), (102, .return_, 1)]
set_option maxRecDepth 100000 in
theorem zD_44_ok : zDo 44 zD_44 = true := by decide +kernel
theorem zc_44 : zcls 44 = 4 := by decide +kernel
theorem zm_44 : zml 44 = 2 := by decide +kernel
theorem zt_44 : zrt 44 = none := by decide +kernel
theorem zk_44 : zkd 44 = 1 ∧ znp 44 + 1 = 2 := by decide +kernel
theorem zr_44 (as : List zV) : zrk 44 as = 8 := by unfold zrk; rw [if_neg (by decide)]; decide +kernel
def lR_readLine (r1 : Nat) (M : Nat → Nat → Int) : Option (Nat → Nat → Int) :=
    (if zis 6 r1 = true then
    (if (M r1 4) = 0 then
    ((lR_readHead r1 M).bind (fun M9 =>
    ((lR_takeStop M9).bind (fun M89 =>
    ((some (zup M89 r1 4 (w32 ((M89 r1 4) + (1 : Int))))).bind (fun M99 =>
    (some M99)))))))
    else
    ((lR_isWord 5008 M).bind (fun v18 =>
    (if v18 = 0 then
    ((lR_isWord 5010 M).bind (fun v35 =>
    (if v35 = 0 then
    ((lR_isWord 5012 M).bind (fun v52 =>
    (if v52 = 0 then
    ((lR_isWord 5017 M).bind (fun v69 =>
    (if v69 = 0 then
    ((lR_fail (1 : Int) M).bind (fun M85 =>
    ((lR_takeStop M85).bind (fun M89 =>
    ((some (zup M89 r1 4 (w32 ((M89 r1 4) + (1 : Int))))).bind (fun M99 =>
    (some M99)))))))
    else
    ((lR_readContract r1 M).bind (fun M77 =>
    ((lR_takeStop M77).bind (fun M89 =>
    ((some (zup M89 r1 4 (w32 ((M89 r1 4) + (1 : Int))))).bind (fun M99 =>
    (some M99))))))))))
    else
    ((lR_readName r1 M).bind (fun M60 =>
    ((lR_takeStop M60).bind (fun M89 =>
    ((some (zup M89 r1 4 (w32 ((M89 r1 4) + (1 : Int))))).bind (fun M99 =>
    (some M99))))))))))
    else
    ((lR_readWell r1 M).bind (fun M43 =>
    ((lR_takeStop M43).bind (fun M89 =>
    ((some (zup M89 r1 4 (w32 ((M89 r1 4) + (1 : Int))))).bind (fun M99 =>
    (some M99))))))))))
    else
    ((lR_readStreet r1 M).bind (fun M26 =>
    ((lR_takeStop M26).bind (fun M89 =>
    ((some (zup M89 r1 4 (w32 ((M89 r1 4) + (1 : Int))))).bind (fun M99 =>
    (some M99)))))))))))
    else none)
set_option maxRecDepth 100000 in
theorem ok_lR_readLine {sc : zSc} {r1 : Nat} {M : Nat → Nat → Int} {P : (Nat → Nat → Int) → Prop} (h : zS (lR_readLine r1 M) P) : zCv sc 44 [.inr (.inr 1), .inr (.inr r1)] M P := by
  have ea : zarg (zml 44) [.inr (.inr 1), .inr (.inr r1)] = [some (.inr (.inr 1)), some (.inr (.inr r1))] := by rw [zm_44]; rfl
  unfold zCv zCw
  rw [ea, zr_44]
  have hq : 8 ≤ 8 := Nat.le_refl _
  unfold lR_readLine at h
  have h := zS_mono h (fun x hx => (⟨rfl, hx⟩ : (none : Option zV) = none ∧ P x))
  obtain ⟨hr1, h⟩ := zS_c h
  skip
  refine E_aload_n (pc := 0) (zDk zD_44_ok 0 rfl) rfl ?_
  refine E_getI (pc := 1) (ci := 6) (f := 4) (zDk zD_44_ok 1 rfl) zc_44 (by decide +kernel) (by decide) hr1 ?_
  refine E_if (pc := 4) (t := 15) (zDk zD_44_ok 2 rfl) rfl (fun hz => ?_) (fun hz => ?_)
  · have h := zS_f h (T_ne hz)
    refine E_aload_n (pc := 15) (zDk zD_44_ok 7 rfl) rfl ?_
    refine E_ldc (pc := 16) (v := .inr (.inr 5008)) (zDk zD_44_ok 8 rfl) zc_44 (by decide +kernel) ?_
    obtain ⟨v18, e18, h⟩ := zS_bind h
    refine E_virI (pc := 18) (c := 55) (r := 1) (as := [.inr (.inr 5008)]) (rest := []) (zDk zD_44_ok 9 rfl) zc_44 (by decide +kernel) zk_55 ⟨(Nat.le_of_ble_eq_true rfl), rfl, rfl⟩ (Nat.le_of_ble_eq_true rfl) (zr_55 _) (Nat.lt_of_lt_of_le (by decide) hq) (by rw [zm_55]; exact (Nat.le_of_ble_eq_true rfl)) ⟨zc_55, by decide⟩ zis_4_1 (ok_lR_isWord ⟨v18, e18, ?_⟩)
    refine E_if (pc := 21) (t := 32) (zDk zD_44_ok 10 rfl) rfl (fun hz => ?_) (fun hz => ?_)
    · have h := zS_t h (T_eq hz)
      refine E_aload_n (pc := 32) (zDk zD_44_ok 15 rfl) rfl ?_
      refine E_ldc (pc := 33) (v := .inr (.inr 5010)) (zDk zD_44_ok 16 rfl) zc_44 (by decide +kernel) ?_
      obtain ⟨v35, e35, h⟩ := zS_bind h
      refine E_virI (pc := 35) (c := 55) (r := 1) (as := [.inr (.inr 5010)]) (rest := []) (zDk zD_44_ok 17 rfl) zc_44 (by decide +kernel) zk_55 ⟨(Nat.le_of_ble_eq_true rfl), rfl, rfl⟩ (Nat.le_of_ble_eq_true rfl) (zr_55 _) (Nat.lt_of_lt_of_le (by decide) hq) (by rw [zm_55]; exact (Nat.le_of_ble_eq_true rfl)) ⟨zc_55, by decide⟩ zis_4_1 (ok_lR_isWord ⟨v35, e35, ?_⟩)
      refine E_if (pc := 38) (t := 49) (zDk zD_44_ok 18 rfl) rfl (fun hz => ?_) (fun hz => ?_)
      · have h := zS_t h (T_eq hz)
        refine E_aload_n (pc := 49) (zDk zD_44_ok 23 rfl) rfl ?_
        refine E_ldc (pc := 50) (v := .inr (.inr 5012)) (zDk zD_44_ok 24 rfl) zc_44 (by decide +kernel) ?_
        obtain ⟨v52, e52, h⟩ := zS_bind h
        refine E_virI (pc := 52) (c := 55) (r := 1) (as := [.inr (.inr 5012)]) (rest := []) (zDk zD_44_ok 25 rfl) zc_44 (by decide +kernel) zk_55 ⟨(Nat.le_of_ble_eq_true rfl), rfl, rfl⟩ (Nat.le_of_ble_eq_true rfl) (zr_55 _) (Nat.lt_of_lt_of_le (by decide) hq) (by rw [zm_55]; exact (Nat.le_of_ble_eq_true rfl)) ⟨zc_55, by decide⟩ zis_4_1 (ok_lR_isWord ⟨v52, e52, ?_⟩)
        refine E_if (pc := 55) (t := 66) (zDk zD_44_ok 26 rfl) rfl (fun hz => ?_) (fun hz => ?_)
        · have h := zS_t h (T_eq hz)
          refine E_aload_n (pc := 66) (zDk zD_44_ok 31 rfl) rfl ?_
          refine E_ldc (pc := 67) (v := .inr (.inr 5017)) (zDk zD_44_ok 32 rfl) zc_44 (by decide +kernel) ?_
          obtain ⟨v69, e69, h⟩ := zS_bind h
          refine E_virI (pc := 69) (c := 55) (r := 1) (as := [.inr (.inr 5017)]) (rest := []) (zDk zD_44_ok 33 rfl) zc_44 (by decide +kernel) zk_55 ⟨(Nat.le_of_ble_eq_true rfl), rfl, rfl⟩ (Nat.le_of_ble_eq_true rfl) (zr_55 _) (Nat.lt_of_lt_of_le (by decide) hq) (by rw [zm_55]; exact (Nat.le_of_ble_eq_true rfl)) ⟨zc_55, by decide⟩ zis_4_1 (ok_lR_isWord ⟨v69, e69, ?_⟩)
          refine E_if (pc := 72) (t := 83) (zDk zD_44_ok 34 rfl) rfl (fun hz => ?_) (fun hz => ?_)
          · have h := zS_t h (T_eq hz)
            refine E_aload_n (pc := 83) (zDk zD_44_ok 39 rfl) rfl ?_
            refine E_iconst (pc := 84) (zDk zD_44_ok 40 rfl) (by decide +kernel) ?_
            obtain ⟨M85, e85, h⟩ := zS_bind h
            refine E_virV (pc := 85) (c := 51) (r := 1) (as := [.inl (1 : Int)]) (rest := []) (zDk zD_44_ok 41 rfl) zc_44 (by decide +kernel) zk_51 ⟨(Nat.le_of_ble_eq_true rfl), rfl, rfl⟩ (Nat.le_of_ble_eq_true rfl) (zr_51 _) (Nat.lt_of_lt_of_le (by decide) hq) (by rw [zm_51]; exact (Nat.le_of_ble_eq_true rfl)) ⟨zc_51, by decide⟩ zis_4_1 (ok_lR_fail ⟨M85, e85, ?_⟩)
            refine E_aload_n (pc := 88) (zDk zD_44_ok 42 rfl) rfl ?_
            obtain ⟨M89, e89, h⟩ := zS_bind h
            refine E_virV (pc := 89) (c := 53) (r := 1) (as := []) (rest := []) (zDk zD_44_ok 43 rfl) zc_44 (by decide +kernel) zk_53 ⟨(Nat.le_of_ble_eq_true rfl), rfl, rfl⟩ (Nat.le_of_ble_eq_true rfl) (zr_53 _) (Nat.lt_of_lt_of_le (by decide) hq) (by rw [zm_53]; exact (Nat.le_of_ble_eq_true rfl)) ⟨zc_53, by decide⟩ zis_4_1 (ok_lR_takeStop ⟨M89, e89, ?_⟩)
            refine E_aload_n (pc := 92) (zDk zD_44_ok 44 rfl) rfl ?_
            refine E_dup (pc := 93) (zDk zD_44_ok 45 rfl) rfl ?_
            refine E_getI (pc := 94) (ci := 6) (f := 4) (zDk zD_44_ok 46 rfl) zc_44 (by decide +kernel) (by decide) hr1 ?_
            refine E_iconst (pc := 97) (zDk zD_44_ok 47 rfl) (by decide +kernel) ?_
            refine W_iadd (pc := 98) (zDk zD_44_ok 48 rfl) ?_
            obtain ⟨M99, e99, h⟩ := zS_bind h
            refine W_putI (pc := 99) (ci := 6) (f := 4) (zDk zD_44_ok 49 rfl) zc_44 (by decide +kernel) (by decide) hr1 (Option.some.inj e99) ?_
            have h := zS_some h
            exact E_return (x := ()) (pc := 102) (zDk zD_44_ok 50 rfl) zt_44 h
          · have h := zS_f h (F_eq hz)
            refine E_aload_n (pc := 75) (zDk zD_44_ok 35 rfl) rfl ?_
            refine E_aload_n (pc := 76) (zDk zD_44_ok 36 rfl) rfl ?_
            obtain ⟨M77, e77, h⟩ := zS_bind h
            refine E_virV (pc := 77) (c := 50) (r := 1) (as := [.inr (.inr r1)]) (rest := []) (zDk zD_44_ok 37 rfl) zc_44 (by decide +kernel) zk_50 ⟨(Nat.le_of_ble_eq_true rfl), rfl, rfl⟩ (Nat.le_of_ble_eq_true rfl) (zr_50 _) (Nat.lt_of_lt_of_le (by decide) hq) (by rw [zm_50]; exact (Nat.le_of_ble_eq_true rfl)) ⟨zc_50, by decide⟩ zis_4_1 (ok_lR_readContract ⟨M77, e77, ?_⟩)
            refine E_goto (pc := 80) (t := 88) (zDk zD_44_ok 38 rfl) rfl ?_
            refine E_aload_n (pc := 88) (zDk zD_44_ok 42 rfl) rfl ?_
            obtain ⟨M89, e89, h⟩ := zS_bind h
            refine E_virV (pc := 89) (c := 53) (r := 1) (as := []) (rest := []) (zDk zD_44_ok 43 rfl) zc_44 (by decide +kernel) zk_53 ⟨(Nat.le_of_ble_eq_true rfl), rfl, rfl⟩ (Nat.le_of_ble_eq_true rfl) (zr_53 _) (Nat.lt_of_lt_of_le (by decide) hq) (by rw [zm_53]; exact (Nat.le_of_ble_eq_true rfl)) ⟨zc_53, by decide⟩ zis_4_1 (ok_lR_takeStop ⟨M89, e89, ?_⟩)
            refine E_aload_n (pc := 92) (zDk zD_44_ok 44 rfl) rfl ?_
            refine E_dup (pc := 93) (zDk zD_44_ok 45 rfl) rfl ?_
            refine E_getI (pc := 94) (ci := 6) (f := 4) (zDk zD_44_ok 46 rfl) zc_44 (by decide +kernel) (by decide) hr1 ?_
            refine E_iconst (pc := 97) (zDk zD_44_ok 47 rfl) (by decide +kernel) ?_
            refine W_iadd (pc := 98) (zDk zD_44_ok 48 rfl) ?_
            obtain ⟨M99, e99, h⟩ := zS_bind h
            refine W_putI (pc := 99) (ci := 6) (f := 4) (zDk zD_44_ok 49 rfl) zc_44 (by decide +kernel) (by decide) hr1 (Option.some.inj e99) ?_
            have h := zS_some h
            exact E_return (x := ()) (pc := 102) (zDk zD_44_ok 50 rfl) zt_44 h
        · have h := zS_f h (F_eq hz)
          refine E_aload_n (pc := 58) (zDk zD_44_ok 27 rfl) rfl ?_
          refine E_aload_n (pc := 59) (zDk zD_44_ok 28 rfl) rfl ?_
          obtain ⟨M60, e60, h⟩ := zS_bind h
          refine E_virV (pc := 60) (c := 48) (r := 1) (as := [.inr (.inr r1)]) (rest := []) (zDk zD_44_ok 29 rfl) zc_44 (by decide +kernel) zk_48 ⟨(Nat.le_of_ble_eq_true rfl), rfl, rfl⟩ (Nat.le_of_ble_eq_true rfl) (zr_48 _) (Nat.lt_of_lt_of_le (by decide) hq) (by rw [zm_48]; exact (Nat.le_of_ble_eq_true rfl)) ⟨zc_48, by decide⟩ zis_4_1 (ok_lR_readName ⟨M60, e60, ?_⟩)
          refine E_goto (pc := 63) (t := 88) (zDk zD_44_ok 30 rfl) rfl ?_
          refine E_aload_n (pc := 88) (zDk zD_44_ok 42 rfl) rfl ?_
          obtain ⟨M89, e89, h⟩ := zS_bind h
          refine E_virV (pc := 89) (c := 53) (r := 1) (as := []) (rest := []) (zDk zD_44_ok 43 rfl) zc_44 (by decide +kernel) zk_53 ⟨(Nat.le_of_ble_eq_true rfl), rfl, rfl⟩ (Nat.le_of_ble_eq_true rfl) (zr_53 _) (Nat.lt_of_lt_of_le (by decide) hq) (by rw [zm_53]; exact (Nat.le_of_ble_eq_true rfl)) ⟨zc_53, by decide⟩ zis_4_1 (ok_lR_takeStop ⟨M89, e89, ?_⟩)
          refine E_aload_n (pc := 92) (zDk zD_44_ok 44 rfl) rfl ?_
          refine E_dup (pc := 93) (zDk zD_44_ok 45 rfl) rfl ?_
          refine E_getI (pc := 94) (ci := 6) (f := 4) (zDk zD_44_ok 46 rfl) zc_44 (by decide +kernel) (by decide) hr1 ?_
          refine E_iconst (pc := 97) (zDk zD_44_ok 47 rfl) (by decide +kernel) ?_
          refine W_iadd (pc := 98) (zDk zD_44_ok 48 rfl) ?_
          obtain ⟨M99, e99, h⟩ := zS_bind h
          refine W_putI (pc := 99) (ci := 6) (f := 4) (zDk zD_44_ok 49 rfl) zc_44 (by decide +kernel) (by decide) hr1 (Option.some.inj e99) ?_
          have h := zS_some h
          exact E_return (x := ()) (pc := 102) (zDk zD_44_ok 50 rfl) zt_44 h
      · have h := zS_f h (F_eq hz)
        refine E_aload_n (pc := 41) (zDk zD_44_ok 19 rfl) rfl ?_
        refine E_aload_n (pc := 42) (zDk zD_44_ok 20 rfl) rfl ?_
        obtain ⟨M43, e43, h⟩ := zS_bind h
        refine E_virV (pc := 43) (c := 47) (r := 1) (as := [.inr (.inr r1)]) (rest := []) (zDk zD_44_ok 21 rfl) zc_44 (by decide +kernel) zk_47 ⟨(Nat.le_of_ble_eq_true rfl), rfl, rfl⟩ (Nat.le_of_ble_eq_true rfl) (zr_47 _) (Nat.lt_of_lt_of_le (by decide) hq) (by rw [zm_47]; exact (Nat.le_of_ble_eq_true rfl)) ⟨zc_47, by decide⟩ zis_4_1 (ok_lR_readWell ⟨M43, e43, ?_⟩)
        refine E_goto (pc := 46) (t := 88) (zDk zD_44_ok 22 rfl) rfl ?_
        refine E_aload_n (pc := 88) (zDk zD_44_ok 42 rfl) rfl ?_
        obtain ⟨M89, e89, h⟩ := zS_bind h
        refine E_virV (pc := 89) (c := 53) (r := 1) (as := []) (rest := []) (zDk zD_44_ok 43 rfl) zc_44 (by decide +kernel) zk_53 ⟨(Nat.le_of_ble_eq_true rfl), rfl, rfl⟩ (Nat.le_of_ble_eq_true rfl) (zr_53 _) (Nat.lt_of_lt_of_le (by decide) hq) (by rw [zm_53]; exact (Nat.le_of_ble_eq_true rfl)) ⟨zc_53, by decide⟩ zis_4_1 (ok_lR_takeStop ⟨M89, e89, ?_⟩)
        refine E_aload_n (pc := 92) (zDk zD_44_ok 44 rfl) rfl ?_
        refine E_dup (pc := 93) (zDk zD_44_ok 45 rfl) rfl ?_
        refine E_getI (pc := 94) (ci := 6) (f := 4) (zDk zD_44_ok 46 rfl) zc_44 (by decide +kernel) (by decide) hr1 ?_
        refine E_iconst (pc := 97) (zDk zD_44_ok 47 rfl) (by decide +kernel) ?_
        refine W_iadd (pc := 98) (zDk zD_44_ok 48 rfl) ?_
        obtain ⟨M99, e99, h⟩ := zS_bind h
        refine W_putI (pc := 99) (ci := 6) (f := 4) (zDk zD_44_ok 49 rfl) zc_44 (by decide +kernel) (by decide) hr1 (Option.some.inj e99) ?_
        have h := zS_some h
        exact E_return (x := ()) (pc := 102) (zDk zD_44_ok 50 rfl) zt_44 h
    · have h := zS_f h (F_eq hz)
      refine E_aload_n (pc := 24) (zDk zD_44_ok 11 rfl) rfl ?_
      refine E_aload_n (pc := 25) (zDk zD_44_ok 12 rfl) rfl ?_
      obtain ⟨M26, e26, h⟩ := zS_bind h
      refine E_virV (pc := 26) (c := 46) (r := 1) (as := [.inr (.inr r1)]) (rest := []) (zDk zD_44_ok 13 rfl) zc_44 (by decide +kernel) zk_46 ⟨(Nat.le_of_ble_eq_true rfl), rfl, rfl⟩ (Nat.le_of_ble_eq_true rfl) (zr_46 _) (Nat.lt_of_lt_of_le (by decide) hq) (by rw [zm_46]; exact (Nat.le_of_ble_eq_true rfl)) ⟨zc_46, by decide⟩ zis_4_1 (ok_lR_readStreet ⟨M26, e26, ?_⟩)
      refine E_goto (pc := 29) (t := 88) (zDk zD_44_ok 14 rfl) rfl ?_
      refine E_aload_n (pc := 88) (zDk zD_44_ok 42 rfl) rfl ?_
      obtain ⟨M89, e89, h⟩ := zS_bind h
      refine E_virV (pc := 89) (c := 53) (r := 1) (as := []) (rest := []) (zDk zD_44_ok 43 rfl) zc_44 (by decide +kernel) zk_53 ⟨(Nat.le_of_ble_eq_true rfl), rfl, rfl⟩ (Nat.le_of_ble_eq_true rfl) (zr_53 _) (Nat.lt_of_lt_of_le (by decide) hq) (by rw [zm_53]; exact (Nat.le_of_ble_eq_true rfl)) ⟨zc_53, by decide⟩ zis_4_1 (ok_lR_takeStop ⟨M89, e89, ?_⟩)
      refine E_aload_n (pc := 92) (zDk zD_44_ok 44 rfl) rfl ?_
      refine E_dup (pc := 93) (zDk zD_44_ok 45 rfl) rfl ?_
      refine E_getI (pc := 94) (ci := 6) (f := 4) (zDk zD_44_ok 46 rfl) zc_44 (by decide +kernel) (by decide) hr1 ?_
      refine E_iconst (pc := 97) (zDk zD_44_ok 47 rfl) (by decide +kernel) ?_
      refine W_iadd (pc := 98) (zDk zD_44_ok 48 rfl) ?_
      obtain ⟨M99, e99, h⟩ := zS_bind h
      refine W_putI (pc := 99) (ci := 6) (f := 4) (zDk zD_44_ok 49 rfl) zc_44 (by decide +kernel) (by decide) hr1 (Option.some.inj e99) ?_
      have h := zS_some h
      exact E_return (x := ()) (pc := 102) (zDk zD_44_ok 50 rfl) zt_44 h
  · have h := zS_t h (F_ne hz)
    refine E_aload_n (pc := 7) (zDk zD_44_ok 3 rfl) rfl ?_
    refine E_aload_n (pc := 8) (zDk zD_44_ok 4 rfl) rfl ?_
    obtain ⟨M9, e9, h⟩ := zS_bind h
    refine E_virV (pc := 9) (c := 45) (r := 1) (as := [.inr (.inr r1)]) (rest := []) (zDk zD_44_ok 5 rfl) zc_44 (by decide +kernel) zk_45 ⟨(Nat.le_of_ble_eq_true rfl), rfl, rfl⟩ (Nat.le_of_ble_eq_true rfl) (zr_45 _) (Nat.lt_of_lt_of_le (by decide) hq) (by rw [zm_45]; exact (Nat.le_of_ble_eq_true rfl)) ⟨zc_45, by decide⟩ zis_4_1 (ok_lR_readHead ⟨M9, e9, ?_⟩)
    refine E_goto (pc := 12) (t := 88) (zDk zD_44_ok 6 rfl) rfl ?_
    refine E_aload_n (pc := 88) (zDk zD_44_ok 42 rfl) rfl ?_
    obtain ⟨M89, e89, h⟩ := zS_bind h
    refine E_virV (pc := 89) (c := 53) (r := 1) (as := []) (rest := []) (zDk zD_44_ok 43 rfl) zc_44 (by decide +kernel) zk_53 ⟨(Nat.le_of_ble_eq_true rfl), rfl, rfl⟩ (Nat.le_of_ble_eq_true rfl) (zr_53 _) (Nat.lt_of_lt_of_le (by decide) hq) (by rw [zm_53]; exact (Nat.le_of_ble_eq_true rfl)) ⟨zc_53, by decide⟩ zis_4_1 (ok_lR_takeStop ⟨M89, e89, ?_⟩)
    refine E_aload_n (pc := 92) (zDk zD_44_ok 44 rfl) rfl ?_
    refine E_dup (pc := 93) (zDk zD_44_ok 45 rfl) rfl ?_
    refine E_getI (pc := 94) (ci := 6) (f := 4) (zDk zD_44_ok 46 rfl) zc_44 (by decide +kernel) (by decide) hr1 ?_
    refine E_iconst (pc := 97) (zDk zD_44_ok 47 rfl) (by decide +kernel) ?_
    refine W_iadd (pc := 98) (zDk zD_44_ok 48 rfl) ?_
    obtain ⟨M99, e99, h⟩ := zS_bind h
    refine W_putI (pc := 99) (ci := 6) (f := 4) (zDk zD_44_ok 49 rfl) zc_44 (by decide +kernel) (by decide) hr1 (Option.some.inj e99) ?_
    have h := zS_some h
    exact E_return (x := ()) (pc := 102) (zDk zD_44_ok 50 rfl) zt_44 h
def zD_205 : List (Nat × Instr × Nat) := [(0, .aload_n (0), 1), (1, .ldc (176), 2), (3, .invokevirtual (169), 3), (6, .aload_n (0), 1), (7, .getfield (31), 3), (10, .iconst (0), 1), (11, .aload_n (0), 1), (12, .ldc (178), 2), (14, .iconst (1), 1), (15, .bipush (8), 2), (17, .invokevirtual (180), 3), (20, .iastore, 1), (21, .aload_n (0), 1), (22, .getfield (31), 3), (25, .iconst (1), 1), (26, .aload_n (0), 1), (27, .ldc (184), 2), (29, .iconst (1), 1), (30, .bipush (20), 2), (32, .invokevirtual (180), 3), (35, .iastore, 1), (36, .aload_n (0), 1), (37, .getfield (31), 3), (40, .iconst (2), 1), (41, .aload_n (0), 1), (42, .ldc (186), 2), (44, .iconst (0), 1), (45, .iconst (3), 1), (46, .invokevirtual (180), 3), (49, .iastore, 1), (50, .aload_n (0), 1), (51, .getfield (31), 3), (54, .iconst (3), 1), (55, .aload_n (0), 1), (56, .ldc (188), 2), (58, .iconst (0), 1), (59, .bipush (10), 2), (61, .invokevirtual (180), 3), (64, .iastore, 1), (65, .return_, 1)]
set_option maxRecDepth 100000 in
theorem zD_205_ok : zDo 205 zD_205 = true := by decide +kernel
theorem zc_205 : zcls 205 = 8 := by decide +kernel
theorem zm_205 : zml 205 = 1 := by decide +kernel
theorem zt_205 : zrt 205 = none := by decide +kernel
theorem zk_205 : zkd 205 = 1 ∧ znp 205 + 1 = 1 := by decide +kernel
theorem zr_205 (as : List zV) : zrk 205 as = 8 := by unfold zrk; rw [if_neg (by decide)]; decide +kernel
def lm_readFirst (M : Nat → Nat → Int) : Option (Nat → Nat → Int) :=
    ((lm_needs 5018 M).bind (fun M3 =>
    ((lm_told 5019 (1 : Int) (8 : Int) M3).bind (fun r17_ =>
    ((wrI 112 (0 : Int) r17_.1 r17_.2).bind (fun M20 =>
    ((lm_told 5020 (1 : Int) (20 : Int) M20).bind (fun r32_ =>
    ((wrI 112 (1 : Int) r32_.1 r32_.2).bind (fun M35 =>
    ((lm_told 5021 (0 : Int) (3 : Int) M35).bind (fun r46_ =>
    ((wrI 112 (2 : Int) r46_.1 r46_.2).bind (fun M49 =>
    ((lm_told 5022 (0 : Int) (10 : Int) M49).bind (fun r61_ =>
    ((wrI 112 (3 : Int) r61_.1 r61_.2).bind (fun M64 =>
    (some M64)))))))))))))))))))
set_option maxRecDepth 100000 in
theorem ok_lm_readFirst {sc : zSc} {M : Nat → Nat → Int} {P : (Nat → Nat → Int) → Prop} (h : zS (lm_readFirst M) P) : zCv sc 205 [.inr (.inr 106)] M P := by
  have ea : zarg (zml 205) [.inr (.inr 106)] = [some (.inr (.inr 106))] := by rw [zm_205]; rfl
  unfold zCv zCw
  rw [ea, zr_205]
  have hq : 8 ≤ 8 := Nat.le_refl _
  unfold lm_readFirst at h
  have h := zS_mono h (fun x hx => (⟨rfl, hx⟩ : (none : Option zV) = none ∧ P x))
  skip
  refine E_aload_n (pc := 0) (zDk zD_205_ok 0 rfl) rfl ?_
  refine E_ldc (pc := 1) (v := .inr (.inr 5018)) (zDk zD_205_ok 1 rfl) zc_205 (by decide +kernel) ?_
  obtain ⟨M3, e3, h⟩ := zS_bind h
  refine E_virV (pc := 3) (c := 200) (r := 106) (as := [.inr (.inr 5018)]) (rest := []) (zDk zD_205_ok 2 rfl) zc_205 (by decide +kernel) zk_200 ⟨(Nat.le_of_ble_eq_true rfl), rfl, rfl⟩ (Nat.le_of_ble_eq_true rfl) (zr_200 _) (Nat.lt_of_lt_of_le (by decide) hq) (by rw [zm_200]; exact (Nat.le_of_ble_eq_true rfl)) ⟨zc_200, by decide⟩ zis_8_106 (ok_lm_needs ⟨M3, e3, ?_⟩)
  refine E_aload_n (pc := 6) (zDk zD_205_ok 3 rfl) rfl ?_
  refine E_getR (pc := 7) (ci := 8) (f := 14) (r := 112) (zDk zD_205_ok 4 rfl) zc_205 (by decide +kernel) (by decide) zis_8_106 (by decide +kernel) (by decide) ?_
  refine E_iconst (pc := 10) (zDk zD_205_ok 5 rfl) (by decide +kernel) ?_
  refine E_aload_n (pc := 11) (zDk zD_205_ok 6 rfl) rfl ?_
  refine E_ldc (pc := 12) (v := .inr (.inr 5019)) (zDk zD_205_ok 7 rfl) zc_205 (by decide +kernel) ?_
  refine E_iconst (pc := 14) (zDk zD_205_ok 8 rfl) (by decide +kernel) ?_
  refine E_bipush (pc := 15) (zDk zD_205_ok 9 rfl) (by decide +kernel) ?_
  obtain ⟨r17_, e17, h⟩ := zS_bind h
  refine E_virI (pc := 17) (c := 202) (r := 106) (as := [.inr (.inr 5019), .inl (1 : Int), .inl (8 : Int)]) (rest := [.inl (0 : Int), .inr (.inr 112)]) (zDk zD_205_ok 10 rfl) zc_205 (by decide +kernel) zk_202 ⟨(Nat.le_of_ble_eq_true rfl), rfl, rfl⟩ (Nat.le_of_ble_eq_true rfl) (zr_202 _) (Nat.lt_of_lt_of_le (by decide) hq) (by rw [zm_202]; exact (Nat.le_of_ble_eq_true rfl)) ⟨zc_202, by decide⟩ zis_8_106 (ok_lm_told ⟨r17_, e17, ?_⟩)
  obtain ⟨M20, e20, h⟩ := zS_bind h
  refine E_iastore (pc := 20) (zDk zD_205_ok 11 rfl) e20 ?_
  refine E_aload_n (pc := 21) (zDk zD_205_ok 12 rfl) rfl ?_
  refine E_getR (pc := 22) (ci := 8) (f := 14) (r := 112) (zDk zD_205_ok 13 rfl) zc_205 (by decide +kernel) (by decide) zis_8_106 (by decide +kernel) (by decide) ?_
  refine E_iconst (pc := 25) (zDk zD_205_ok 14 rfl) (by decide +kernel) ?_
  refine E_aload_n (pc := 26) (zDk zD_205_ok 15 rfl) rfl ?_
  refine E_ldc (pc := 27) (v := .inr (.inr 5020)) (zDk zD_205_ok 16 rfl) zc_205 (by decide +kernel) ?_
  refine E_iconst (pc := 29) (zDk zD_205_ok 17 rfl) (by decide +kernel) ?_
  refine E_bipush (pc := 30) (zDk zD_205_ok 18 rfl) (by decide +kernel) ?_
  obtain ⟨r32_, e32, h⟩ := zS_bind h
  refine E_virI (pc := 32) (c := 202) (r := 106) (as := [.inr (.inr 5020), .inl (1 : Int), .inl (20 : Int)]) (rest := [.inl (1 : Int), .inr (.inr 112)]) (zDk zD_205_ok 19 rfl) zc_205 (by decide +kernel) zk_202 ⟨(Nat.le_of_ble_eq_true rfl), rfl, rfl⟩ (Nat.le_of_ble_eq_true rfl) (zr_202 _) (Nat.lt_of_lt_of_le (by decide) hq) (by rw [zm_202]; exact (Nat.le_of_ble_eq_true rfl)) ⟨zc_202, by decide⟩ zis_8_106 (ok_lm_told ⟨r32_, e32, ?_⟩)
  obtain ⟨M35, e35, h⟩ := zS_bind h
  refine E_iastore (pc := 35) (zDk zD_205_ok 20 rfl) e35 ?_
  refine E_aload_n (pc := 36) (zDk zD_205_ok 21 rfl) rfl ?_
  refine E_getR (pc := 37) (ci := 8) (f := 14) (r := 112) (zDk zD_205_ok 22 rfl) zc_205 (by decide +kernel) (by decide) zis_8_106 (by decide +kernel) (by decide) ?_
  refine E_iconst (pc := 40) (zDk zD_205_ok 23 rfl) (by decide +kernel) ?_
  refine E_aload_n (pc := 41) (zDk zD_205_ok 24 rfl) rfl ?_
  refine E_ldc (pc := 42) (v := .inr (.inr 5021)) (zDk zD_205_ok 25 rfl) zc_205 (by decide +kernel) ?_
  refine E_iconst (pc := 44) (zDk zD_205_ok 26 rfl) (by decide +kernel) ?_
  refine E_iconst (pc := 45) (zDk zD_205_ok 27 rfl) (by decide +kernel) ?_
  obtain ⟨r46_, e46, h⟩ := zS_bind h
  refine E_virI (pc := 46) (c := 202) (r := 106) (as := [.inr (.inr 5021), .inl (0 : Int), .inl (3 : Int)]) (rest := [.inl (2 : Int), .inr (.inr 112)]) (zDk zD_205_ok 28 rfl) zc_205 (by decide +kernel) zk_202 ⟨(Nat.le_of_ble_eq_true rfl), rfl, rfl⟩ (Nat.le_of_ble_eq_true rfl) (zr_202 _) (Nat.lt_of_lt_of_le (by decide) hq) (by rw [zm_202]; exact (Nat.le_of_ble_eq_true rfl)) ⟨zc_202, by decide⟩ zis_8_106 (ok_lm_told ⟨r46_, e46, ?_⟩)
  obtain ⟨M49, e49, h⟩ := zS_bind h
  refine E_iastore (pc := 49) (zDk zD_205_ok 29 rfl) e49 ?_
  refine E_aload_n (pc := 50) (zDk zD_205_ok 30 rfl) rfl ?_
  refine E_getR (pc := 51) (ci := 8) (f := 14) (r := 112) (zDk zD_205_ok 31 rfl) zc_205 (by decide +kernel) (by decide) zis_8_106 (by decide +kernel) (by decide) ?_
  refine E_iconst (pc := 54) (zDk zD_205_ok 32 rfl) (by decide +kernel) ?_
  refine E_aload_n (pc := 55) (zDk zD_205_ok 33 rfl) rfl ?_
  refine E_ldc (pc := 56) (v := .inr (.inr 5022)) (zDk zD_205_ok 34 rfl) zc_205 (by decide +kernel) ?_
  refine E_iconst (pc := 58) (zDk zD_205_ok 35 rfl) (by decide +kernel) ?_
  refine E_bipush (pc := 59) (zDk zD_205_ok 36 rfl) (by decide +kernel) ?_
  obtain ⟨r61_, e61, h⟩ := zS_bind h
  refine E_virI (pc := 61) (c := 202) (r := 106) (as := [.inr (.inr 5022), .inl (0 : Int), .inl (10 : Int)]) (rest := [.inl (3 : Int), .inr (.inr 112)]) (zDk zD_205_ok 37 rfl) zc_205 (by decide +kernel) zk_202 ⟨(Nat.le_of_ble_eq_true rfl), rfl, rfl⟩ (Nat.le_of_ble_eq_true rfl) (zr_202 _) (Nat.lt_of_lt_of_le (by decide) hq) (by rw [zm_202]; exact (Nat.le_of_ble_eq_true rfl)) ⟨zc_202, by decide⟩ zis_8_106 (ok_lm_told ⟨r61_, e61, ?_⟩)
  obtain ⟨M64, e64, h⟩ := zS_bind h
  refine E_iastore (pc := 64) (zDk zD_205_ok 38 rfl) e64 ?_
  have h := zS_some h
  exact E_return (x := ()) (pc := 65) (zDk zD_205_ok 39 rfl) zt_205 h
def zD_207 : List (Nat × Instr × Nat) := [(0, .bipush (42), 2), (2, .bipush (12), 2), (4, .aload_n (0), 1), (5, .getfield (31), 3), (8, .bipush (6), 2), (10, .iaload, 1), (11, .imul, 1), (12, .iadd, 1), (13, .istore_n (1), 1), (14, .aload_n (0), 1), (15, .ldc (195), 2), (17, .invokevirtual (169), 3), (20, .aload_n (0), 1), (21, .getfield (31), 3), (24, .iload_n (1), 1), (25, .aload_n (0), 1), (26, .invokevirtual (190), 3), (29, .iastore, 1), (30, .aload_n (0), 1), (31, .getfield (31), 3), (34, .iload_n (1), 1), (35, .iconst (1), 1), (36, .iadd, 1), (37, .aload_n (0), 1), (38, .ldc (196), 2), (40, .iconst (0), 1), (41, .bipush (40), 2), (43, .invokevirtual (180), 3), (46, .iastore, 1), (47, .aload_n (0), 1), (48, .getfield (31), 3), (51, .iload_n (1), 1), (52, .iconst (2), 1), (53, .iadd, 1), (54, .aload_n (0), 1), (55, .ldc (198), 2), (57, .iconst (0), 1), (58, .bipush (59), 2), (60, .invokevirtual (180), 3), (63, .iastore, 1), (64, .aload_n (0), 1), (65, .ldc (200), 2), (67, .invokevirtual (155), 3), (70, .ifCond .eq (67), 3), (73, .aload_n (0), 1), (74, .getfield (31), 3), (77, .iload_n (1), 1), (78, .iconst (3), 1), (79, .iadd, 1), (80, .iaload, 1), (81, .bipush (8), 2), (83, .if_icmp .ne (8), 3), (86, .aload_n (0), 1), (87, .iconst (3), 1), (88, .invokevirtual (165), 3), (91, .aload_n (0), 1), (92, .ldc (200), 2), (94, .invokevirtual (162), 3), (97, .ifCond .ne (4), 3), (100, .return_, 1), (101, .aload_n (0), 1), (102, .getfield (31), 3), (105, .iload_n (1), 1), (106, .iconst (4), 1), (107, .iadd, 1), (108, .aload_n (0), 1), (109, .getfield (31), 3), (112, .iload_n (1), 1), (113, .iconst (3), 1), (114, .iadd, 1), (115, .iaload, 1), (116, .iadd, 1), (117, .aload_n (0), 1), (118, .invokevirtual (190), 3), (121, .iastore, 1), (122, .aload_n (0), 1), (123, .getfield (31), 3), (126, .iload_n (1), 1), (127, .iconst (3), 1), (128, .iadd, 1), (129, .dup2, 1), (130, .iaload, 1), (131, .iconst (1), 1), (132, .iadd, 1), (133, .iastore, 1), (134, .goto (-70), 3), (137, .aload_n (0), 1), (138, .getfield (31), 3), (141, .bipush (6), 2), (143, .dup2, 1), (144, .iaload, 1), (145, .iconst (1), 1), (146, .iadd, 1), (147, .iastore, 1), (148, .return_, 1)]
set_option maxRecDepth 100000 in
theorem zD_207_ok : zDo 207 zD_207 = true := by decide +kernel
theorem zc_207 : zcls 207 = 8 := by decide +kernel
theorem zm_207 : zml 207 = 2 := by decide +kernel
theorem zt_207 : zrt 207 = none := by decide +kernel
theorem zk_207 : zkd 207 = 1 ∧ znp 207 + 1 = 1 := by decide +kernel
theorem zr_207 (as : List zV) : zrk 207 as = 8 := by unfold zrk; rw [if_neg (by decide)]; decide +kernel
def lm_readName_c91 (h64 : Int → (Nat → Nat → Int) → Option (Nat → Nat → Int)) (y1 : Int) (M : Nat → Nat → Int) : Option (Nat → Nat → Int) :=
    ((lm_takes 5032 M).bind (fun r94_ =>
    (if r94_.1 = 0 then
    (some r94_.2)
    else
    ((rdI 112 (w32 (y1 + (3 : Int))) r94_.2).bind (fun v115 =>
    ((lm_freshCorner r94_.2).bind (fun r118_ =>
    ((wrI 112 (w32 ((w32 (y1 + (4 : Int))) + v115)) r118_.1 r118_.2).bind (fun M121 =>
    ((rdI 112 (w32 (y1 + (3 : Int))) M121).bind (fun v130 =>
    ((wrI 112 (w32 (y1 + (3 : Int))) (w32 (v130 + (1 : Int))) M121).bind (fun M133 =>
    (h64 y1 M133))))))))))))))
set_option maxRecDepth 100000 in
theorem ok_lm_readName_c91 {sc : zSc} {q : Nat} {P : Option zV → (Nat → Nat → Int) → Prop} (hq : 8 ≤ q) (h64 : Int → (Nat → Nat → Int) → Option (Nat → Nat → Int)) (H64 : ∀ (y1 : Int) (M : Nat → Nat → Int), zS (h64 y1 M) (fun M0 => P none M0) → zWp sc q 207 64 [some (.inr (.inr 106)), some (.inl y1)] [] M P) : ∀ (y1 : Int) (M : Nat → Nat → Int), zS (lm_readName_c91 h64 y1 M) (fun M0 => P none M0) → zWp sc q 207 91 [some (.inr (.inr 106)), some (.inl y1)] [] M P := by
  intro y1 M h
  unfold lm_readName_c91 at h
  refine E_aload_n (pc := 91) (zDk zD_207_ok 55 rfl) rfl ?_
  refine E_ldc (pc := 92) (v := .inr (.inr 5032)) (zDk zD_207_ok 56 rfl) zc_207 (by decide +kernel) ?_
  obtain ⟨r94_, e94, h⟩ := zS_bind h
  refine E_virI (pc := 94) (c := 199) (r := 106) (as := [.inr (.inr 5032)]) (rest := []) (zDk zD_207_ok 57 rfl) zc_207 (by decide +kernel) zk_199 ⟨(Nat.le_of_ble_eq_true rfl), rfl, rfl⟩ (Nat.le_of_ble_eq_true rfl) (zr_199 _) (Nat.lt_of_lt_of_le (by decide) hq) (by rw [zm_199]; exact (Nat.le_of_ble_eq_true rfl)) ⟨zc_199, by decide⟩ zis_8_106 (ok_lm_takes ⟨r94_, e94, ?_⟩)
  refine E_if (pc := 97) (t := 101) (zDk zD_207_ok 58 rfl) rfl (fun hz => ?_) (fun hz => ?_)
  · have h := zS_f h (T_ne hz)
    refine E_aload_n (pc := 101) (zDk zD_207_ok 60 rfl) rfl ?_
    refine E_getR (pc := 102) (ci := 8) (f := 14) (r := 112) (zDk zD_207_ok 61 rfl) zc_207 (by decide +kernel) (by decide) zis_8_106 (by decide +kernel) (by decide) ?_
    refine E_iload_n (pc := 105) (zDk zD_207_ok 62 rfl) rfl ?_
    refine E_iconst (pc := 106) (zDk zD_207_ok 63 rfl) (by decide +kernel) ?_
    refine W_iadd (pc := 107) (zDk zD_207_ok 64 rfl) ?_
    refine E_aload_n (pc := 108) (zDk zD_207_ok 65 rfl) rfl ?_
    refine E_getR (pc := 109) (ci := 8) (f := 14) (r := 112) (zDk zD_207_ok 66 rfl) zc_207 (by decide +kernel) (by decide) zis_8_106 (by decide +kernel) (by decide) ?_
    refine E_iload_n (pc := 112) (zDk zD_207_ok 67 rfl) rfl ?_
    refine E_iconst (pc := 113) (zDk zD_207_ok 68 rfl) (by decide +kernel) ?_
    refine W_iadd (pc := 114) (zDk zD_207_ok 69 rfl) ?_
    obtain ⟨v115, e115, h⟩ := zS_bind h
    refine E_iaload (pc := 115) (zDk zD_207_ok 70 rfl) e115 ?_
    refine W_iadd (pc := 116) (zDk zD_207_ok 71 rfl) ?_
    refine E_aload_n (pc := 117) (zDk zD_207_ok 72 rfl) rfl ?_
    obtain ⟨r118_, e118, h⟩ := zS_bind h
    refine E_virI (pc := 118) (c := 204) (r := 106) (as := []) (rest := [.inl (w32 ((w32 (y1 + (4 : Int))) + v115)), .inr (.inr 112)]) (zDk zD_207_ok 73 rfl) zc_207 (by decide +kernel) zk_204 ⟨(Nat.le_of_ble_eq_true rfl), rfl, rfl⟩ (Nat.le_of_ble_eq_true rfl) (zr_204 _) (Nat.lt_of_lt_of_le (by decide) hq) (by rw [zm_204]; exact (Nat.le_of_ble_eq_true rfl)) ⟨zc_204, by decide⟩ zis_8_106 (ok_lm_freshCorner ⟨r118_, e118, ?_⟩)
    obtain ⟨M121, e121, h⟩ := zS_bind h
    refine E_iastore (pc := 121) (zDk zD_207_ok 74 rfl) e121 ?_
    refine E_aload_n (pc := 122) (zDk zD_207_ok 75 rfl) rfl ?_
    refine E_getR (pc := 123) (ci := 8) (f := 14) (r := 112) (zDk zD_207_ok 76 rfl) zc_207 (by decide +kernel) (by decide) zis_8_106 (by decide +kernel) (by decide) ?_
    refine E_iload_n (pc := 126) (zDk zD_207_ok 77 rfl) rfl ?_
    refine E_iconst (pc := 127) (zDk zD_207_ok 78 rfl) (by decide +kernel) ?_
    refine W_iadd (pc := 128) (zDk zD_207_ok 79 rfl) ?_
    refine E_dup2 (pc := 129) (zDk zD_207_ok 80 rfl) rfl rfl ?_
    obtain ⟨v130, e130, h⟩ := zS_bind h
    refine E_iaload (pc := 130) (zDk zD_207_ok 81 rfl) e130 ?_
    refine E_iconst (pc := 131) (zDk zD_207_ok 82 rfl) (by decide +kernel) ?_
    refine W_iadd (pc := 132) (zDk zD_207_ok 83 rfl) ?_
    obtain ⟨M133, e133, h⟩ := zS_bind h
    refine E_iastore (pc := 133) (zDk zD_207_ok 84 rfl) e133 ?_
    refine E_goto (pc := 134) (t := 64) (zDk zD_207_ok 85 rfl) rfl ?_
    exact H64 y1 M133 h
  · have h := zS_t h (F_ne hz)
    have h := zS_some h
    exact E_return (x := ()) (pc := 100) (zDk zD_207_ok 59 rfl) zt_207 h
def lm_readName_c64 : Nat → Int → (Nat → Nat → Int) → Option (Nat → Nat → Int)
  | 0, _, _ => none
  | n + 1, y1, M =>
    ((lm_is 5032 M).bind (fun v67 =>
    (if v67 = 0 then
    ((rdI 112 (6 : Int) M).bind (fun v144 =>
    ((wrI 112 (6 : Int) (w32 (v144 + (1 : Int))) M).bind (fun M147 =>
    (some M147)))))
    else
    ((rdI 112 (w32 (y1 + (3 : Int))) M).bind (fun v80 =>
    (if v80 = (8 : Int) then
    ((lm_errs (3 : Int) M).bind (fun M88 =>
    (lm_readName_c91 (lm_readName_c64 n) y1 M88)))
    else
    (lm_readName_c91 (lm_readName_c64 n) y1 M)))))))
set_option maxRecDepth 100000 in
theorem ok_lm_readName_c64 {sc : zSc} {q : Nat} {P : Option zV → (Nat → Nat → Int) → Prop} (hq : 8 ≤ q) : ∀ (n : Nat) (y1 : Int) (M : Nat → Nat → Int), zS (lm_readName_c64 n y1 M) (fun M0 => P none M0) → zWp sc q 207 64 [some (.inr (.inr 106)), some (.inl y1)] [] M P := by
  intro n
  induction n with
  | zero => intro y1 M h; exact (zS_none h).elim
  | succ n ih =>
    intro y1 M h
    rw [lm_readName_c64] at h
    refine E_aload_n (pc := 64) (zDk zD_207_ok 40 rfl) rfl ?_
    refine E_ldc (pc := 65) (v := .inr (.inr 5032)) (zDk zD_207_ok 41 rfl) zc_207 (by decide +kernel) ?_
    obtain ⟨v67, e67, h⟩ := zS_bind h
    refine E_virI (pc := 67) (c := 198) (r := 106) (as := [.inr (.inr 5032)]) (rest := []) (zDk zD_207_ok 42 rfl) zc_207 (by decide +kernel) zk_198 ⟨(Nat.le_of_ble_eq_true rfl), rfl, rfl⟩ (Nat.le_of_ble_eq_true rfl) (zr_198 _) (Nat.lt_of_lt_of_le (by decide) hq) (by rw [zm_198]; exact (Nat.le_of_ble_eq_true rfl)) ⟨zc_198, by decide⟩ zis_8_106 (ok_lm_is ⟨v67, e67, ?_⟩)
    refine E_if (pc := 70) (t := 137) (zDk zD_207_ok 43 rfl) rfl (fun hz => ?_) (fun hz => ?_)
    · have h := zS_t h (T_eq hz)
      refine E_aload_n (pc := 137) (zDk zD_207_ok 86 rfl) rfl ?_
      refine E_getR (pc := 138) (ci := 8) (f := 14) (r := 112) (zDk zD_207_ok 87 rfl) zc_207 (by decide +kernel) (by decide) zis_8_106 (by decide +kernel) (by decide) ?_
      refine E_bipush (pc := 141) (zDk zD_207_ok 88 rfl) (by decide +kernel) ?_
      refine E_dup2 (pc := 143) (zDk zD_207_ok 89 rfl) rfl rfl ?_
      obtain ⟨v144, e144, h⟩ := zS_bind h
      refine E_iaload (pc := 144) (zDk zD_207_ok 90 rfl) e144 ?_
      refine E_iconst (pc := 145) (zDk zD_207_ok 91 rfl) (by decide +kernel) ?_
      refine W_iadd (pc := 146) (zDk zD_207_ok 92 rfl) ?_
      obtain ⟨M147, e147, h⟩ := zS_bind h
      refine E_iastore (pc := 147) (zDk zD_207_ok 93 rfl) e147 ?_
      have h := zS_some h
      exact E_return (x := ()) (pc := 148) (zDk zD_207_ok 94 rfl) zt_207 h
    · have h := zS_f h (F_eq hz)
      refine E_aload_n (pc := 73) (zDk zD_207_ok 44 rfl) rfl ?_
      refine E_getR (pc := 74) (ci := 8) (f := 14) (r := 112) (zDk zD_207_ok 45 rfl) zc_207 (by decide +kernel) (by decide) zis_8_106 (by decide +kernel) (by decide) ?_
      refine E_iload_n (pc := 77) (zDk zD_207_ok 46 rfl) rfl ?_
      refine E_iconst (pc := 78) (zDk zD_207_ok 47 rfl) (by decide +kernel) ?_
      refine W_iadd (pc := 79) (zDk zD_207_ok 48 rfl) ?_
      obtain ⟨v80, e80, h⟩ := zS_bind h
      refine E_iaload (pc := 80) (zDk zD_207_ok 49 rfl) e80 ?_
      refine E_bipush (pc := 81) (zDk zD_207_ok 50 rfl) (by decide +kernel) ?_
      refine E_icmp (pc := 83) (t := 91) (zDk zD_207_ok 51 rfl) rfl (fun hz => ?_) (fun hz => ?_)
      · have h := zS_f h (T_ne hz)
        exact ok_lm_readName_c91 hq (lm_readName_c64 n) (ih) y1 M h
      · have h := zS_t h (F_ne hz)
        refine E_aload_n (pc := 86) (zDk zD_207_ok 52 rfl) rfl ?_
        refine E_iconst (pc := 87) (zDk zD_207_ok 53 rfl) (by decide +kernel) ?_
        obtain ⟨M88, e88, h⟩ := zS_bind h
        refine E_virV (pc := 88) (c := 197) (r := 106) (as := [.inl (3 : Int)]) (rest := []) (zDk zD_207_ok 54 rfl) zc_207 (by decide +kernel) zk_197 ⟨(Nat.le_of_ble_eq_true rfl), rfl, rfl⟩ (Nat.le_of_ble_eq_true rfl) (zr_197 _) (Nat.lt_of_lt_of_le (by decide) hq) (by rw [zm_197]; exact (Nat.le_of_ble_eq_true rfl)) ⟨zc_197, by decide⟩ zis_8_106 (ok_lm_errs ⟨M88, e88, ?_⟩)
        exact ok_lm_readName_c91 hq (lm_readName_c64 n) (ih) y1 M88 h
def lm_readName (M : Nat → Nat → Int) : Option (Nat → Nat → Int) :=
    ((rdI 112 (6 : Int) M).bind (fun v10 =>
    ((lm_needs 5029 M).bind (fun M17 =>
    ((lm_freshCorner M17).bind (fun r26_ =>
    ((wrI 112 (w32 ((42 : Int) + (w32 ((12 : Int) * v10)))) r26_.1 r26_.2).bind (fun M29 =>
    ((lm_told 5030 (0 : Int) (40 : Int) M29).bind (fun r43_ =>
    ((wrI 112 (w32 ((w32 ((42 : Int) + (w32 ((12 : Int) * v10)))) + (1 : Int))) r43_.1 r43_.2).bind (fun M46 =>
    ((lm_told 5031 (0 : Int) (59 : Int) M46).bind (fun r60_ =>
    ((wrI 112 (w32 ((w32 ((42 : Int) + (w32 ((12 : Int) * v10)))) + (2 : Int))) r60_.1 r60_.2).bind (fun M63 =>
    (lm_readName_c64 zN (w32 ((42 : Int) + (w32 ((12 : Int) * v10)))) M63)))))))))))))))))
set_option maxRecDepth 100000 in
theorem ok_lm_readName {sc : zSc} {M : Nat → Nat → Int} {P : (Nat → Nat → Int) → Prop} (h : zS (lm_readName M) P) : zCv sc 207 [.inr (.inr 106)] M P := by
  have ea : zarg (zml 207) [.inr (.inr 106)] = [some (.inr (.inr 106)), none] := by rw [zm_207]; rfl
  unfold zCv zCw
  rw [ea, zr_207]
  have hq : 8 ≤ 8 := Nat.le_refl _
  unfold lm_readName at h
  have h := zS_mono h (fun x hx => (⟨rfl, hx⟩ : (none : Option zV) = none ∧ P x))
  skip
  refine E_bipush (pc := 0) (zDk zD_207_ok 0 rfl) (by decide +kernel) ?_
  refine E_bipush (pc := 2) (zDk zD_207_ok 1 rfl) (by decide +kernel) ?_
  refine E_aload_n (pc := 4) (zDk zD_207_ok 2 rfl) rfl ?_
  refine E_getR (pc := 5) (ci := 8) (f := 14) (r := 112) (zDk zD_207_ok 3 rfl) zc_207 (by decide +kernel) (by decide) zis_8_106 (by decide +kernel) (by decide) ?_
  refine E_bipush (pc := 8) (zDk zD_207_ok 4 rfl) (by decide +kernel) ?_
  obtain ⟨v10, e10, h⟩ := zS_bind h
  refine E_iaload (pc := 10) (zDk zD_207_ok 5 rfl) e10 ?_
  refine W_imul (pc := 11) (zDk zD_207_ok 6 rfl) ?_
  refine W_iadd (pc := 12) (zDk zD_207_ok 7 rfl) ?_
  refine W_istore_n (pc := 13) (L' := [some (.inr (.inr 106)), some (.inl (w32 ((42 : Int) + (w32 ((12 : Int) * v10)))))]) (zDk zD_207_ok 8 rfl) zm_207 (by decide) rfl ?_
  refine E_aload_n (pc := 14) (zDk zD_207_ok 9 rfl) rfl ?_
  refine E_ldc (pc := 15) (v := .inr (.inr 5029)) (zDk zD_207_ok 10 rfl) zc_207 (by decide +kernel) ?_
  obtain ⟨M17, e17, h⟩ := zS_bind h
  refine E_virV (pc := 17) (c := 200) (r := 106) (as := [.inr (.inr 5029)]) (rest := []) (zDk zD_207_ok 11 rfl) zc_207 (by decide +kernel) zk_200 ⟨(Nat.le_of_ble_eq_true rfl), rfl, rfl⟩ (Nat.le_of_ble_eq_true rfl) (zr_200 _) (Nat.lt_of_lt_of_le (by decide) hq) (by rw [zm_200]; exact (Nat.le_of_ble_eq_true rfl)) ⟨zc_200, by decide⟩ zis_8_106 (ok_lm_needs ⟨M17, e17, ?_⟩)
  refine E_aload_n (pc := 20) (zDk zD_207_ok 12 rfl) rfl ?_
  refine E_getR (pc := 21) (ci := 8) (f := 14) (r := 112) (zDk zD_207_ok 13 rfl) zc_207 (by decide +kernel) (by decide) zis_8_106 (by decide +kernel) (by decide) ?_
  refine E_iload_n (pc := 24) (zDk zD_207_ok 14 rfl) rfl ?_
  refine E_aload_n (pc := 25) (zDk zD_207_ok 15 rfl) rfl ?_
  obtain ⟨r26_, e26, h⟩ := zS_bind h
  refine E_virI (pc := 26) (c := 204) (r := 106) (as := []) (rest := [.inl (w32 ((42 : Int) + (w32 ((12 : Int) * v10)))), .inr (.inr 112)]) (zDk zD_207_ok 16 rfl) zc_207 (by decide +kernel) zk_204 ⟨(Nat.le_of_ble_eq_true rfl), rfl, rfl⟩ (Nat.le_of_ble_eq_true rfl) (zr_204 _) (Nat.lt_of_lt_of_le (by decide) hq) (by rw [zm_204]; exact (Nat.le_of_ble_eq_true rfl)) ⟨zc_204, by decide⟩ zis_8_106 (ok_lm_freshCorner ⟨r26_, e26, ?_⟩)
  obtain ⟨M29, e29, h⟩ := zS_bind h
  refine E_iastore (pc := 29) (zDk zD_207_ok 17 rfl) e29 ?_
  refine E_aload_n (pc := 30) (zDk zD_207_ok 18 rfl) rfl ?_
  refine E_getR (pc := 31) (ci := 8) (f := 14) (r := 112) (zDk zD_207_ok 19 rfl) zc_207 (by decide +kernel) (by decide) zis_8_106 (by decide +kernel) (by decide) ?_
  refine E_iload_n (pc := 34) (zDk zD_207_ok 20 rfl) rfl ?_
  refine E_iconst (pc := 35) (zDk zD_207_ok 21 rfl) (by decide +kernel) ?_
  refine W_iadd (pc := 36) (zDk zD_207_ok 22 rfl) ?_
  refine E_aload_n (pc := 37) (zDk zD_207_ok 23 rfl) rfl ?_
  refine E_ldc (pc := 38) (v := .inr (.inr 5030)) (zDk zD_207_ok 24 rfl) zc_207 (by decide +kernel) ?_
  refine E_iconst (pc := 40) (zDk zD_207_ok 25 rfl) (by decide +kernel) ?_
  refine E_bipush (pc := 41) (zDk zD_207_ok 26 rfl) (by decide +kernel) ?_
  obtain ⟨r43_, e43, h⟩ := zS_bind h
  refine E_virI (pc := 43) (c := 202) (r := 106) (as := [.inr (.inr 5030), .inl (0 : Int), .inl (40 : Int)]) (rest := [.inl (w32 ((w32 ((42 : Int) + (w32 ((12 : Int) * v10)))) + (1 : Int))), .inr (.inr 112)]) (zDk zD_207_ok 27 rfl) zc_207 (by decide +kernel) zk_202 ⟨(Nat.le_of_ble_eq_true rfl), rfl, rfl⟩ (Nat.le_of_ble_eq_true rfl) (zr_202 _) (Nat.lt_of_lt_of_le (by decide) hq) (by rw [zm_202]; exact (Nat.le_of_ble_eq_true rfl)) ⟨zc_202, by decide⟩ zis_8_106 (ok_lm_told ⟨r43_, e43, ?_⟩)
  obtain ⟨M46, e46, h⟩ := zS_bind h
  refine E_iastore (pc := 46) (zDk zD_207_ok 28 rfl) e46 ?_
  refine E_aload_n (pc := 47) (zDk zD_207_ok 29 rfl) rfl ?_
  refine E_getR (pc := 48) (ci := 8) (f := 14) (r := 112) (zDk zD_207_ok 30 rfl) zc_207 (by decide +kernel) (by decide) zis_8_106 (by decide +kernel) (by decide) ?_
  refine E_iload_n (pc := 51) (zDk zD_207_ok 31 rfl) rfl ?_
  refine E_iconst (pc := 52) (zDk zD_207_ok 32 rfl) (by decide +kernel) ?_
  refine W_iadd (pc := 53) (zDk zD_207_ok 33 rfl) ?_
  refine E_aload_n (pc := 54) (zDk zD_207_ok 34 rfl) rfl ?_
  refine E_ldc (pc := 55) (v := .inr (.inr 5031)) (zDk zD_207_ok 35 rfl) zc_207 (by decide +kernel) ?_
  refine E_iconst (pc := 57) (zDk zD_207_ok 36 rfl) (by decide +kernel) ?_
  refine E_bipush (pc := 58) (zDk zD_207_ok 37 rfl) (by decide +kernel) ?_
  obtain ⟨r60_, e60, h⟩ := zS_bind h
  refine E_virI (pc := 60) (c := 202) (r := 106) (as := [.inr (.inr 5031), .inl (0 : Int), .inl (59 : Int)]) (rest := [.inl (w32 ((w32 ((42 : Int) + (w32 ((12 : Int) * v10)))) + (2 : Int))), .inr (.inr 112)]) (zDk zD_207_ok 38 rfl) zc_207 (by decide +kernel) zk_202 ⟨(Nat.le_of_ble_eq_true rfl), rfl, rfl⟩ (Nat.le_of_ble_eq_true rfl) (zr_202 _) (Nat.lt_of_lt_of_le (by decide) hq) (by rw [zm_202]; exact (Nat.le_of_ble_eq_true rfl)) ⟨zc_202, by decide⟩ zis_8_106 (ok_lm_told ⟨r60_, e60, ?_⟩)
  obtain ⟨M63, e63, h⟩ := zS_bind h
  refine E_iastore (pc := 63) (zDk zD_207_ok 39 rfl) e63 ?_
  exact ok_lm_readName_c64 hq zN (w32 ((42 : Int) + (w32 ((12 : Int) * v10)))) M63 h
def zD_43 : List (Nat × Instr × Nat) := [(0, .aload_n (1), 1), (1, .invokevirtual (22), 3), (4, .aload_n (0), 1), (5, .iconst (0), 1), (6, .putfield (27), 3), (9, .aload_n (0), 1), (10, .iconst (-1), 1), (11, .putfield (15), 3), (14, .aload_n (0), 1), (15, .iconst (0), 1), (16, .putfield (30), 3), (19, .aload_n (0), 1), (20, .invokevirtual (33), 3), (23, .iconst (0), 1), (24, .istore_n (2), 1), (25, .iload_n (2), 1), (26, .sipush (900), 3), (29, .if_icmp .ge (28), 3), (32, .aload_n (0), 1), (33, .getfield (27), 3), (36, .ifCond .ne (21), 3), (39, .aload_n (0), 1), (40, .getfield (36), 3), (43, .ifCond .eq (14), 3), (46, .aload_n (0), 1), (47, .aload_n (1), 1), (48, .invokevirtual (39), 3), (51, .iinc (2) (1), 3), (54, .goto (-29), 3), (57, .aload_n (0), 1), (58, .iconst (0), 1), (59, .putfield (19), 3), (62, .return_, 1)]
set_option maxRecDepth 100000 in
theorem zD_43_ok : zDo 43 zD_43 = true := by decide +kernel
theorem zc_43 : zcls 43 = 4 := by decide +kernel
theorem zm_43 : zml 43 = 3 := by decide +kernel
theorem zt_43 : zrt 43 = none := by decide +kernel
theorem zk_43 : zkd 43 = 1 ∧ znp 43 + 1 = 2 := by decide +kernel
theorem zr_43 (as : List zV) : zrk 43 as = 9 := by unfold zrk; rw [if_neg (by decide)]; decide +kernel
def lR_readAll_c25 (r1 : Nat) : Nat → Int → (Nat → Nat → Int) → Option (Nat → Nat → Int)
  | 0, _, _ => none
  | n + 1, y2, M =>
    (if y2 < (900 : Int) then
    (if (M 1 2) = 0 then
    (if (M 1 4) = 0 then
    ((some (zup M 1 1 (0 : Int))).bind (fun M59 =>
    (some M59)))
    else
    ((lR_readLine r1 M).bind (fun M48 =>
    ((lR_readAll_c25 r1 n) (w32 (y2 + 1)) M48))))
    else
    ((some (zup M 1 1 (0 : Int))).bind (fun M59 =>
    (some M59))))
    else
    ((some (zup M 1 1 (0 : Int))).bind (fun M59 =>
    (some M59))))
set_option maxRecDepth 100000 in
theorem ok_lR_readAll_c25 {sc : zSc} {q : Nat} {P : Option zV → (Nat → Nat → Int) → Prop} (hq : 9 ≤ q) (r1 : Nat) (hr1 : zis 6 r1 = true) : ∀ (n : Nat) (y2 : Int) (M : Nat → Nat → Int), zS (lR_readAll_c25 r1 n y2 M) (fun M0 => P none M0) → zWp sc q 43 25 [some (.inr (.inr 1)), some (.inr (.inr r1)), some (.inl y2)] [] M P := by
  intro n
  induction n with
  | zero => intro y2 M h; exact (zS_none h).elim
  | succ n ih =>
    intro y2 M h
    rw [lR_readAll_c25] at h
    refine E_iload_n (pc := 25) (zDk zD_43_ok 15 rfl) rfl ?_
    refine E_sipush (pc := 26) (zDk zD_43_ok 16 rfl) (by decide +kernel) ?_
    refine E_icmp (pc := 29) (t := 57) (zDk zD_43_ok 17 rfl) rfl (fun hz => ?_) (fun hz => ?_)
    · have h := zS_f h (Int.not_lt.mpr (T_ge hz))
      refine E_aload_n (pc := 57) (zDk zD_43_ok 29 rfl) rfl ?_
      refine E_iconst (pc := 58) (zDk zD_43_ok 30 rfl) (by decide +kernel) ?_
      obtain ⟨M59, e59, h⟩ := zS_bind h
      refine W_putI (pc := 59) (ci := 4) (f := 1) (zDk zD_43_ok 31 rfl) zc_43 (by decide +kernel) (by decide) zis_4_1 (Option.some.inj e59) ?_
      have h := zS_some h
      exact E_return (x := ()) (pc := 62) (zDk zD_43_ok 32 rfl) zt_43 h
    · have h := zS_t h (F_ge hz)
      refine E_aload_n (pc := 32) (zDk zD_43_ok 18 rfl) rfl ?_
      refine E_getI (pc := 33) (ci := 4) (f := 2) (zDk zD_43_ok 19 rfl) zc_43 (by decide +kernel) (by decide) zis_4_1 ?_
      refine E_if (pc := 36) (t := 57) (zDk zD_43_ok 20 rfl) rfl (fun hz => ?_) (fun hz => ?_)
      · have h := zS_f h (T_ne hz)
        refine E_aload_n (pc := 57) (zDk zD_43_ok 29 rfl) rfl ?_
        refine E_iconst (pc := 58) (zDk zD_43_ok 30 rfl) (by decide +kernel) ?_
        obtain ⟨M59, e59, h⟩ := zS_bind h
        refine W_putI (pc := 59) (ci := 4) (f := 1) (zDk zD_43_ok 31 rfl) zc_43 (by decide +kernel) (by decide) zis_4_1 (Option.some.inj e59) ?_
        have h := zS_some h
        exact E_return (x := ()) (pc := 62) (zDk zD_43_ok 32 rfl) zt_43 h
      · have h := zS_t h (F_ne hz)
        refine E_aload_n (pc := 39) (zDk zD_43_ok 21 rfl) rfl ?_
        refine E_getI (pc := 40) (ci := 4) (f := 4) (zDk zD_43_ok 22 rfl) zc_43 (by decide +kernel) (by decide) zis_4_1 ?_
        refine E_if (pc := 43) (t := 57) (zDk zD_43_ok 23 rfl) rfl (fun hz => ?_) (fun hz => ?_)
        · have h := zS_t h (T_eq hz)
          refine E_aload_n (pc := 57) (zDk zD_43_ok 29 rfl) rfl ?_
          refine E_iconst (pc := 58) (zDk zD_43_ok 30 rfl) (by decide +kernel) ?_
          obtain ⟨M59, e59, h⟩ := zS_bind h
          refine W_putI (pc := 59) (ci := 4) (f := 1) (zDk zD_43_ok 31 rfl) zc_43 (by decide +kernel) (by decide) zis_4_1 (Option.some.inj e59) ?_
          have h := zS_some h
          exact E_return (x := ()) (pc := 62) (zDk zD_43_ok 32 rfl) zt_43 h
        · have h := zS_f h (F_eq hz)
          refine E_aload_n (pc := 46) (zDk zD_43_ok 24 rfl) rfl ?_
          refine E_aload_n (pc := 47) (zDk zD_43_ok 25 rfl) rfl ?_
          obtain ⟨M48, e48, h⟩ := zS_bind h
          refine E_virV (pc := 48) (c := 44) (r := 1) (as := [.inr (.inr r1)]) (rest := []) (zDk zD_43_ok 26 rfl) zc_43 (by decide +kernel) zk_44 ⟨(Nat.le_of_ble_eq_true rfl), rfl, rfl⟩ (Nat.le_of_ble_eq_true rfl) (zr_44 _) (Nat.lt_of_lt_of_le (by decide) hq) (by rw [zm_44]; exact (Nat.le_of_ble_eq_true rfl)) ⟨zc_44, by decide⟩ zis_4_1 (ok_lR_readLine ⟨M48, e48, ?_⟩)
          refine W_iinc (pc := 51) (L' := [some (.inr (.inr 1)), some (.inr (.inr r1)), some (.inl (w32 (y2 + 1)))]) (zDk zD_43_ok 27 rfl) rfl zm_43 (by decide) rfl ?_
          refine E_goto (pc := 54) (t := 25) (zDk zD_43_ok 28 rfl) rfl ?_
          exact (ih) (w32 (y2 + 1)) M48 h
def lR_readAll (r1 : Nat) (M : Nat → Nat → Int) : Option (Nat → Nat → Int) :=
    (if zis 6 r1 = true then
    ((lT_makeEmpty r1 M).bind (fun M1 =>
    ((some (zup M1 1 2 (0 : Int))).bind (fun M6 =>
    ((some (zup M6 1 3 (-1 : Int))).bind (fun M11 =>
    ((some (zup M11 1 6 (0 : Int))).bind (fun M16 =>
    ((lR_takeToken M16).bind (fun M20 =>
    (lR_readAll_c25 r1 zN (0 : Int) M20)))))))))))
    else none)
set_option maxRecDepth 100000 in
theorem ok_lR_readAll {sc : zSc} {r1 : Nat} {M : Nat → Nat → Int} {P : (Nat → Nat → Int) → Prop} (h : zS (lR_readAll r1 M) P) : zCv sc 43 [.inr (.inr 1), .inr (.inr r1)] M P := by
  have ea : zarg (zml 43) [.inr (.inr 1), .inr (.inr r1)] = [some (.inr (.inr 1)), some (.inr (.inr r1)), none] := by rw [zm_43]; rfl
  unfold zCv zCw
  rw [ea, zr_43]
  have hq : 9 ≤ 9 := Nat.le_refl _
  unfold lR_readAll at h
  have h := zS_mono h (fun x hx => (⟨rfl, hx⟩ : (none : Option zV) = none ∧ P x))
  obtain ⟨hr1, h⟩ := zS_c h
  skip
  refine E_aload_n (pc := 0) (zDk zD_43_ok 0 rfl) rfl ?_
  obtain ⟨M1, e1, h⟩ := zS_bind h
  refine E_virV (pc := 1) (c := 67) (r := r1) (as := []) (rest := []) (zDk zD_43_ok 1 rfl) zc_43 (by decide +kernel) zk_67 ⟨(Nat.le_of_ble_eq_true rfl), rfl, rfl⟩ (Nat.le_of_ble_eq_true rfl) (zr_67 _) (Nat.lt_of_lt_of_le (by decide) hq) (by rw [zm_67]; exact (Nat.le_of_ble_eq_true rfl)) ⟨zc_67, by decide⟩ hr1 (ok_lT_makeEmpty ⟨M1, e1, ?_⟩)
  refine E_aload_n (pc := 4) (zDk zD_43_ok 2 rfl) rfl ?_
  refine E_iconst (pc := 5) (zDk zD_43_ok 3 rfl) (by decide +kernel) ?_
  obtain ⟨M6, e6, h⟩ := zS_bind h
  refine W_putI (pc := 6) (ci := 4) (f := 2) (zDk zD_43_ok 4 rfl) zc_43 (by decide +kernel) (by decide) zis_4_1 (Option.some.inj e6) ?_
  refine E_aload_n (pc := 9) (zDk zD_43_ok 5 rfl) rfl ?_
  refine E_iconst (pc := 10) (zDk zD_43_ok 6 rfl) (by decide +kernel) ?_
  obtain ⟨M11, e11, h⟩ := zS_bind h
  refine W_putI (pc := 11) (ci := 4) (f := 3) (zDk zD_43_ok 7 rfl) zc_43 (by decide +kernel) (by decide) zis_4_1 (Option.some.inj e11) ?_
  refine E_aload_n (pc := 14) (zDk zD_43_ok 8 rfl) rfl ?_
  refine E_iconst (pc := 15) (zDk zD_43_ok 9 rfl) (by decide +kernel) ?_
  obtain ⟨M16, e16, h⟩ := zS_bind h
  refine W_putI (pc := 16) (ci := 4) (f := 6) (zDk zD_43_ok 10 rfl) zc_43 (by decide +kernel) (by decide) zis_4_1 (Option.some.inj e16) ?_
  refine E_aload_n (pc := 19) (zDk zD_43_ok 11 rfl) rfl ?_
  obtain ⟨M20, e20, h⟩ := zS_bind h
  refine E_virV (pc := 20) (c := 56) (r := 1) (as := []) (rest := []) (zDk zD_43_ok 12 rfl) zc_43 (by decide +kernel) zk_56 ⟨(Nat.le_of_ble_eq_true rfl), rfl, rfl⟩ (Nat.le_of_ble_eq_true rfl) (zr_56 _) (Nat.lt_of_lt_of_le (by decide) hq) (by rw [zm_56]; exact (Nat.le_of_ble_eq_true rfl)) ⟨zc_56, by decide⟩ zis_4_1 (ok_lR_takeToken ⟨M20, e20, ?_⟩)
  refine E_iconst (pc := 23) (zDk zD_43_ok 13 rfl) (by decide +kernel) ?_
  refine W_istore_n (pc := 24) (L' := [some (.inr (.inr 1)), some (.inr (.inr r1)), some (.inl (0 : Int))]) (zDk zD_43_ok 14 rfl) zm_43 (by decide) rfl ?_
  exact ok_lR_readAll_c25 hq r1 hr1 zN (0 : Int) M20 h
