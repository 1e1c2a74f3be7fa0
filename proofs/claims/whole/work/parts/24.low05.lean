/-! Lifted methods 5 (written by wip/whole/lift.py): decode rows, functions, proofs. -/
def zD_142 : List (Nat × Instr × Nat) := [(0, .iload_n (1), 1), (1, .invokestatic (353), 3), (4, .ifCond .eq (18), 3), (7, .iload_n (2), 1), (8, .ifCond .lt (14), 3), (11, .iload_n (2), 1), (12, .iconst (3), 1), (13, .if_icmp .gt (9), 3), (16, .iload_n (3), 1), (17, .bipush (60), 2), (19, .if_icmp .le (6), 3), (22, .bipush (-2), 2), (24, .ireturn, 1), (25, .iload_n (3), 1), (26, .ifCond .ge (6), 3), (29, .bipush (-3), 2), (31, .ireturn, 1), (32, .aload_n (0), 1), (33, .getfield (55), 3), (36, .iload_n (1), 1), (37, .iload_n (2), 1), (38, .iload_n (3), 1), (39, .invokevirtual (356), 3), (42, .iconst (0), 1), (43, .ireturn, 1)]
set_option maxRecDepth 100000 in
theorem zD_142_ok : zDo 142 zD_142 = true := by decide +kernel
theorem zc_142 : zcls 142 = 7 := by decide +kernel
theorem zm_142 : zml 142 = 4 := by decide +kernel
theorem zt_142 : zrt 142 = (some (.int)) := by decide +kernel
theorem zk_142 : zkd 142 = 1 ∧ znp 142 + 1 = 4 := by decide +kernel
theorem zr_142 (as : List zV) : zrk 142 as = 2 := by unfold zrk; rw [if_neg (by decide)]; decide +kernel
def lX_row (x1 : Int) (x2 : Int) (x3 : Int) (M : Nat → Nat → Int) : Option (Int × (Nat → Nat → Int)) :=
    ((lW_isSlot x1 M).bind (fun v1 =>
    (if v1 = 0 then
    (some ((-2 : Int), M))
    else
    (if x2 < 0 then
    (some ((-2 : Int), M))
    else
    (if (3 : Int) < x2 then
    (some ((-2 : Int), M))
    else
    (if (60 : Int) < x3 then
    (some ((-2 : Int), M))
    else
    (if x3 < 0 then
    (some ((-3 : Int), M))
    else
    ((lW_make x1 x2 x3 M).bind (fun M39 =>
    (some ((0 : Int), M39)))))))))))
set_option maxRecDepth 100000 in
theorem ok_lX_row {sc : zSc} {x1 : Int} {x2 : Int} {x3 : Int} {M : Nat → Nat → Int} {P : Int → (Nat → Nat → Int) → Prop} (h : zS (lX_row x1 x2 x3 M) (fun r => P r.1 r.2)) : zCi sc 142 [.inr (.inr 0), .inl x1, .inl x2, .inl x3] M P := by
  have ea : zarg (zml 142) [.inr (.inr 0), .inl x1, .inl x2, .inl x3] = [some (.inr (.inr 0)), some (.inl x1), some (.inl x2), some (.inl x3)] := by rw [zm_142]; rfl
  unfold zCi zCw
  rw [ea, zr_142]
  have hq : 2 ≤ 2 := Nat.le_refl _
  unfold lX_row at h
  have h := zS_mono h (fun x hx => (⟨x.1, rfl, hx⟩ : ∃ y, (some (.inl x.1) : Option zV) = some (.inl y) ∧ P y x.2))
  skip
  refine E_iload_n (pc := 0) (zDk zD_142_ok 0 rfl) rfl ?_
  obtain ⟨v1, e1, h⟩ := zS_bind h
  refine E_staI (pc := 1) (c := 59) (as := [.inl x1]) (rest := []) (zDk zD_142_ok 1 rfl) zc_142 (by decide +kernel) (by decide +kernel) zk_59 ⟨(Nat.le_of_ble_eq_true rfl), rfl, rfl⟩ (Nat.le_of_ble_eq_true rfl) (zr_59 _) (Nat.lt_of_lt_of_le (by decide) hq) (by rw [zm_59]; exact (Nat.le_of_ble_eq_true rfl)) (ok_lW_isSlot ⟨v1, e1, ?_⟩)
  refine E_if (pc := 4) (t := 22) (zDk zD_142_ok 2 rfl) rfl (fun hz => ?_) (fun hz => ?_)
  · have h := zS_t h (T_eq hz)
    refine E_bipush (pc := 22) (zDk zD_142_ok 11 rfl) (by decide +kernel) ?_
    have h := zS_some h
    exact E_ireturn (pc := 24) (zDk zD_142_ok 12 rfl) zt_142 h
  · have h := zS_f h (F_eq hz)
    refine E_iload_n (pc := 7) (zDk zD_142_ok 3 rfl) rfl ?_
    refine E_if (pc := 8) (t := 22) (zDk zD_142_ok 4 rfl) rfl (fun hz => ?_) (fun hz => ?_)
    · have h := zS_t h (T_lt hz)
      refine E_bipush (pc := 22) (zDk zD_142_ok 11 rfl) (by decide +kernel) ?_
      have h := zS_some h
      exact E_ireturn (pc := 24) (zDk zD_142_ok 12 rfl) zt_142 h
    · have h := zS_f h (Int.not_lt.mpr (F_lt hz))
      refine E_iload_n (pc := 11) (zDk zD_142_ok 5 rfl) rfl ?_
      refine E_iconst (pc := 12) (zDk zD_142_ok 6 rfl) (by decide +kernel) ?_
      refine E_icmp (pc := 13) (t := 22) (zDk zD_142_ok 7 rfl) rfl (fun hz => ?_) (fun hz => ?_)
      · have h := zS_t h (T_gt hz)
        refine E_bipush (pc := 22) (zDk zD_142_ok 11 rfl) (by decide +kernel) ?_
        have h := zS_some h
        exact E_ireturn (pc := 24) (zDk zD_142_ok 12 rfl) zt_142 h
      · have h := zS_f h (Int.not_lt.mpr (F_gt hz))
        refine E_iload_n (pc := 16) (zDk zD_142_ok 8 rfl) rfl ?_
        refine E_bipush (pc := 17) (zDk zD_142_ok 9 rfl) (by decide +kernel) ?_
        refine E_icmp (pc := 19) (t := 25) (zDk zD_142_ok 10 rfl) rfl (fun hz => ?_) (fun hz => ?_)
        · have h := zS_f h (Int.not_lt.mpr (T_le hz))
          refine E_iload_n (pc := 25) (zDk zD_142_ok 13 rfl) rfl ?_
          refine E_if (pc := 26) (t := 32) (zDk zD_142_ok 14 rfl) rfl (fun hz => ?_) (fun hz => ?_)
          · have h := zS_f h (Int.not_lt.mpr (T_ge hz))
            refine E_aload_n (pc := 32) (zDk zD_142_ok 17 rfl) rfl ?_
            refine E_getR (pc := 33) (ci := 7) (f := 7) (r := 97) (zDk zD_142_ok 18 rfl) zc_142 (by decide +kernel) (by decide) zis_7_0 (by decide +kernel) (by decide) ?_
            refine E_iload_n (pc := 36) (zDk zD_142_ok 19 rfl) rfl ?_
            refine E_iload_n (pc := 37) (zDk zD_142_ok 20 rfl) rfl ?_
            refine E_iload_n (pc := 38) (zDk zD_142_ok 21 rfl) rfl ?_
            obtain ⟨M39, e39, h⟩ := zS_bind h
            refine E_virV (pc := 39) (c := 61) (r := 97) (as := [.inl x1, .inl x2, .inl x3]) (rest := []) (zDk zD_142_ok 22 rfl) zc_142 (by decide +kernel) zk_61 ⟨(Nat.le_of_ble_eq_true rfl), rfl, rfl⟩ (Nat.le_of_ble_eq_true rfl) (zr_61 _) (Nat.lt_of_lt_of_le (by decide) hq) (by rw [zm_61]; exact (Nat.le_of_ble_eq_true rfl)) ⟨zc_61, by decide⟩ zis_5_97 (ok_lW_make ⟨M39, e39, ?_⟩)
            refine E_iconst (pc := 42) (zDk zD_142_ok 23 rfl) (by decide +kernel) ?_
            have h := zS_some h
            exact E_ireturn (pc := 43) (zDk zD_142_ok 24 rfl) zt_142 h
          · have h := zS_t h (F_ge hz)
            refine E_bipush (pc := 29) (zDk zD_142_ok 15 rfl) (by decide +kernel) ?_
            have h := zS_some h
            exact E_ireturn (pc := 31) (zDk zD_142_ok 16 rfl) zt_142 h
        · have h := zS_t h (F_le hz)
          refine E_bipush (pc := 22) (zDk zD_142_ok 11 rfl) (by decide +kernel) ?_
          have h := zS_some h
          exact E_ireturn (pc := 24) (zDk zD_142_ok 12 rfl) zt_142 h
def zD_147 : List (Nat × Instr × Nat) := [(0, .sipush (255), 3), (3, .istore_n (3), 1), (4, .iconst (0), 1), (5, .istore (4), 2), (7, .iload (4), 2), (9, .aload_n (0), 1), (10, .getfield (19), 3), (13, .getfield (281), 3), (16, .if_icmp .ge (42), 3), (19, .iload_n (1), 1), (20, .iload (4), 2), (22, .ishr, 1), (23, .iconst (1), 1), (24, .iand, 1), (25, .ifCond .eq (27), 3), (28, .iload_n (3), 1), (29, .aload_n (0), 1), (30, .getfield (38), 3), (33, .getfield (214), 3), (36, .aload_n (0), 1), (37, .getfield (19), 3), (40, .getfield (115), 3), (43, .iload (4), 2), (45, .iaload, 1), (46, .iload_n (2), 1), (47, .invokevirtual (223), 3), (50, .iand, 1), (51, .istore_n (3), 1), (52, .iinc (4) (1), 3), (55, .goto (-48), 3), (58, .iload_n (3), 1), (59, .ireturn, 1)]
set_option maxRecDepth 100000 in
theorem zD_147_ok : zDo 147 zD_147 = true := by decide +kernel
theorem zc_147 : zcls 147 = 7 := by decide +kernel
theorem zm_147 : zml 147 = 5 := by decide +kernel
theorem zt_147 : zrt 147 = (some (.int)) := by decide +kernel
theorem zk_147 : zkd 147 = 1 ∧ znp 147 + 1 = 3 := by decide +kernel
theorem zr_147 (as : List zV) : zrk 147 as = 2 := by unfold zrk; rw [if_neg (by decide)]; decide +kernel
def lX_cornersForAll_c7 (x1 : Int) (x2 : Int) (M : Nat → Nat → Int) : Nat → Int → Int → Option Int
  | 0, _, _ => none
  | n + 1, y3, y4 =>
    (if y4 < (M 3 7) then
    (if (zand (zshr x1 y4) (1 : Int)) = 0 then
    ((lX_cornersForAll_c7 x1 x2 M n) y3 (w32 (y4 + 1)))
    else
    ((rdI 7 y4 M).bind (fun v45 =>
    ((lN_within 30 v45 x2 M).bind (fun v47 =>
    ((lX_cornersForAll_c7 x1 x2 M n) (zand y3 v47) (w32 (y4 + 1))))))))
    else
    (some y3))
set_option maxRecDepth 100000 in
theorem ok_lX_cornersForAll_c7 {sc : zSc} {q : Nat} {P : Option zV → (Nat → Nat → Int) → Prop} (hq : 2 ≤ q) (x1 : Int) (x2 : Int) (M : Nat → Nat → Int) : ∀ (n : Nat) (y3 : Int) (y4 : Int), zS (lX_cornersForAll_c7 x1 x2 M n y3 y4) (fun x => P (some (.inl x)) M) → zWp sc q 147 7 [some (.inr (.inr 0)), some (.inl x1), some (.inl x2), some (.inl y3), some (.inl y4)] [] M P := by
  intro n
  induction n with
  | zero => intro y3 y4 h; exact (zS_none h).elim
  | succ n ih =>
    intro y3 y4 h
    rw [lX_cornersForAll_c7] at h
    refine E_iload (pc := 7) (zDk zD_147_ok 4 rfl) rfl ?_
    refine E_aload_n (pc := 9) (zDk zD_147_ok 5 rfl) rfl ?_
    refine E_getR (pc := 10) (ci := 7) (f := 1) (r := 3) (zDk zD_147_ok 6 rfl) zc_147 (by decide +kernel) (by decide) zis_7_0 (by decide +kernel) (by decide) ?_
    refine E_getI (pc := 13) (ci := 6) (f := 7) (zDk zD_147_ok 7 rfl) zc_147 (by decide +kernel) (by decide) zis_6_3 ?_
    refine E_icmp (pc := 16) (t := 58) (zDk zD_147_ok 8 rfl) rfl (fun hz => ?_) (fun hz => ?_)
    · have h := zS_f h (Int.not_lt.mpr (T_ge hz))
      refine E_iload_n (pc := 58) (zDk zD_147_ok 30 rfl) rfl ?_
      have h := zS_some h
      exact E_ireturn (pc := 59) (zDk zD_147_ok 31 rfl) zt_147 h
    · have h := zS_t h (F_ge hz)
      refine E_iload_n (pc := 19) (zDk zD_147_ok 9 rfl) rfl ?_
      refine E_iload (pc := 20) (zDk zD_147_ok 10 rfl) rfl ?_
      refine E_ishr (pc := 22) (zDk zD_147_ok 11 rfl) ?_
      refine E_iconst (pc := 23) (zDk zD_147_ok 12 rfl) (by decide +kernel) ?_
      refine E_iand (pc := 24) (zDk zD_147_ok 13 rfl) ?_
      refine E_if (pc := 25) (t := 52) (zDk zD_147_ok 14 rfl) rfl (fun hz => ?_) (fun hz => ?_)
      · have h := zS_t h (T_eq hz)
        refine W_iinc (pc := 52) (L' := [some (.inr (.inr 0)), some (.inl x1), some (.inl x2), some (.inl y3), some (.inl (w32 (y4 + 1)))]) (zDk zD_147_ok 28 rfl) rfl zm_147 (by decide) rfl ?_
        refine E_goto (pc := 55) (t := 7) (zDk zD_147_ok 29 rfl) rfl ?_
        exact (ih) y3 (w32 (y4 + 1)) h
      · have h := zS_f h (F_eq hz)
        refine E_iload_n (pc := 28) (zDk zD_147_ok 15 rfl) rfl ?_
        refine E_aload_n (pc := 29) (zDk zD_147_ok 16 rfl) rfl ?_
        refine E_getR (pc := 30) (ci := 7) (f := 4) (r := 29) (zDk zD_147_ok 17 rfl) zc_147 (by decide +kernel) (by decide) zis_7_0 (by decide +kernel) (by decide) ?_
        refine E_getR (pc := 33) (ci := 1) (f := 2) (r := 30) (zDk zD_147_ok 18 rfl) zc_147 (by decide +kernel) (by decide) zis_1_29 (by decide +kernel) (by decide) ?_
        refine E_aload_n (pc := 36) (zDk zD_147_ok 19 rfl) rfl ?_
        refine E_getR (pc := 37) (ci := 7) (f := 1) (r := 3) (zDk zD_147_ok 20 rfl) zc_147 (by decide +kernel) (by decide) zis_7_0 (by decide +kernel) (by decide) ?_
        refine E_getR (pc := 40) (ci := 6) (f := 12) (r := 7) (zDk zD_147_ok 21 rfl) zc_147 (by decide +kernel) (by decide) zis_6_3 (by decide +kernel) (by decide) ?_
        refine E_iload (pc := 43) (zDk zD_147_ok 22 rfl) rfl ?_
        obtain ⟨v45, e45, h⟩ := zS_bind h
        refine E_iaload (pc := 45) (zDk zD_147_ok 23 rfl) e45 ?_
        refine E_iload_n (pc := 46) (zDk zD_147_ok 24 rfl) rfl ?_
        obtain ⟨v47, e47, h⟩ := zS_bind h
        refine E_virI (pc := 47) (c := 39) (r := 30) (as := [.inl v45, .inl x2]) (rest := [.inl y3]) (zDk zD_147_ok 25 rfl) zc_147 (by decide +kernel) zk_39 ⟨(Nat.le_of_ble_eq_true rfl), rfl, rfl⟩ (Nat.le_of_ble_eq_true rfl) (zr_39 _) (Nat.lt_of_lt_of_le (by decide) hq) (by rw [zm_39]; exact (Nat.le_of_ble_eq_true rfl)) ⟨zc_39, by decide⟩ zis_3_30 (ok_lN_within ⟨v47, e47, ?_⟩)
        refine E_iand (pc := 50) (zDk zD_147_ok 26 rfl) ?_
        refine W_istore_n (pc := 51) (L' := [some (.inr (.inr 0)), some (.inl x1), some (.inl x2), some (.inl (zand y3 v47)), some (.inl y4)]) (zDk zD_147_ok 27 rfl) zm_147 (by decide) rfl ?_
        refine W_iinc (pc := 52) (L' := [some (.inr (.inr 0)), some (.inl x1), some (.inl x2), some (.inl (zand y3 v47)), some (.inl (w32 (y4 + 1)))]) (zDk zD_147_ok 28 rfl) rfl zm_147 (by decide) rfl ?_
        refine E_goto (pc := 55) (t := 7) (zDk zD_147_ok 29 rfl) rfl ?_
        exact (ih) (zand y3 v47) (w32 (y4 + 1)) h
def lX_cornersForAll (x1 : Int) (x2 : Int) (M : Nat → Nat → Int) : Option Int :=
    (lX_cornersForAll_c7 x1 x2 M zN (255 : Int) (0 : Int))
set_option maxRecDepth 100000 in
theorem ok_lX_cornersForAll {sc : zSc} {x1 : Int} {x2 : Int} {M : Nat → Nat → Int} {P : Int → (Nat → Nat → Int) → Prop} (h : zS (lX_cornersForAll x1 x2 M) (fun x => P x M)) : zCi sc 147 [.inr (.inr 0), .inl x1, .inl x2] M P := by
  have ea : zarg (zml 147) [.inr (.inr 0), .inl x1, .inl x2] = [some (.inr (.inr 0)), some (.inl x1), some (.inl x2), none, none] := by rw [zm_147]; rfl
  unfold zCi zCw
  rw [ea, zr_147]
  have hq : 2 ≤ 2 := Nat.le_refl _
  unfold lX_cornersForAll at h
  have h := zS_mono h (fun x hx => (⟨x, rfl, hx⟩ : ∃ y, (some (.inl x) : Option zV) = some (.inl y) ∧ P y M))
  skip
  refine E_sipush (pc := 0) (zDk zD_147_ok 0 rfl) (by decide +kernel) ?_
  refine W_istore_n (pc := 3) (L' := [some (.inr (.inr 0)), some (.inl x1), some (.inl x2), some (.inl (255 : Int)), none]) (zDk zD_147_ok 1 rfl) zm_147 (by decide) rfl ?_
  refine E_iconst (pc := 4) (zDk zD_147_ok 2 rfl) (by decide +kernel) ?_
  refine W_istore (pc := 5) (L' := [some (.inr (.inr 0)), some (.inl x1), some (.inl x2), some (.inl (255 : Int)), some (.inl (0 : Int))]) (zDk zD_147_ok 3 rfl) zm_147 (by decide) rfl ?_
  exact ok_lX_cornersForAll_c7 hq x1 x2 M zN (255 : Int) (0 : Int) h
def zD_151 : List (Nat × Instr × Nat) := [(0, .aload_n (0), 1), (1, .getfield (42), 3), (4, .getfield (214), 3), (7, .aload_n (0), 1), (8, .getfield (19), 3), (11, .aload_n (0), 1), (12, .getfield (29), 3), (15, .getfield (103), 3), (18, .iload_n (1), 1), (19, .ior, 1), (20, .invokevirtual (390), 3), (23, .aload_n (0), 1), (24, .getfield (42), 3), (27, .getfield (214), 3), (30, .iload_n (2), 1), (31, .bipush (8), 2), (33, .invokevirtual (223), 3), (36, .iload_n (3), 1), (37, .ishr, 1), (38, .iconst (1), 1), (39, .iand, 1), (40, .ifCond .ne (7), 3), (43, .iconst (1), 1), (44, .goto (4), 3), (47, .iconst (0), 1), (48, .ireturn, 1)]
set_option maxRecDepth 100000 in
theorem zD_151_ok : zDo 151 zD_151 = true := by decide +kernel
theorem zc_151 : zcls 151 = 7 := by decide +kernel
theorem zm_151 : zml 151 = 4 := by decide +kernel
theorem zt_151 : zrt 151 = (some (.boolean)) := by decide +kernel
theorem zk_151 : zkd 151 = 1 ∧ znp 151 + 1 = 4 := by decide +kernel
theorem zr_151 (as : List zV) : zrk 151 as = 2 := by unfold zrk; rw [if_neg (by decide)]; decide +kernel
def lX_isCutBy (x1 : Int) (x2 : Int) (x3 : Int) (M : Nat → Nat → Int) : Option (Int × (Nat → Nat → Int)) :=
    ((lN_build 38 3 (zor (M 23 1) x1) M).bind (fun M20 =>
    ((lN_within 38 x2 (8 : Int) M20).bind (fun v33 =>
    (if (zand (zshr v33 x3) (1 : Int)) = 0 then
    (some ((1 : Int), M20))
    else
    (some ((0 : Int), M20)))))))
set_option maxRecDepth 100000 in
theorem ok_lX_isCutBy {sc : zSc} {x1 : Int} {x2 : Int} {x3 : Int} {M : Nat → Nat → Int} {P : Int → (Nat → Nat → Int) → Prop} (h : zS (lX_isCutBy x1 x2 x3 M) (fun r => P r.1 r.2)) : zCi sc 151 [.inr (.inr 0), .inl x1, .inl x2, .inl x3] M P := by
  have ea : zarg (zml 151) [.inr (.inr 0), .inl x1, .inl x2, .inl x3] = [some (.inr (.inr 0)), some (.inl x1), some (.inl x2), some (.inl x3)] := by rw [zm_151]; rfl
  unfold zCi zCw
  rw [ea, zr_151]
  have hq : 2 ≤ 2 := Nat.le_refl _
  unfold lX_isCutBy at h
  have h := zS_mono h (fun x hx => (⟨x.1, rfl, hx⟩ : ∃ y, (some (.inl x.1) : Option zV) = some (.inl y) ∧ P y x.2))
  skip
  refine E_aload_n (pc := 0) (zDk zD_151_ok 0 rfl) rfl ?_
  refine E_getR (pc := 1) (ci := 7) (f := 5) (r := 37) (zDk zD_151_ok 1 rfl) zc_151 (by decide +kernel) (by decide) zis_7_0 (by decide +kernel) (by decide) ?_
  refine E_getR (pc := 4) (ci := 1) (f := 2) (r := 38) (zDk zD_151_ok 2 rfl) zc_151 (by decide +kernel) (by decide) zis_1_37 (by decide +kernel) (by decide) ?_
  refine E_aload_n (pc := 7) (zDk zD_151_ok 3 rfl) rfl ?_
  refine E_getR (pc := 8) (ci := 7) (f := 1) (r := 3) (zDk zD_151_ok 4 rfl) zc_151 (by decide +kernel) (by decide) zis_7_0 (by decide +kernel) (by decide) ?_
  refine E_aload_n (pc := 11) (zDk zD_151_ok 5 rfl) rfl ?_
  refine E_getR (pc := 12) (ci := 7) (f := 3) (r := 23) (zDk zD_151_ok 6 rfl) zc_151 (by decide +kernel) (by decide) zis_7_0 (by decide +kernel) (by decide) ?_
  refine E_getI (pc := 15) (ci := 0) (f := 1) (zDk zD_151_ok 7 rfl) zc_151 (by decide +kernel) (by decide) zis_0_23 ?_
  refine E_iload_n (pc := 18) (zDk zD_151_ok 8 rfl) rfl ?_
  refine E_ior (pc := 19) (zDk zD_151_ok 9 rfl) ?_
  obtain ⟨M20, e20, h⟩ := zS_bind h
  refine E_virV (pc := 20) (c := 36) (r := 38) (as := [.inr (.inr 3), .inl (zor (M 23 1) x1)]) (rest := []) (zDk zD_151_ok 10 rfl) zc_151 (by decide +kernel) zk_36 ⟨(Nat.le_of_ble_eq_true rfl), rfl, rfl⟩ (Nat.le_of_ble_eq_true rfl) (zr_36 _) (Nat.lt_of_lt_of_le (by decide) hq) (by rw [zm_36]; exact (Nat.le_of_ble_eq_true rfl)) ⟨zc_36, by decide⟩ zis_3_38 (ok_lN_build ⟨M20, e20, ?_⟩)
  refine E_aload_n (pc := 23) (zDk zD_151_ok 11 rfl) rfl ?_
  refine E_getR (pc := 24) (ci := 7) (f := 5) (r := 37) (zDk zD_151_ok 12 rfl) zc_151 (by decide +kernel) (by decide) zis_7_0 (by decide +kernel) (by decide) ?_
  refine E_getR (pc := 27) (ci := 1) (f := 2) (r := 38) (zDk zD_151_ok 13 rfl) zc_151 (by decide +kernel) (by decide) zis_1_37 (by decide +kernel) (by decide) ?_
  refine E_iload_n (pc := 30) (zDk zD_151_ok 14 rfl) rfl ?_
  refine E_bipush (pc := 31) (zDk zD_151_ok 15 rfl) (by decide +kernel) ?_
  obtain ⟨v33, e33, h⟩ := zS_bind h
  refine E_virI (pc := 33) (c := 39) (r := 38) (as := [.inl x2, .inl (8 : Int)]) (rest := []) (zDk zD_151_ok 16 rfl) zc_151 (by decide +kernel) zk_39 ⟨(Nat.le_of_ble_eq_true rfl), rfl, rfl⟩ (Nat.le_of_ble_eq_true rfl) (zr_39 _) (Nat.lt_of_lt_of_le (by decide) hq) (by rw [zm_39]; exact (Nat.le_of_ble_eq_true rfl)) ⟨zc_39, by decide⟩ zis_3_38 (ok_lN_within ⟨v33, e33, ?_⟩)
  refine E_iload_n (pc := 36) (zDk zD_151_ok 17 rfl) rfl ?_
  refine E_ishr (pc := 37) (zDk zD_151_ok 18 rfl) ?_
  refine E_iconst (pc := 38) (zDk zD_151_ok 19 rfl) (by decide +kernel) ?_
  refine E_iand (pc := 39) (zDk zD_151_ok 20 rfl) ?_
  refine E_if (pc := 40) (t := 47) (zDk zD_151_ok 21 rfl) rfl (fun hz => ?_) (fun hz => ?_)
  · have h := zS_f h (T_ne hz)
    refine E_iconst (pc := 47) (zDk zD_151_ok 24 rfl) (by decide +kernel) ?_
    have h := zS_some h
    exact E_ireturnZ (pc := 48) (zDk zD_151_ok 25 rfl) zt_151 (by decide) h
  · have h := zS_t h (F_ne hz)
    refine E_iconst (pc := 43) (zDk zD_151_ok 22 rfl) (by decide +kernel) ?_
    refine E_goto (pc := 44) (t := 48) (zDk zD_151_ok 23 rfl) rfl ?_
    have h := zS_some h
    exact E_ireturnZ (pc := 48) (zDk zD_151_ok 25 rfl) zt_151 (by decide) h
def zD_160 : List (Nat × Instr × Nat) := [(0, .iconst (-1), 1), (1, .istore_n (2), 1), (2, .iload_n (1), 1), (3, .invokestatic (183), 3), (6, .istore_n (3), 1), (7, .iconst (0), 1), (8, .istore (4), 2), (10, .iload (4), 2), (12, .aload_n (0), 1), (13, .getfield (19), 3), (16, .getfield (177), 3), (19, .if_icmp .gt (30), 3), (22, .aload_n (0), 1), (23, .iload_n (1), 1), (24, .iload (4), 2), (26, .invokevirtual (272), 3), (29, .istore (5), 2), (31, .iload (5), 2), (33, .iload_n (3), 1), (34, .if_icmp .ge (9), 3), (37, .iload (4), 2), (39, .istore_n (2), 1), (40, .iload (5), 2), (42, .istore_n (3), 1), (43, .iinc (4) (1), 3), (46, .goto (-36), 3), (49, .iload_n (2), 1), (50, .ireturn, 1)]
set_option maxRecDepth 100000 in
theorem zD_160_ok : zDo 160 zD_160 = true := by decide +kernel
theorem zc_160 : zcls 160 = 7 := by decide +kernel
theorem zm_160 : zml 160 = 6 := by decide +kernel
theorem zt_160 : zrt 160 = (some (.int)) := by decide +kernel
theorem zk_160 : zkd 160 = 1 ∧ znp 160 + 1 = 2 := by decide +kernel
theorem zr_160 (as : List zV) : zrk 160 as = 2 := by unfold zrk; rw [if_neg (by decide)]; decide +kernel
def lX_stepToAsk_c10 (x1 : Int) (M : Nat → Nat → Int) : Nat → Int → Int → Int → Option Int
  | 0, _, _, _ => none
  | n + 1, y2, y3, y4 =>
    (if (M 3 1) < y4 then
    (some y2)
    else
    ((lX_homesLeft x1 y4 M).bind (fun v26 =>
    (if v26 < y3 then
    ((lX_stepToAsk_c10 x1 M n) y4 v26 (w32 (y4 + 1)))
    else
    ((lX_stepToAsk_c10 x1 M n) y2 y3 (w32 (y4 + 1)))))))
set_option maxRecDepth 100000 in
theorem ok_lX_stepToAsk_c10 {sc : zSc} {q : Nat} {P : Option zV → (Nat → Nat → Int) → Prop} (hq : 2 ≤ q) (x1 : Int) (M : Nat → Nat → Int) : ∀ (n : Nat) (y2 : Int) (y3 : Int) (y4 : Int) (d5 : Option zV), zS (lX_stepToAsk_c10 x1 M n y2 y3 y4) (fun x => P (some (.inl x)) M) → zWp sc q 160 10 [some (.inr (.inr 0)), some (.inl x1), some (.inl y2), some (.inl y3), some (.inl y4), d5] [] M P := by
  intro n
  induction n with
  | zero => intro y2 y3 y4 d5 h; exact (zS_none h).elim
  | succ n ih =>
    intro y2 y3 y4 d5 h
    rw [lX_stepToAsk_c10] at h
    refine E_iload (pc := 10) (zDk zD_160_ok 7 rfl) rfl ?_
    refine E_aload_n (pc := 12) (zDk zD_160_ok 8 rfl) rfl ?_
    refine E_getR (pc := 13) (ci := 7) (f := 1) (r := 3) (zDk zD_160_ok 9 rfl) zc_160 (by decide +kernel) (by decide) zis_7_0 (by decide +kernel) (by decide) ?_
    refine E_getI (pc := 16) (ci := 6) (f := 1) (zDk zD_160_ok 10 rfl) zc_160 (by decide +kernel) (by decide) zis_6_3 ?_
    refine E_icmp (pc := 19) (t := 49) (zDk zD_160_ok 11 rfl) rfl (fun hz => ?_) (fun hz => ?_)
    · have h := zS_t h (T_gt hz)
      refine E_iload_n (pc := 49) (zDk zD_160_ok 26 rfl) rfl ?_
      have h := zS_some h
      exact E_ireturn (pc := 50) (zDk zD_160_ok 27 rfl) zt_160 h
    · have h := zS_f h (Int.not_lt.mpr (F_gt hz))
      refine E_aload_n (pc := 22) (zDk zD_160_ok 12 rfl) rfl ?_
      refine E_iload_n (pc := 23) (zDk zD_160_ok 13 rfl) rfl ?_
      refine E_iload (pc := 24) (zDk zD_160_ok 14 rfl) rfl ?_
      obtain ⟨v26, e26, h⟩ := zS_bind h
      refine E_virI (pc := 26) (c := 161) (r := 0) (as := [.inl x1, .inl y4]) (rest := []) (zDk zD_160_ok 15 rfl) zc_160 (by decide +kernel) zk_161 ⟨(Nat.le_of_ble_eq_true rfl), rfl, rfl⟩ (Nat.le_of_ble_eq_true rfl) (zr_161 _) (Nat.lt_of_lt_of_le (by decide) hq) (by rw [zm_161]; exact (Nat.le_of_ble_eq_true rfl)) ⟨zc_161, by decide⟩ zis_7_0 (ok_lX_homesLeft ⟨v26, e26, ?_⟩)
      refine W_istore (pc := 29) (L' := [some (.inr (.inr 0)), some (.inl x1), some (.inl y2), some (.inl y3), some (.inl y4), some (.inl v26)]) (zDk zD_160_ok 16 rfl) zm_160 (by decide) rfl ?_
      refine E_iload (pc := 31) (zDk zD_160_ok 17 rfl) rfl ?_
      refine E_iload_n (pc := 33) (zDk zD_160_ok 18 rfl) rfl ?_
      refine E_icmp (pc := 34) (t := 43) (zDk zD_160_ok 19 rfl) rfl (fun hz => ?_) (fun hz => ?_)
      · have h := zS_f h (Int.not_lt.mpr (T_ge hz))
        refine W_iinc (pc := 43) (L' := [some (.inr (.inr 0)), some (.inl x1), some (.inl y2), some (.inl y3), some (.inl (w32 (y4 + 1))), some (.inl v26)]) (zDk zD_160_ok 24 rfl) rfl zm_160 (by decide) rfl ?_
        refine E_goto (pc := 46) (t := 10) (zDk zD_160_ok 25 rfl) rfl ?_
        exact (ih) y2 y3 (w32 (y4 + 1)) (some (.inl v26)) h
      · have h := zS_t h (F_ge hz)
        refine E_iload (pc := 37) (zDk zD_160_ok 20 rfl) rfl ?_
        refine W_istore_n (pc := 39) (L' := [some (.inr (.inr 0)), some (.inl x1), some (.inl y4), some (.inl y3), some (.inl y4), some (.inl v26)]) (zDk zD_160_ok 21 rfl) zm_160 (by decide) rfl ?_
        refine E_iload (pc := 40) (zDk zD_160_ok 22 rfl) rfl ?_
        refine W_istore_n (pc := 42) (L' := [some (.inr (.inr 0)), some (.inl x1), some (.inl y4), some (.inl v26), some (.inl y4), some (.inl v26)]) (zDk zD_160_ok 23 rfl) zm_160 (by decide) rfl ?_
        refine W_iinc (pc := 43) (L' := [some (.inr (.inr 0)), some (.inl x1), some (.inl y4), some (.inl v26), some (.inl (w32 (y4 + 1))), some (.inl v26)]) (zDk zD_160_ok 24 rfl) rfl zm_160 (by decide) rfl ?_
        refine E_goto (pc := 46) (t := 10) (zDk zD_160_ok 25 rfl) rfl ?_
        exact (ih) y4 v26 (w32 (y4 + 1)) (some (.inl v26)) h
def lX_stepToAsk (x1 : Int) (M : Nat → Nat → Int) : Option Int :=
    ((lJ_bitCount x1 M).bind (fun v3 =>
    (lX_stepToAsk_c10 x1 M zN (-1 : Int) v3 (0 : Int))))
set_option maxRecDepth 100000 in
theorem ok_lX_stepToAsk {sc : zSc} {x1 : Int} {M : Nat → Nat → Int} {P : Int → (Nat → Nat → Int) → Prop} (h : zS (lX_stepToAsk x1 M) (fun x => P x M)) : zCi sc 160 [.inr (.inr 0), .inl x1] M P := by
  have ea : zarg (zml 160) [.inr (.inr 0), .inl x1] = [some (.inr (.inr 0)), some (.inl x1), none, none, none, none] := by rw [zm_160]; rfl
  unfold zCi zCw
  rw [ea, zr_160]
  have hq : 2 ≤ 2 := Nat.le_refl _
  unfold lX_stepToAsk at h
  have h := zS_mono h (fun x hx => (⟨x, rfl, hx⟩ : ∃ y, (some (.inl x) : Option zV) = some (.inl y) ∧ P y M))
  skip
  refine E_iconst (pc := 0) (zDk zD_160_ok 0 rfl) (by decide +kernel) ?_
  refine W_istore_n (pc := 1) (L' := [some (.inr (.inr 0)), some (.inl x1), some (.inl (-1 : Int)), none, none, none]) (zDk zD_160_ok 1 rfl) zm_160 (by decide) rfl ?_
  refine E_iload_n (pc := 2) (zDk zD_160_ok 2 rfl) rfl ?_
  obtain ⟨v3, e3, h⟩ := zS_bind h
  refine E_staI (pc := 3) (c := 321) (as := [.inl x1]) (rest := []) (zDk zD_160_ok 3 rfl) zc_160 (by decide +kernel) (by decide +kernel) zk_321 ⟨(Nat.le_of_ble_eq_true rfl), rfl, rfl⟩ (Nat.le_of_ble_eq_true rfl) (zr_321 _) (Nat.lt_of_lt_of_le (by decide) hq) (by rw [zm_321]; exact (Nat.le_of_ble_eq_true rfl)) (ok_lJ_bitCount ⟨v3, e3, ?_⟩)
  refine W_istore_n (pc := 6) (L' := [some (.inr (.inr 0)), some (.inl x1), some (.inl (-1 : Int)), some (.inl v3), none, none]) (zDk zD_160_ok 4 rfl) zm_160 (by decide) rfl ?_
  refine E_iconst (pc := 7) (zDk zD_160_ok 5 rfl) (by decide +kernel) ?_
  refine W_istore (pc := 8) (L' := [some (.inr (.inr 0)), some (.inl x1), some (.inl (-1 : Int)), some (.inl v3), some (.inl (0 : Int)), none]) (zDk zD_160_ok 6 rfl) zm_160 (by decide) rfl ?_
  exact ok_lX_stepToAsk_c10 hq x1 M zN (-1 : Int) v3 (0 : Int) none h
def zD_167 : List (Nat × Instr × Nat) := [(0, .aload_n (0), 1), (1, .getfield (19), 3), (4, .iload_n (1), 1), (5, .invokevirtual (136), 3), (8, .ifCond .eq (24), 3), (11, .iload_n (1), 1), (12, .aload_n (0), 1), (13, .getfield (19), 3), (16, .getfield (177), 3), (19, .if_icmp .ge (13), 3), (22, .iload_n (1), 1), (23, .bipush (7), 2), (25, .if_icmp .gt (7), 3), (28, .iconst (1), 1), (29, .goto (4), 3), (32, .iconst (0), 1), (33, .ireturn, 1)]
set_option maxRecDepth 100000 in
theorem zD_167_ok : zDo 167 zD_167 = true := by decide +kernel
theorem zc_167 : zcls 167 = 7 := by decide +kernel
theorem zm_167 : zml 167 = 2 := by decide +kernel
theorem zt_167 : zrt 167 = (some (.boolean)) := by decide +kernel
theorem zk_167 : zkd 167 = 1 ∧ znp 167 + 1 = 2 := by decide +kernel
theorem zr_167 (as : List zV) : zrk 167 as = 2 := by unfold zrk; rw [if_neg (by decide)]; decide +kernel
def lX_canRainTo (x1 : Int) (M : Nat → Nat → Int) : Option Int :=
    ((lT_hasStep 3 x1 M).bind (fun v5 =>
    (if v5 = 0 then
    (some (0 : Int))
    else
    (if x1 < (M 3 1) then
    (if (7 : Int) < x1 then
    (some (0 : Int))
    else
    (some (1 : Int)))
    else
    (some (0 : Int))))))
set_option maxRecDepth 100000 in
theorem ok_lX_canRainTo {sc : zSc} {x1 : Int} {M : Nat → Nat → Int} {P : Int → (Nat → Nat → Int) → Prop} (h : zS (lX_canRainTo x1 M) (fun x => P x M)) : zCi sc 167 [.inr (.inr 0), .inl x1] M P := by
  have ea : zarg (zml 167) [.inr (.inr 0), .inl x1] = [some (.inr (.inr 0)), some (.inl x1)] := by rw [zm_167]; rfl
  unfold zCi zCw
  rw [ea, zr_167]
  have hq : 2 ≤ 2 := Nat.le_refl _
  unfold lX_canRainTo at h
  have h := zS_mono h (fun x hx => (⟨x, rfl, hx⟩ : ∃ y, (some (.inl x) : Option zV) = some (.inl y) ∧ P y M))
  skip
  refine E_aload_n (pc := 0) (zDk zD_167_ok 0 rfl) rfl ?_
  refine E_getR (pc := 1) (ci := 7) (f := 1) (r := 3) (zDk zD_167_ok 1 rfl) zc_167 (by decide +kernel) (by decide) zis_7_0 (by decide +kernel) (by decide) ?_
  refine E_iload_n (pc := 4) (zDk zD_167_ok 2 rfl) rfl ?_
  obtain ⟨v5, e5, h⟩ := zS_bind h
  refine E_virI (pc := 5) (c := 71) (r := 3) (as := [.inl x1]) (rest := []) (zDk zD_167_ok 3 rfl) zc_167 (by decide +kernel) zk_71 ⟨(Nat.le_of_ble_eq_true rfl), rfl, rfl⟩ (Nat.le_of_ble_eq_true rfl) (zr_71 _) (Nat.lt_of_lt_of_le (by decide) hq) (by rw [zm_71]; exact (Nat.le_of_ble_eq_true rfl)) ⟨zc_71, by decide⟩ zis_6_3 (ok_lT_hasStep ⟨v5, e5, ?_⟩)
  refine E_if (pc := 8) (t := 32) (zDk zD_167_ok 4 rfl) rfl (fun hz => ?_) (fun hz => ?_)
  · have h := zS_t h (T_eq hz)
    refine E_iconst (pc := 32) (zDk zD_167_ok 15 rfl) (by decide +kernel) ?_
    have h := zS_some h
    exact E_ireturnZ (pc := 33) (zDk zD_167_ok 16 rfl) zt_167 (by decide) h
  · have h := zS_f h (F_eq hz)
    refine E_iload_n (pc := 11) (zDk zD_167_ok 5 rfl) rfl ?_
    refine E_aload_n (pc := 12) (zDk zD_167_ok 6 rfl) rfl ?_
    refine E_getR (pc := 13) (ci := 7) (f := 1) (r := 3) (zDk zD_167_ok 7 rfl) zc_167 (by decide +kernel) (by decide) zis_7_0 (by decide +kernel) (by decide) ?_
    refine E_getI (pc := 16) (ci := 6) (f := 1) (zDk zD_167_ok 8 rfl) zc_167 (by decide +kernel) (by decide) zis_6_3 ?_
    refine E_icmp (pc := 19) (t := 32) (zDk zD_167_ok 9 rfl) rfl (fun hz => ?_) (fun hz => ?_)
    · have h := zS_f h (Int.not_lt.mpr (T_ge hz))
      refine E_iconst (pc := 32) (zDk zD_167_ok 15 rfl) (by decide +kernel) ?_
      have h := zS_some h
      exact E_ireturnZ (pc := 33) (zDk zD_167_ok 16 rfl) zt_167 (by decide) h
    · have h := zS_t h (F_ge hz)
      refine E_iload_n (pc := 22) (zDk zD_167_ok 10 rfl) rfl ?_
      refine E_bipush (pc := 23) (zDk zD_167_ok 11 rfl) (by decide +kernel) ?_
      refine E_icmp (pc := 25) (t := 32) (zDk zD_167_ok 12 rfl) rfl (fun hz => ?_) (fun hz => ?_)
      · have h := zS_t h (T_gt hz)
        refine E_iconst (pc := 32) (zDk zD_167_ok 15 rfl) (by decide +kernel) ?_
        have h := zS_some h
        exact E_ireturnZ (pc := 33) (zDk zD_167_ok 16 rfl) zt_167 (by decide) h
      · have h := zS_f h (Int.not_lt.mpr (F_gt hz))
        refine E_iconst (pc := 28) (zDk zD_167_ok 13 rfl) (by decide +kernel) ?_
        refine E_goto (pc := 29) (t := 33) (zDk zD_167_ok 14 rfl) rfl ?_
        have h := zS_some h
        exact E_ireturnZ (pc := 33) (zDk zD_167_ok 16 rfl) zt_167 (by decide) h
def zD_201 : List (Nat × Instr × Nat) := [(0, .aload_n (0), 1), (1, .invokevirtual (143), 3), (4, .ifCond .eq (16), 3), (7, .aload_n (0), 1), (8, .getfield (119), 3), (11, .iconst (2), 1), (12, .if_icmp .eq (8), 3), (15, .aload_n (0), 1), (16, .iconst (1), 1), (17, .invokevirtual (165), 3), (20, .aload_n (0), 1), (21, .invokevirtual (143), 3), (24, .ifCond .eq (23), 3), (27, .aload_n (0), 1), (28, .getfield (130), 3), (31, .i2l, 1), (32, .iload_n (1), 1), (33, .i2l, 1), (34, .iload_n (2), 1), (35, .i2l, 1), (36, .invokestatic (91), 3), (39, .ifCond .ne (8), 3), (42, .aload_n (0), 1), (43, .iconst (2), 1), (44, .invokevirtual (165), 3), (47, .aload_n (0), 1), (48, .invokevirtual (143), 3), (51, .ifCond .ne (5), 3), (54, .iconst (0), 1), (55, .ireturn, 1), (56, .aload_n (0), 1), (57, .getfield (130), 3), (60, .istore_n (3), 1), (61, .aload_n (0), 1), (62, .invokevirtual (159), 3), (65, .iload_n (3), 1), (66, .ireturn, 1)]
set_option maxRecDepth 100000 in
theorem zD_201_ok : zDo 201 zD_201 = true := by decide +kernel
theorem zc_201 : zcls 201 = 8 := by decide +kernel
theorem zm_201 : zml 201 = 4 := by decide +kernel
theorem zt_201 : zrt 201 = (some (.int)) := by decide +kernel
theorem zk_201 : zkd 201 = 1 ∧ znp 201 + 1 = 3 := by decide +kernel
theorem zr_201 (as : List zV) : zrk 201 as = 2 := by unfold zrk; rw [if_neg (by decide)]; decide +kernel
def lm_number_c47 (x1 : Int) (x2 : Int) (M : Nat → Nat → Int) : Option (Int × (Nat → Nat → Int)) :=
    ((lm_good M).bind (fun v48 =>
    (if v48 = 0 then
    (some ((0 : Int), M))
    else
    ((lm_advance M).bind (fun M62 =>
    (some ((M 106 11), M62)))))))
set_option maxRecDepth 100000 in
theorem ok_lm_number_c47 {sc : zSc} {q : Nat} {P : Option zV → (Nat → Nat → Int) → Prop} (hq : 2 ≤ q) (x1 : Int) (x2 : Int) : ∀ (M : Nat → Nat → Int) (d3 : Option zV), zS (lm_number_c47 x1 x2 M) (fun r => P (some (.inl r.1)) r.2) → zWp sc q 201 47 [some (.inr (.inr 106)), some (.inl x1), some (.inl x2), d3] [] M P := by
  intro M d3 h
  unfold lm_number_c47 at h
  refine E_aload_n (pc := 47) (zDk zD_201_ok 25 rfl) rfl ?_
  obtain ⟨v48, e48, h⟩ := zS_bind h
  refine E_virI (pc := 48) (c := 196) (r := 106) (as := []) (rest := []) (zDk zD_201_ok 26 rfl) zc_201 (by decide +kernel) zk_196 ⟨(Nat.le_of_ble_eq_true rfl), rfl, rfl⟩ (Nat.le_of_ble_eq_true rfl) (zr_196 _) (Nat.lt_of_lt_of_le (by decide) hq) (by rw [zm_196]; exact (Nat.le_of_ble_eq_true rfl)) ⟨zc_196, by decide⟩ zis_8_106 (ok_lm_good ⟨v48, e48, ?_⟩)
  refine E_if (pc := 51) (t := 56) (zDk zD_201_ok 27 rfl) rfl (fun hz => ?_) (fun hz => ?_)
  · have h := zS_f h (T_ne hz)
    refine E_aload_n (pc := 56) (zDk zD_201_ok 30 rfl) rfl ?_
    refine E_getI (pc := 57) (ci := 8) (f := 11) (zDk zD_201_ok 31 rfl) zc_201 (by decide +kernel) (by decide) zis_8_106 ?_
    refine W_istore_n (pc := 60) (L' := [some (.inr (.inr 106)), some (.inl x1), some (.inl x2), some (.inl (M 106 11))]) (zDk zD_201_ok 32 rfl) zm_201 (by decide) rfl ?_
    refine E_aload_n (pc := 61) (zDk zD_201_ok 33 rfl) rfl ?_
    obtain ⟨M62, e62, h⟩ := zS_bind h
    refine E_virV (pc := 62) (c := 195) (r := 106) (as := []) (rest := []) (zDk zD_201_ok 34 rfl) zc_201 (by decide +kernel) zk_195 ⟨(Nat.le_of_ble_eq_true rfl), rfl, rfl⟩ (Nat.le_of_ble_eq_true rfl) (zr_195 _) (Nat.lt_of_lt_of_le (by decide) hq) (by rw [zm_195]; exact (Nat.le_of_ble_eq_true rfl)) ⟨zc_195, by decide⟩ zis_8_106 (ok_lm_advance ⟨M62, e62, ?_⟩)
    refine E_iload_n (pc := 65) (zDk zD_201_ok 35 rfl) rfl ?_
    have h := zS_some h
    exact E_ireturn (pc := 66) (zDk zD_201_ok 36 rfl) zt_201 h
  · have h := zS_t h (F_ne hz)
    refine E_iconst (pc := 54) (zDk zD_201_ok 28 rfl) (by decide +kernel) ?_
    have h := zS_some h
    exact E_ireturn (pc := 55) (zDk zD_201_ok 29 rfl) zt_201 h
def lm_number_c20 (x1 : Int) (x2 : Int) (M : Nat → Nat → Int) : Option (Int × (Nat → Nat → Int)) :=
    ((lm_good M).bind (fun v21 =>
    (if v21 = 0 then
    (lm_number_c47 x1 x2 M)
    else
    ((lm_in (M 106 11) x1 x2 M).bind (fun v36 =>
    (if v36 = 0 then
    ((lm_errs (2 : Int) M).bind (fun M44 =>
    (lm_number_c47 x1 x2 M44)))
    else
    (lm_number_c47 x1 x2 M)))))))
set_option maxRecDepth 100000 in
theorem ok_lm_number_c20 {sc : zSc} {q : Nat} {P : Option zV → (Nat → Nat → Int) → Prop} (hq : 2 ≤ q) (x1 : Int) (x2 : Int) : ∀ (M : Nat → Nat → Int) (d3 : Option zV), zS (lm_number_c20 x1 x2 M) (fun r => P (some (.inl r.1)) r.2) → zWp sc q 201 20 [some (.inr (.inr 106)), some (.inl x1), some (.inl x2), d3] [] M P := by
  intro M d3 h
  unfold lm_number_c20 at h
  refine E_aload_n (pc := 20) (zDk zD_201_ok 10 rfl) rfl ?_
  obtain ⟨v21, e21, h⟩ := zS_bind h
  refine E_virI (pc := 21) (c := 196) (r := 106) (as := []) (rest := []) (zDk zD_201_ok 11 rfl) zc_201 (by decide +kernel) zk_196 ⟨(Nat.le_of_ble_eq_true rfl), rfl, rfl⟩ (Nat.le_of_ble_eq_true rfl) (zr_196 _) (Nat.lt_of_lt_of_le (by decide) hq) (by rw [zm_196]; exact (Nat.le_of_ble_eq_true rfl)) ⟨zc_196, by decide⟩ zis_8_106 (ok_lm_good ⟨v21, e21, ?_⟩)
  refine E_if (pc := 24) (t := 47) (zDk zD_201_ok 12 rfl) rfl (fun hz => ?_) (fun hz => ?_)
  · have h := zS_t h (T_eq hz)
    exact ok_lm_number_c47 hq x1 x2 M d3 h
  · have h := zS_f h (F_eq hz)
    refine E_aload_n (pc := 27) (zDk zD_201_ok 13 rfl) rfl ?_
    refine E_getI (pc := 28) (ci := 8) (f := 11) (zDk zD_201_ok 14 rfl) zc_201 (by decide +kernel) (by decide) zis_8_106 ?_
    refine E_i2l (pc := 31) (zDk zD_201_ok 15 rfl) ?_
    refine E_iload_n (pc := 32) (zDk zD_201_ok 16 rfl) rfl ?_
    refine E_i2l (pc := 33) (zDk zD_201_ok 17 rfl) ?_
    refine E_iload_n (pc := 34) (zDk zD_201_ok 18 rfl) rfl ?_
    refine E_i2l (pc := 35) (zDk zD_201_ok 19 rfl) ?_
    obtain ⟨v36, e36, h⟩ := zS_bind h
    refine E_staI (pc := 36) (c := 176) (as := [.inr (.inl (M 106 11)), .inr (.inl x1), .inr (.inl x2)]) (rest := []) (zDk zD_201_ok 20 rfl) zc_201 (by decide +kernel) (by decide +kernel) zk_176 ⟨(Nat.le_of_ble_eq_true rfl), rfl, rfl⟩ (Nat.le_of_ble_eq_true rfl) (zr_176 _) (Nat.lt_of_lt_of_le (by decide) hq) (by rw [zm_176]; exact (Nat.le_of_ble_eq_true rfl)) (ok_lm_in ⟨v36, e36, ?_⟩)
    refine E_if (pc := 39) (t := 47) (zDk zD_201_ok 21 rfl) rfl (fun hz => ?_) (fun hz => ?_)
    · have h := zS_f h (T_ne hz)
      exact ok_lm_number_c47 hq x1 x2 M d3 h
    · have h := zS_t h (F_ne hz)
      refine E_aload_n (pc := 42) (zDk zD_201_ok 22 rfl) rfl ?_
      refine E_iconst (pc := 43) (zDk zD_201_ok 23 rfl) (by decide +kernel) ?_
      obtain ⟨M44, e44, h⟩ := zS_bind h
      refine E_virV (pc := 44) (c := 197) (r := 106) (as := [.inl (2 : Int)]) (rest := []) (zDk zD_201_ok 24 rfl) zc_201 (by decide +kernel) zk_197 ⟨(Nat.le_of_ble_eq_true rfl), rfl, rfl⟩ (Nat.le_of_ble_eq_true rfl) (zr_197 _) (Nat.lt_of_lt_of_le (by decide) hq) (by rw [zm_197]; exact (Nat.le_of_ble_eq_true rfl)) ⟨zc_197, by decide⟩ zis_8_106 (ok_lm_errs ⟨M44, e44, ?_⟩)
      exact ok_lm_number_c47 hq x1 x2 M44 d3 h
def lm_number (x1 : Int) (x2 : Int) (M : Nat → Nat → Int) : Option (Int × (Nat → Nat → Int)) :=
    ((lm_good M).bind (fun v1 =>
    (if v1 = 0 then
    (lm_number_c20 x1 x2 M)
    else
    (if (M 106 10) = (2 : Int) then
    (lm_number_c20 x1 x2 M)
    else
    ((lm_errs (1 : Int) M).bind (fun M17 =>
    (lm_number_c20 x1 x2 M17)))))))
set_option maxRecDepth 100000 in
theorem ok_lm_number {sc : zSc} {x1 : Int} {x2 : Int} {M : Nat → Nat → Int} {P : Int → (Nat → Nat → Int) → Prop} (h : zS (lm_number x1 x2 M) (fun r => P r.1 r.2)) : zCi sc 201 [.inr (.inr 106), .inl x1, .inl x2] M P := by
  have ea : zarg (zml 201) [.inr (.inr 106), .inl x1, .inl x2] = [some (.inr (.inr 106)), some (.inl x1), some (.inl x2), none] := by rw [zm_201]; rfl
  unfold zCi zCw
  rw [ea, zr_201]
  have hq : 2 ≤ 2 := Nat.le_refl _
  unfold lm_number at h
  have h := zS_mono h (fun x hx => (⟨x.1, rfl, hx⟩ : ∃ y, (some (.inl x.1) : Option zV) = some (.inl y) ∧ P y x.2))
  skip
  refine E_aload_n (pc := 0) (zDk zD_201_ok 0 rfl) rfl ?_
  obtain ⟨v1, e1, h⟩ := zS_bind h
  refine E_virI (pc := 1) (c := 196) (r := 106) (as := []) (rest := []) (zDk zD_201_ok 1 rfl) zc_201 (by decide +kernel) zk_196 ⟨(Nat.le_of_ble_eq_true rfl), rfl, rfl⟩ (Nat.le_of_ble_eq_true rfl) (zr_196 _) (Nat.lt_of_lt_of_le (by decide) hq) (by rw [zm_196]; exact (Nat.le_of_ble_eq_true rfl)) ⟨zc_196, by decide⟩ zis_8_106 (ok_lm_good ⟨v1, e1, ?_⟩)
  refine E_if (pc := 4) (t := 20) (zDk zD_201_ok 2 rfl) rfl (fun hz => ?_) (fun hz => ?_)
  · have h := zS_t h (T_eq hz)
    exact ok_lm_number_c20 hq x1 x2 M none h
  · have h := zS_f h (F_eq hz)
    refine E_aload_n (pc := 7) (zDk zD_201_ok 3 rfl) rfl ?_
    refine E_getI (pc := 8) (ci := 8) (f := 10) (zDk zD_201_ok 4 rfl) zc_201 (by decide +kernel) (by decide) zis_8_106 ?_
    refine E_iconst (pc := 11) (zDk zD_201_ok 5 rfl) (by decide +kernel) ?_
    refine E_icmp (pc := 12) (t := 20) (zDk zD_201_ok 6 rfl) rfl (fun hz => ?_) (fun hz => ?_)
    · have h := zS_t h (T_eq hz)
      exact ok_lm_number_c20 hq x1 x2 M none h
    · have h := zS_f h (F_eq hz)
      refine E_aload_n (pc := 15) (zDk zD_201_ok 7 rfl) rfl ?_
      refine E_iconst (pc := 16) (zDk zD_201_ok 8 rfl) (by decide +kernel) ?_
      obtain ⟨M17, e17, h⟩ := zS_bind h
      refine E_virV (pc := 17) (c := 197) (r := 106) (as := [.inl (1 : Int)]) (rest := []) (zDk zD_201_ok 9 rfl) zc_201 (by decide +kernel) zk_197 ⟨(Nat.le_of_ble_eq_true rfl), rfl, rfl⟩ (Nat.le_of_ble_eq_true rfl) (zr_197 _) (Nat.lt_of_lt_of_le (by decide) hq) (by rw [zm_197]; exact (Nat.le_of_ble_eq_true rfl)) ⟨zc_197, by decide⟩ zis_8_106 (ok_lm_errs ⟨M17, e17, ?_⟩)
      exact ok_lm_number_c20 hq x1 x2 M17 none h
def zD_216 : List (Nat × Instr × Nat) := [(0, .aload_n (0), 1), (1, .invokevirtual (254), 3), (4, .aload_n (0), 1), (5, .iload_n (1), 1), (6, .invokevirtual (257), 3), (9, .ifCond .eq (15), 3), (12, .iload_n (2), 1), (13, .i2l, 1), (14, .lconst (0), 1), (15, .ldc2_w (89), 3), (18, .invokestatic (91), 3), (21, .ifCond .ne (6), 3), (24, .bipush (-2), 2), (26, .ireturn, 1), (27, .iload_n (2), 1), (28, .iconst (2), 1), (29, .if_icmp .ne (14), 3), (32, .aload_n (0), 1), (33, .getfield (239), 3), (36, .iload_n (1), 1), (37, .invokestatic (202), 3), (40, .goto (16), 3), (43, .aload_n (0), 1), (44, .getfield (9), 3), (47, .bipush (10), 2), (49, .iconst (2), 1), (50, .iload_n (1), 1), (51, .imul, 1), (52, .iadd, 1), (53, .iload_n (2), 1), (54, .iadd, 1), (55, .iaload, 1), (56, .ireturn, 1)]
set_option maxRecDepth 100000 in
theorem zD_216_ok : zDo 216 zD_216 = true := by decide +kernel
theorem zc_216 : zcls 216 = 8 := by decide +kernel
theorem zm_216 : zml 216 = 3 := by decide +kernel
theorem zt_216 : zrt 216 = (some (.int)) := by decide +kernel
theorem zk_216 : zkd 216 = 1 ∧ znp 216 + 1 = 3 := by decide +kernel
theorem zr_216 (as : List zV) : zrk 216 as = 2 := by unfold zrk; rw [if_neg (by decide)]; decide +kernel
def lm_street (x1 : Int) (x2 : Int) (M : Nat → Nat → Int) : Option (Int × (Nat → Nat → Int)) :=
    ((lm_asItIs M).bind (fun M1 =>
    ((lm_isStreet x1 M1).bind (fun v6 =>
    (if v6 = 0 then
    (some ((-2 : Int), M1))
    else
    ((lm_in x2 (0 : Int) (2 : Int) M1).bind (fun v18 =>
    (if v18 = 0 then
    (some ((-2 : Int), M1))
    else
    (if x2 = (2 : Int) then
    ((lm_bit (M1 106 15) x1 M1).bind (fun v37 =>
    (some (v37, M1))))
    else
    ((rdI 107 (w32 ((w32 ((10 : Int) + (w32 ((2 : Int) * x1)))) + x2)) M1).bind (fun v55 =>
    (some (v55, M1)))))))))))))
set_option maxRecDepth 100000 in
theorem ok_lm_street {sc : zSc} {x1 : Int} {x2 : Int} {M : Nat → Nat → Int} {P : Int → (Nat → Nat → Int) → Prop} (h : zS (lm_street x1 x2 M) (fun r => P r.1 r.2)) : zCi sc 216 [.inr (.inr 106), .inl x1, .inl x2] M P := by
  have ea : zarg (zml 216) [.inr (.inr 106), .inl x1, .inl x2] = [some (.inr (.inr 106)), some (.inl x1), some (.inl x2)] := by rw [zm_216]; rfl
  unfold zCi zCw
  rw [ea, zr_216]
  have hq : 2 ≤ 2 := Nat.le_refl _
  unfold lm_street at h
  have h := zS_mono h (fun x hx => (⟨x.1, rfl, hx⟩ : ∃ y, (some (.inl x.1) : Option zV) = some (.inl y) ∧ P y x.2))
  skip
  refine E_aload_n (pc := 0) (zDk zD_216_ok 0 rfl) rfl ?_
  obtain ⟨M1, e1, h⟩ := zS_bind h
  refine E_virV (pc := 1) (c := 214) (r := 106) (as := []) (rest := []) (zDk zD_216_ok 1 rfl) zc_216 (by decide +kernel) zk_214 ⟨(Nat.le_of_ble_eq_true rfl), rfl, rfl⟩ (Nat.le_of_ble_eq_true rfl) (zr_214 _) (Nat.lt_of_lt_of_le (by decide) hq) (by rw [zm_214]; exact (Nat.le_of_ble_eq_true rfl)) ⟨zc_214, by decide⟩ zis_8_106 (ok_lm_asItIs ⟨M1, e1, ?_⟩)
  refine E_aload_n (pc := 4) (zDk zD_216_ok 2 rfl) rfl ?_
  refine E_iload_n (pc := 5) (zDk zD_216_ok 3 rfl) rfl ?_
  obtain ⟨v6, e6, h⟩ := zS_bind h
  refine E_virI (pc := 6) (c := 188) (r := 106) (as := [.inl x1]) (rest := []) (zDk zD_216_ok 4 rfl) zc_216 (by decide +kernel) zk_188 ⟨(Nat.le_of_ble_eq_true rfl), rfl, rfl⟩ (Nat.le_of_ble_eq_true rfl) (zr_188 _) (Nat.lt_of_lt_of_le (by decide) hq) (by rw [zm_188]; exact (Nat.le_of_ble_eq_true rfl)) ⟨zc_188, by decide⟩ zis_8_106 (ok_lm_isStreet ⟨v6, e6, ?_⟩)
  refine E_if (pc := 9) (t := 24) (zDk zD_216_ok 5 rfl) rfl (fun hz => ?_) (fun hz => ?_)
  · have h := zS_t h (T_eq hz)
    refine E_bipush (pc := 24) (zDk zD_216_ok 12 rfl) (by decide +kernel) ?_
    have h := zS_some h
    exact E_ireturn (pc := 26) (zDk zD_216_ok 13 rfl) zt_216 h
  · have h := zS_f h (F_eq hz)
    refine E_iload_n (pc := 12) (zDk zD_216_ok 6 rfl) rfl ?_
    refine E_i2l (pc := 13) (zDk zD_216_ok 7 rfl) ?_
    refine E_lconst (pc := 14) (v := 0) (zDk zD_216_ok 8 rfl) (by decide +kernel) ?_
    refine E_ldc2_w (pc := 15) (v := .inr (.inl (2 : Int))) (zDk zD_216_ok 9 rfl) zc_216 (by decide +kernel) ?_
    obtain ⟨v18, e18, h⟩ := zS_bind h
    refine E_staI (pc := 18) (c := 176) (as := [.inr (.inl x2), .inr (.inl (0 : Int)), .inr (.inl (2 : Int))]) (rest := []) (zDk zD_216_ok 10 rfl) zc_216 (by decide +kernel) (by decide +kernel) zk_176 ⟨(Nat.le_of_ble_eq_true rfl), rfl, rfl⟩ (Nat.le_of_ble_eq_true rfl) (zr_176 _) (Nat.lt_of_lt_of_le (by decide) hq) (by rw [zm_176]; exact (Nat.le_of_ble_eq_true rfl)) (ok_lm_in ⟨v18, e18, ?_⟩)
    refine E_if (pc := 21) (t := 27) (zDk zD_216_ok 11 rfl) rfl (fun hz => ?_) (fun hz => ?_)
    · have h := zS_f h (T_ne hz)
      refine E_iload_n (pc := 27) (zDk zD_216_ok 14 rfl) rfl ?_
      refine E_iconst (pc := 28) (zDk zD_216_ok 15 rfl) (by decide +kernel) ?_
      refine E_icmp (pc := 29) (t := 43) (zDk zD_216_ok 16 rfl) rfl (fun hz => ?_) (fun hz => ?_)
      · have h := zS_f h (T_ne hz)
        refine E_aload_n (pc := 43) (zDk zD_216_ok 22 rfl) rfl ?_
        refine E_getR (pc := 44) (ci := 8) (f := 1) (r := 107) (zDk zD_216_ok 23 rfl) zc_216 (by decide +kernel) (by decide) zis_8_106 (by decide +kernel) (by decide) ?_
        refine E_bipush (pc := 47) (zDk zD_216_ok 24 rfl) (by decide +kernel) ?_
        refine E_iconst (pc := 49) (zDk zD_216_ok 25 rfl) (by decide +kernel) ?_
        refine E_iload_n (pc := 50) (zDk zD_216_ok 26 rfl) rfl ?_
        refine W_imul (pc := 51) (zDk zD_216_ok 27 rfl) ?_
        refine W_iadd (pc := 52) (zDk zD_216_ok 28 rfl) ?_
        refine E_iload_n (pc := 53) (zDk zD_216_ok 29 rfl) rfl ?_
        refine W_iadd (pc := 54) (zDk zD_216_ok 30 rfl) ?_
        obtain ⟨v55, e55, h⟩ := zS_bind h
        refine E_iaload (pc := 55) (zDk zD_216_ok 31 rfl) e55 ?_
        have h := zS_some h
        exact E_ireturn (pc := 56) (zDk zD_216_ok 32 rfl) zt_216 h
      · have h := zS_t h (F_ne hz)
        refine E_aload_n (pc := 32) (zDk zD_216_ok 17 rfl) rfl ?_
        refine E_getI (pc := 33) (ci := 8) (f := 15) (zDk zD_216_ok 18 rfl) zc_216 (by decide +kernel) (by decide) zis_8_106 ?_
        refine E_iload_n (pc := 36) (zDk zD_216_ok 19 rfl) rfl ?_
        obtain ⟨v37, e37, h⟩ := zS_bind h
        refine E_staI (pc := 37) (c := 178) (as := [.inl (M1 106 15), .inl x1]) (rest := []) (zDk zD_216_ok 20 rfl) zc_216 (by decide +kernel) (by decide +kernel) zk_178 ⟨(Nat.le_of_ble_eq_true rfl), rfl, rfl⟩ (Nat.le_of_ble_eq_true rfl) (zr_178 _) (Nat.lt_of_lt_of_le (by decide) hq) (by rw [zm_178]; exact (Nat.le_of_ble_eq_true rfl)) (ok_lm_bit ⟨v37, e37, ?_⟩)
        refine E_goto (pc := 40) (t := 56) (zDk zD_216_ok 21 rfl) rfl ?_
        have h := zS_some h
        exact E_ireturn (pc := 56) (zDk zD_216_ok 32 rfl) zt_216 h
    · have h := zS_t h (F_ne hz)
      refine E_bipush (pc := 24) (zDk zD_216_ok 12 rfl) (by decide +kernel) ?_
      have h := zS_some h
      exact E_ireturn (pc := 26) (zDk zD_216_ok 13 rfl) zt_216 h
def zD_217 : List (Nat × Instr × Nat) := [(0, .aload_n (0), 1), (1, .invokevirtual (254), 3), (4, .aload_n (0), 1), (5, .iload_n (1), 1), (6, .i2l, 1), (7, .invokevirtual (261), 3), (10, .ifCond .eq (12), 3), (13, .aload_n (0), 1), (14, .getfield (40), 3), (17, .iload_n (1), 1), (18, .iaload, 1), (19, .goto (5), 3), (22, .bipush (-2), 2), (24, .ireturn, 1)]
set_option maxRecDepth 100000 in
theorem zD_217_ok : zDo 217 zD_217 = true := by decide +kernel
theorem zc_217 : zcls 217 = 8 := by decide +kernel
theorem zm_217 : zml 217 = 2 := by decide +kernel
theorem zt_217 : zrt 217 = (some (.int)) := by decide +kernel
theorem zk_217 : zkd 217 = 1 ∧ znp 217 + 1 = 2 := by decide +kernel
theorem zr_217 (as : List zV) : zrk 217 as = 2 := by unfold zrk; rw [if_neg (by decide)]; decide +kernel
def lm_well (x1 : Int) (M : Nat → Nat → Int) : Option (Int × (Nat → Nat → Int)) :=
    ((lm_asItIs M).bind (fun M1 =>
    ((lm_isCorner x1 M1).bind (fun v7 =>
    (if v7 = 0 then
    (some ((-2 : Int), M1))
    else
    ((rdI 115 x1 M1).bind (fun v18 =>
    (some (v18, M1)))))))))
set_option maxRecDepth 100000 in
theorem ok_lm_well {sc : zSc} {x1 : Int} {M : Nat → Nat → Int} {P : Int → (Nat → Nat → Int) → Prop} (h : zS (lm_well x1 M) (fun r => P r.1 r.2)) : zCi sc 217 [.inr (.inr 106), .inl x1] M P := by
  have ea : zarg (zml 217) [.inr (.inr 106), .inl x1] = [some (.inr (.inr 106)), some (.inl x1)] := by rw [zm_217]; rfl
  unfold zCi zCw
  rw [ea, zr_217]
  have hq : 2 ≤ 2 := Nat.le_refl _
  unfold lm_well at h
  have h := zS_mono h (fun x hx => (⟨x.1, rfl, hx⟩ : ∃ y, (some (.inl x.1) : Option zV) = some (.inl y) ∧ P y x.2))
  skip
  refine E_aload_n (pc := 0) (zDk zD_217_ok 0 rfl) rfl ?_
  obtain ⟨M1, e1, h⟩ := zS_bind h
  refine E_virV (pc := 1) (c := 214) (r := 106) (as := []) (rest := []) (zDk zD_217_ok 1 rfl) zc_217 (by decide +kernel) zk_214 ⟨(Nat.le_of_ble_eq_true rfl), rfl, rfl⟩ (Nat.le_of_ble_eq_true rfl) (zr_214 _) (Nat.lt_of_lt_of_le (by decide) hq) (by rw [zm_214]; exact (Nat.le_of_ble_eq_true rfl)) ⟨zc_214, by decide⟩ zis_8_106 (ok_lm_asItIs ⟨M1, e1, ?_⟩)
  refine E_aload_n (pc := 4) (zDk zD_217_ok 2 rfl) rfl ?_
  refine E_iload_n (pc := 5) (zDk zD_217_ok 3 rfl) rfl ?_
  refine E_i2l (pc := 6) (zDk zD_217_ok 4 rfl) ?_
  obtain ⟨v7, e7, h⟩ := zS_bind h
  refine E_virI (pc := 7) (c := 185) (r := 106) (as := [.inr (.inl x1)]) (rest := []) (zDk zD_217_ok 5 rfl) zc_217 (by decide +kernel) zk_185 ⟨(Nat.le_of_ble_eq_true rfl), rfl, rfl⟩ (Nat.le_of_ble_eq_true rfl) (zr_185 _) (Nat.lt_of_lt_of_le (by decide) hq) (by rw [zm_185]; exact (Nat.le_of_ble_eq_true rfl)) ⟨zc_185, by decide⟩ zis_8_106 (ok_lm_isCorner ⟨v7, e7, ?_⟩)
  refine E_if (pc := 10) (t := 22) (zDk zD_217_ok 6 rfl) rfl (fun hz => ?_) (fun hz => ?_)
  · have h := zS_t h (T_eq hz)
    refine E_bipush (pc := 22) (zDk zD_217_ok 12 rfl) (by decide +kernel) ?_
    have h := zS_some h
    exact E_ireturn (pc := 24) (zDk zD_217_ok 13 rfl) zt_217 h
  · have h := zS_f h (F_eq hz)
    refine E_aload_n (pc := 13) (zDk zD_217_ok 7 rfl) rfl ?_
    refine E_getR (pc := 14) (ci := 8) (f := 21) (r := 115) (zDk zD_217_ok 8 rfl) zc_217 (by decide +kernel) (by decide) zis_8_106 (by decide +kernel) (by decide) ?_
    refine E_iload_n (pc := 17) (zDk zD_217_ok 9 rfl) rfl ?_
    obtain ⟨v18, e18, h⟩ := zS_bind h
    refine E_iaload (pc := 18) (zDk zD_217_ok 10 rfl) e18 ?_
    refine E_goto (pc := 19) (t := 24) (zDk zD_217_ok 11 rfl) rfl ?_
    have h := zS_some h
    exact E_ireturn (pc := 24) (zDk zD_217_ok 13 rfl) zt_217 h
def zD_218 : List (Nat × Instr × Nat) := [(0, .aload_n (0), 1), (1, .iload_n (1), 1), (2, .invokevirtual (265), 3), (5, .ifCond .eq (24), 3), (8, .iload_n (2), 1), (9, .i2l, 1), (10, .lconst (0), 1), (11, .ldc2_w (268), 3), (14, .invokestatic (91), 3), (17, .ifCond .eq (12), 3), (20, .aload_n (0), 1), (21, .iload_n (1), 1), (22, .iload_n (2), 1), (23, .invokevirtual (251), 3), (26, .goto (5), 3), (29, .bipush (-2), 2), (31, .ireturn, 1)]
set_option maxRecDepth 100000 in
theorem zD_218_ok : zDo 218 zD_218 = true := by decide +kernel
theorem zc_218 : zcls 218 = 8 := by decide +kernel
theorem zm_218 : zml 218 = 3 := by decide +kernel
theorem zt_218 : zrt 218 = (some (.int)) := by decide +kernel
theorem zk_218 : zkd 218 = 1 ∧ znp 218 + 1 = 3 := by decide +kernel
theorem zr_218 (as : List zV) : zrk 218 as = 2 := by unfold zrk; rw [if_neg (by decide)]; decide +kernel
def lm_name (x1 : Int) (x2 : Int) (M : Nat → Nat → Int) : Option Int :=
    ((lm_isName x1 M).bind (fun v2 =>
    (if v2 = 0 then
    (some (-2 : Int))
    else
    ((lm_in x2 (0 : Int) (3 : Int) M).bind (fun v14 =>
    (if v14 = 0 then
    (some (-2 : Int))
    else
    ((lm_of x1 x2 M).bind (fun v23 =>
    (some v23)))))))))
set_option maxRecDepth 100000 in
theorem ok_lm_name {sc : zSc} {x1 : Int} {x2 : Int} {M : Nat → Nat → Int} {P : Int → (Nat → Nat → Int) → Prop} (h : zS (lm_name x1 x2 M) (fun x => P x M)) : zCi sc 218 [.inr (.inr 106), .inl x1, .inl x2] M P := by
  have ea : zarg (zml 218) [.inr (.inr 106), .inl x1, .inl x2] = [some (.inr (.inr 106)), some (.inl x1), some (.inl x2)] := by rw [zm_218]; rfl
  unfold zCi zCw
  rw [ea, zr_218]
  have hq : 2 ≤ 2 := Nat.le_refl _
  unfold lm_name at h
  have h := zS_mono h (fun x hx => (⟨x, rfl, hx⟩ : ∃ y, (some (.inl x) : Option zV) = some (.inl y) ∧ P y M))
  skip
  refine E_aload_n (pc := 0) (zDk zD_218_ok 0 rfl) rfl ?_
  refine E_iload_n (pc := 1) (zDk zD_218_ok 1 rfl) rfl ?_
  obtain ⟨v2, e2, h⟩ := zS_bind h
  refine E_virI (pc := 2) (c := 186) (r := 106) (as := [.inl x1]) (rest := []) (zDk zD_218_ok 2 rfl) zc_218 (by decide +kernel) zk_186 ⟨(Nat.le_of_ble_eq_true rfl), rfl, rfl⟩ (Nat.le_of_ble_eq_true rfl) (zr_186 _) (Nat.lt_of_lt_of_le (by decide) hq) (by rw [zm_186]; exact (Nat.le_of_ble_eq_true rfl)) ⟨zc_186, by decide⟩ zis_8_106 (ok_lm_isName ⟨v2, e2, ?_⟩)
  refine E_if (pc := 5) (t := 29) (zDk zD_218_ok 3 rfl) rfl (fun hz => ?_) (fun hz => ?_)
  · have h := zS_t h (T_eq hz)
    refine E_bipush (pc := 29) (zDk zD_218_ok 15 rfl) (by decide +kernel) ?_
    have h := zS_some h
    exact E_ireturn (pc := 31) (zDk zD_218_ok 16 rfl) zt_218 h
  · have h := zS_f h (F_eq hz)
    refine E_iload_n (pc := 8) (zDk zD_218_ok 4 rfl) rfl ?_
    refine E_i2l (pc := 9) (zDk zD_218_ok 5 rfl) ?_
    refine E_lconst (pc := 10) (v := 0) (zDk zD_218_ok 6 rfl) (by decide +kernel) ?_
    refine E_ldc2_w (pc := 11) (v := .inr (.inl (3 : Int))) (zDk zD_218_ok 7 rfl) zc_218 (by decide +kernel) ?_
    obtain ⟨v14, e14, h⟩ := zS_bind h
    refine E_staI (pc := 14) (c := 176) (as := [.inr (.inl x2), .inr (.inl (0 : Int)), .inr (.inl (3 : Int))]) (rest := []) (zDk zD_218_ok 8 rfl) zc_218 (by decide +kernel) (by decide +kernel) zk_176 ⟨(Nat.le_of_ble_eq_true rfl), rfl, rfl⟩ (Nat.le_of_ble_eq_true rfl) (zr_176 _) (Nat.lt_of_lt_of_le (by decide) hq) (by rw [zm_176]; exact (Nat.le_of_ble_eq_true rfl)) (ok_lm_in ⟨v14, e14, ?_⟩)
    refine E_if (pc := 17) (t := 29) (zDk zD_218_ok 9 rfl) rfl (fun hz => ?_) (fun hz => ?_)
    · have h := zS_t h (T_eq hz)
      refine E_bipush (pc := 29) (zDk zD_218_ok 15 rfl) (by decide +kernel) ?_
      have h := zS_some h
      exact E_ireturn (pc := 31) (zDk zD_218_ok 16 rfl) zt_218 h
    · have h := zS_f h (F_eq hz)
      refine E_aload_n (pc := 20) (zDk zD_218_ok 10 rfl) rfl ?_
      refine E_iload_n (pc := 21) (zDk zD_218_ok 11 rfl) rfl ?_
      refine E_iload_n (pc := 22) (zDk zD_218_ok 12 rfl) rfl ?_
      obtain ⟨v23, e23, h⟩ := zS_bind h
      refine E_virI (pc := 23) (c := 190) (r := 106) (as := [.inl x1, .inl x2]) (rest := []) (zDk zD_218_ok 13 rfl) zc_218 (by decide +kernel) zk_190 ⟨(Nat.le_of_ble_eq_true rfl), rfl, rfl⟩ (Nat.le_of_ble_eq_true rfl) (zr_190 _) (Nat.lt_of_lt_of_le (by decide) hq) (by rw [zm_190]; exact (Nat.le_of_ble_eq_true rfl)) ⟨zc_190, by decide⟩ zis_8_106 (ok_lm_of ⟨v23, e23, ?_⟩)
      refine E_goto (pc := 26) (t := 31) (zDk zD_218_ok 14 rfl) rfl ?_
      have h := zS_some h
      exact E_ireturn (pc := 31) (zDk zD_218_ok 16 rfl) zt_218 h
def zD_219 : List (Nat × Instr × Nat) := [(0, .aload_n (0), 1), (1, .iload_n (1), 1), (2, .invokevirtual (265), 3), (5, .ifCond .eq (32), 3), (8, .iload_n (2), 1), (9, .i2l, 1), (10, .lconst (0), 1), (11, .aload_n (0), 1), (12, .iload_n (1), 1), (13, .iconst (3), 1), (14, .invokevirtual (251), 3), (17, .iconst (1), 1), (18, .isub, 1), (19, .i2l, 1), (20, .invokestatic (91), 3), (23, .ifCond .eq (14), 3), (26, .aload_n (0), 1), (27, .iload_n (1), 1), (28, .iconst (4), 1), (29, .iload_n (2), 1), (30, .iadd, 1), (31, .invokevirtual (251), 3), (34, .goto (5), 3), (37, .bipush (-2), 2), (39, .ireturn, 1)]
set_option maxRecDepth 100000 in
theorem zD_219_ok : zDo 219 zD_219 = true := by decide +kernel
theorem zc_219 : zcls 219 = 8 := by decide +kernel
theorem zm_219 : zml 219 = 3 := by decide +kernel
theorem zt_219 : zrt 219 = (some (.int)) := by decide +kernel
theorem zk_219 : zkd 219 = 1 ∧ znp 219 + 1 = 3 := by decide +kernel
theorem zr_219 (as : List zV) : zrk 219 as = 2 := by unfold zrk; rw [if_neg (by decide)]; decide +kernel
def lm_walk (x1 : Int) (x2 : Int) (M : Nat → Nat → Int) : Option Int :=
    ((lm_isName x1 M).bind (fun v2 =>
    (if v2 = 0 then
    (some (-2 : Int))
    else
    ((lm_of x1 (3 : Int) M).bind (fun v14 =>
    ((lm_in x2 (0 : Int) (w32 (v14 - (1 : Int))) M).bind (fun v20 =>
    (if v20 = 0 then
    (some (-2 : Int))
    else
    ((lm_of x1 (w32 ((4 : Int) + x2)) M).bind (fun v31 =>
    (some v31)))))))))))
set_option maxRecDepth 100000 in
theorem ok_lm_walk {sc : zSc} {x1 : Int} {x2 : Int} {M : Nat → Nat → Int} {P : Int → (Nat → Nat → Int) → Prop} (h : zS (lm_walk x1 x2 M) (fun x => P x M)) : zCi sc 219 [.inr (.inr 106), .inl x1, .inl x2] M P := by
  have ea : zarg (zml 219) [.inr (.inr 106), .inl x1, .inl x2] = [some (.inr (.inr 106)), some (.inl x1), some (.inl x2)] := by rw [zm_219]; rfl
  unfold zCi zCw
  rw [ea, zr_219]
  have hq : 2 ≤ 2 := Nat.le_refl _
  unfold lm_walk at h
  have h := zS_mono h (fun x hx => (⟨x, rfl, hx⟩ : ∃ y, (some (.inl x) : Option zV) = some (.inl y) ∧ P y M))
  skip
  refine E_aload_n (pc := 0) (zDk zD_219_ok 0 rfl) rfl ?_
  refine E_iload_n (pc := 1) (zDk zD_219_ok 1 rfl) rfl ?_
  obtain ⟨v2, e2, h⟩ := zS_bind h
  refine E_virI (pc := 2) (c := 186) (r := 106) (as := [.inl x1]) (rest := []) (zDk zD_219_ok 2 rfl) zc_219 (by decide +kernel) zk_186 ⟨(Nat.le_of_ble_eq_true rfl), rfl, rfl⟩ (Nat.le_of_ble_eq_true rfl) (zr_186 _) (Nat.lt_of_lt_of_le (by decide) hq) (by rw [zm_186]; exact (Nat.le_of_ble_eq_true rfl)) ⟨zc_186, by decide⟩ zis_8_106 (ok_lm_isName ⟨v2, e2, ?_⟩)
  refine E_if (pc := 5) (t := 37) (zDk zD_219_ok 3 rfl) rfl (fun hz => ?_) (fun hz => ?_)
  · have h := zS_t h (T_eq hz)
    refine E_bipush (pc := 37) (zDk zD_219_ok 23 rfl) (by decide +kernel) ?_
    have h := zS_some h
    exact E_ireturn (pc := 39) (zDk zD_219_ok 24 rfl) zt_219 h
  · have h := zS_f h (F_eq hz)
    refine E_iload_n (pc := 8) (zDk zD_219_ok 4 rfl) rfl ?_
    refine E_i2l (pc := 9) (zDk zD_219_ok 5 rfl) ?_
    refine E_lconst (pc := 10) (v := 0) (zDk zD_219_ok 6 rfl) (by decide +kernel) ?_
    refine E_aload_n (pc := 11) (zDk zD_219_ok 7 rfl) rfl ?_
    refine E_iload_n (pc := 12) (zDk zD_219_ok 8 rfl) rfl ?_
    refine E_iconst (pc := 13) (zDk zD_219_ok 9 rfl) (by decide +kernel) ?_
    obtain ⟨v14, e14, h⟩ := zS_bind h
    refine E_virI (pc := 14) (c := 190) (r := 106) (as := [.inl x1, .inl (3 : Int)]) (rest := [.inr (.inl (0 : Int)), .inr (.inl x2)]) (zDk zD_219_ok 10 rfl) zc_219 (by decide +kernel) zk_190 ⟨(Nat.le_of_ble_eq_true rfl), rfl, rfl⟩ (Nat.le_of_ble_eq_true rfl) (zr_190 _) (Nat.lt_of_lt_of_le (by decide) hq) (by rw [zm_190]; exact (Nat.le_of_ble_eq_true rfl)) ⟨zc_190, by decide⟩ zis_8_106 (ok_lm_of ⟨v14, e14, ?_⟩)
    refine E_iconst (pc := 17) (zDk zD_219_ok 11 rfl) (by decide +kernel) ?_
    refine W_isub (pc := 18) (zDk zD_219_ok 12 rfl) ?_
    refine E_i2l (pc := 19) (zDk zD_219_ok 13 rfl) ?_
    obtain ⟨v20, e20, h⟩ := zS_bind h
    refine E_staI (pc := 20) (c := 176) (as := [.inr (.inl x2), .inr (.inl (0 : Int)), .inr (.inl (w32 (v14 - (1 : Int))))]) (rest := []) (zDk zD_219_ok 14 rfl) zc_219 (by decide +kernel) (by decide +kernel) zk_176 ⟨(Nat.le_of_ble_eq_true rfl), rfl, rfl⟩ (Nat.le_of_ble_eq_true rfl) (zr_176 _) (Nat.lt_of_lt_of_le (by decide) hq) (by rw [zm_176]; exact (Nat.le_of_ble_eq_true rfl)) (ok_lm_in ⟨v20, e20, ?_⟩)
    refine E_if (pc := 23) (t := 37) (zDk zD_219_ok 15 rfl) rfl (fun hz => ?_) (fun hz => ?_)
    · have h := zS_t h (T_eq hz)
      refine E_bipush (pc := 37) (zDk zD_219_ok 23 rfl) (by decide +kernel) ?_
      have h := zS_some h
      exact E_ireturn (pc := 39) (zDk zD_219_ok 24 rfl) zt_219 h
    · have h := zS_f h (F_eq hz)
      refine E_aload_n (pc := 26) (zDk zD_219_ok 16 rfl) rfl ?_
      refine E_iload_n (pc := 27) (zDk zD_219_ok 17 rfl) rfl ?_
      refine E_iconst (pc := 28) (zDk zD_219_ok 18 rfl) (by decide +kernel) ?_
      refine E_iload_n (pc := 29) (zDk zD_219_ok 19 rfl) rfl ?_
      refine W_iadd (pc := 30) (zDk zD_219_ok 20 rfl) ?_
      obtain ⟨v31, e31, h⟩ := zS_bind h
      refine E_virI (pc := 31) (c := 190) (r := 106) (as := [.inl x1, .inl (w32 ((4 : Int) + x2))]) (rest := []) (zDk zD_219_ok 21 rfl) zc_219 (by decide +kernel) zk_190 ⟨(Nat.le_of_ble_eq_true rfl), rfl, rfl⟩ (Nat.le_of_ble_eq_true rfl) (zr_190 _) (Nat.lt_of_lt_of_le (by decide) hq) (by rw [zm_190]; exact (Nat.le_of_ble_eq_true rfl)) ⟨zc_190, by decide⟩ zis_8_106 (ok_lm_of ⟨v31, e31, ?_⟩)
      refine E_goto (pc := 34) (t := 39) (zDk zD_219_ok 22 rfl) rfl ?_
      have h := zS_some h
      exact E_ireturn (pc := 39) (zDk zD_219_ok 24 rfl) zt_219 h
def zD_220 : List (Nat × Instr × Nat) := [(0, .aload_n (0), 1), (1, .iload_n (1), 1), (2, .invokevirtual (270), 3), (5, .ifCond .eq (11), 3), (8, .aload_n (0), 1), (9, .iload_n (1), 1), (10, .invokevirtual (273), 3), (13, .goto (5), 3), (16, .bipush (-2), 2), (18, .ireturn, 1)]
set_option maxRecDepth 100000 in
theorem zD_220_ok : zDo 220 zD_220 = true := by decide +kernel
theorem zc_220 : zcls 220 = 8 := by decide +kernel
theorem zm_220 : zml 220 = 2 := by decide +kernel
theorem zt_220 : zrt 220 = (some (.int)) := by decide +kernel
theorem zk_220 : zkd 220 = 1 ∧ znp 220 + 1 = 2 := by decide +kernel
theorem zr_220 (as : List zV) : zrk 220 as = 2 := by unfold zrk; rw [if_neg (by decide)]; decide +kernel
def lm_contract (x1 : Int) (M : Nat → Nat → Int) : Option Int :=
    ((lm_isContract x1 M).bind (fun v2 =>
    (if v2 = 0 then
    (some (-2 : Int))
    else
    ((lm_namesOf x1 M).bind (fun v10 =>
    (some v10))))))
set_option maxRecDepth 100000 in
theorem ok_lm_contract {sc : zSc} {x1 : Int} {M : Nat → Nat → Int} {P : Int → (Nat → Nat → Int) → Prop} (h : zS (lm_contract x1 M) (fun x => P x M)) : zCi sc 220 [.inr (.inr 106), .inl x1] M P := by
  have ea : zarg (zml 220) [.inr (.inr 106), .inl x1] = [some (.inr (.inr 106)), some (.inl x1)] := by rw [zm_220]; rfl
  unfold zCi zCw
  rw [ea, zr_220]
  have hq : 2 ≤ 2 := Nat.le_refl _
  unfold lm_contract at h
  have h := zS_mono h (fun x hx => (⟨x, rfl, hx⟩ : ∃ y, (some (.inl x) : Option zV) = some (.inl y) ∧ P y M))
  skip
  refine E_aload_n (pc := 0) (zDk zD_220_ok 0 rfl) rfl ?_
  refine E_iload_n (pc := 1) (zDk zD_220_ok 1 rfl) rfl ?_
  obtain ⟨v2, e2, h⟩ := zS_bind h
  refine E_virI (pc := 2) (c := 187) (r := 106) (as := [.inl x1]) (rest := []) (zDk zD_220_ok 2 rfl) zc_220 (by decide +kernel) zk_187 ⟨(Nat.le_of_ble_eq_true rfl), rfl, rfl⟩ (Nat.le_of_ble_eq_true rfl) (zr_187 _) (Nat.lt_of_lt_of_le (by decide) hq) (by rw [zm_187]; exact (Nat.le_of_ble_eq_true rfl)) ⟨zc_187, by decide⟩ zis_8_106 (ok_lm_isContract ⟨v2, e2, ?_⟩)
  refine E_if (pc := 5) (t := 16) (zDk zD_220_ok 3 rfl) rfl (fun hz => ?_) (fun hz => ?_)
  · have h := zS_t h (T_eq hz)
    refine E_bipush (pc := 16) (zDk zD_220_ok 8 rfl) (by decide +kernel) ?_
    have h := zS_some h
    exact E_ireturn (pc := 18) (zDk zD_220_ok 9 rfl) zt_220 h
  · have h := zS_f h (F_eq hz)
    refine E_aload_n (pc := 8) (zDk zD_220_ok 4 rfl) rfl ?_
    refine E_iload_n (pc := 9) (zDk zD_220_ok 5 rfl) rfl ?_
    obtain ⟨v10, e10, h⟩ := zS_bind h
    refine E_virI (pc := 10) (c := 191) (r := 106) (as := [.inl x1]) (rest := []) (zDk zD_220_ok 6 rfl) zc_220 (by decide +kernel) zk_191 ⟨(Nat.le_of_ble_eq_true rfl), rfl, rfl⟩ (Nat.le_of_ble_eq_true rfl) (zr_191 _) (Nat.lt_of_lt_of_le (by decide) hq) (by rw [zm_191]; exact (Nat.le_of_ble_eq_true rfl)) ⟨zc_191, by decide⟩ zis_8_106 (ok_lm_namesOf ⟨v10, e10, ?_⟩)
    refine E_goto (pc := 13) (t := 18) (zDk zD_220_ok 7 rfl) rfl ?_
    have h := zS_some h
    exact E_ireturn (pc := 18) (zDk zD_220_ok 9 rfl) zt_220 h
def zD_224 : List (Nat × Instr × Nat) := [(0, .iconst (0), 1), (1, .istore_n (2), 1), (2, .iload_n (2), 1), (3, .aload_n (0), 1), (4, .invokevirtual (279), 3), (7, .if_icmp .ge (192), 3), (10, .aload_n (0), 1), (11, .iload_n (2), 1), (12, .iload_n (1), 1), (13, .invokevirtual (276), 3), (16, .istore_n (3), 1), (17, .aload_n (0), 1), (18, .iload_n (2), 1), (19, .iload_n (1), 1), (20, .invokevirtual (282), 3), (23, .istore (4), 2), (25, .aload_n (0), 1), (26, .iload_n (2), 1), (27, .iload_n (1), 1), (28, .invokevirtual (285), 3), (31, .ifCond .le (7), 3), (34, .iconst (1), 1), (35, .goto (4), 3), (38, .iconst (0), 1), (39, .istore (5), 2), (41, .iload (4), 2), (43, .iload_n (3), 1), (44, .if_icmp .eq (17), 3), (47, .aload_n (0), 1), (48, .iload_n (3), 1), (49, .iload (4), 2), (51, .invokevirtual (288), 3), (54, .ifCond .eq (7), 3), (57, .iconst (1), 1), (58, .goto (4), 3), (61, .iconst (0), 1), (62, .istore (6), 2), (64, .iload (5), 2), (66, .ifCond .eq (23), 3), (69, .iload (6), 2), (71, .ifCond .eq (18), 3), (74, .aload_n (0), 1), (75, .getfield (245), 3), (78, .iload_n (1), 1), (79, .invokestatic (202), 3), (82, .ifCond .ne (7), 3), (85, .iconst (1), 1), (86, .goto (4), 3), (89, .iconst (0), 1), (90, .istore (7), 2), (92, .aload_n (0), 1), (93, .getfield (61), 3), (96, .iload_n (2), 1), (97, .dup2, 1), (98, .iaload, 1), (99, .iload (5), 2), (101, .ifCond .eq (18), 3), (104, .iload (4), 2), (106, .iload_n (3), 1), (107, .if_icmp .eq (12), 3), (110, .iload (6), 2), (112, .ifCond .ne (7), 3), (115, .iconst (1), 1), (116, .goto (4), 3), (119, .iconst (0), 1), (120, .iadd, 1), (121, .iastore, 1), (122, .aload_n (0), 1), (123, .getfield (58), 3), (126, .iload_n (2), 1), (127, .dup2, 1), (128, .iaload, 1), (129, .iload (7), 2), (131, .ifCond .eq (7), 3), (134, .iconst (1), 1), (135, .goto (4), 3), (138, .iconst (0), 1), (139, .iadd, 1), (140, .iastore, 1), (141, .aload_n (0), 1), (142, .getfield (46), 3), (145, .iconst (5), 1), (146, .iload_n (1), 1), (147, .iconst (1), 1), (148, .iadd, 1), (149, .imul, 1), (150, .iload_n (2), 1), (151, .iadd, 1), (152, .iload (7), 2), (154, .ifCond .eq (8), 3), (157, .iload (4), 2), (159, .goto (4), 3), (162, .iload_n (3), 1), (163, .iastore, 1), (164, .aload_n (0), 1), (165, .getfield (49), 3), (168, .iconst (5), 1), (169, .iload_n (1), 1), (170, .iconst (1), 1), (171, .iadd, 1), (172, .imul, 1), (173, .iload_n (2), 1), (174, .iadd, 1), (175, .iload (5), 2), (177, .ifCond .eq (14), 3), (180, .aload_n (0), 1), (181, .iload_n (2), 1), (182, .iload_n (1), 1), (183, .invokevirtual (285), 3), (186, .iconst (1), 1), (187, .isub, 1), (188, .goto (4), 3), (191, .iconst (0), 1), (192, .iastore, 1), (193, .iinc (2) (1), 3), (196, .goto (-194), 3), (199, .return_, 1)]
set_option maxRecDepth 100000 in
theorem zD_224_ok : zDo 224 zD_224 = true := by decide +kernel
theorem zc_224 : zcls 224 = 8 := by decide +kernel
theorem zm_224 : zml 224 = 8 := by decide +kernel
theorem zt_224 : zrt 224 = none := by decide +kernel
theorem zk_224 : zkd 224 = 1 ∧ znp 224 + 1 = 2 := by decide +kernel
theorem zr_224 (as : List zV) : zrk 224 as = 2 := by unfold zrk; rw [if_neg (by decide)]; decide +kernel
def lm_goOn_c163 (x1 : Int) (h2 : Int → (Nat → Nat → Int) → Option (Nat → Nat → Int)) (y2 : Int) (y5 : Int) (s0 : Nat) (s1 : Int) (s2 : Int) (M : Nat → Nat → Int) : Option (Nat → Nat → Int) :=
    ((wrI s0 s1 s2 M).bind (fun M163 =>
    (if y5 = 0 then
    ((wrI 118 (w32 ((w32 ((5 : Int) * (w32 (x1 + (1 : Int))))) + y2)) (0 : Int) M163).bind (fun M192 =>
    (h2 (w32 (y2 + 1)) M192)))
    else
    ((lm_inkIn y2 x1 M163).bind (fun v183 =>
    ((wrI 118 (w32 ((w32 ((5 : Int) * (w32 (x1 + (1 : Int))))) + y2)) (w32 (v183 - (1 : Int))) M163).bind (fun M192 =>
    (h2 (w32 (y2 + 1)) M192))))))))
set_option maxRecDepth 100000 in
theorem ok_lm_goOn_c163 {sc : zSc} {q : Nat} {P : Option zV → (Nat → Nat → Int) → Prop} (hq : 2 ≤ q) (x1 : Int) (h2 : Int → (Nat → Nat → Int) → Option (Nat → Nat → Int)) (H2 : ∀ (y2 : Int) (M : Nat → Nat → Int) (d3 d4 d5 d6 d7 : Option zV), zS (h2 y2 M) (fun M0 => P none M0) → zWp sc q 224 2 [some (.inr (.inr 106)), some (.inl x1), some (.inl y2), d3, d4, d5, d6, d7] [] M P) : ∀ (y2 : Int) (y5 : Int) (s0 : Nat) (s1 : Int) (s2 : Int) (M : Nat → Nat → Int) (d3 d4 d6 d7 : Option zV), zS (lm_goOn_c163 x1 h2 y2 y5 s0 s1 s2 M) (fun M0 => P none M0) → zWp sc q 224 163 [some (.inr (.inr 106)), some (.inl x1), some (.inl y2), d3, d4, some (.inl y5), d6, d7] [(.inl s2 : zV), .inl s1, .inr (.inr s0)] M P := by
  intro y2 y5 s0 s1 s2 M d3 d4 d6 d7 h
  unfold lm_goOn_c163 at h
  obtain ⟨M163, e163, h⟩ := zS_bind h
  refine E_iastore (pc := 163) (zDk zD_224_ok 93 rfl) e163 ?_
  refine E_aload_n (pc := 164) (zDk zD_224_ok 94 rfl) rfl ?_
  refine E_getR (pc := 165) (ci := 8) (f := 24) (r := 118) (zDk zD_224_ok 95 rfl) zc_224 (by decide +kernel) (by decide) zis_8_106 (by decide +kernel) (by decide) ?_
  refine E_iconst (pc := 168) (zDk zD_224_ok 96 rfl) (by decide +kernel) ?_
  refine E_iload_n (pc := 169) (zDk zD_224_ok 97 rfl) rfl ?_
  refine E_iconst (pc := 170) (zDk zD_224_ok 98 rfl) (by decide +kernel) ?_
  refine W_iadd (pc := 171) (zDk zD_224_ok 99 rfl) ?_
  refine W_imul (pc := 172) (zDk zD_224_ok 100 rfl) ?_
  refine E_iload_n (pc := 173) (zDk zD_224_ok 101 rfl) rfl ?_
  refine W_iadd (pc := 174) (zDk zD_224_ok 102 rfl) ?_
  refine E_iload (pc := 175) (zDk zD_224_ok 103 rfl) rfl ?_
  refine E_if (pc := 177) (t := 191) (zDk zD_224_ok 104 rfl) rfl (fun hz => ?_) (fun hz => ?_)
  · have h := zS_t h (T_eq hz)
    refine E_iconst (pc := 191) (zDk zD_224_ok 112 rfl) (by decide +kernel) ?_
    obtain ⟨M192, e192, h⟩ := zS_bind h
    refine E_iastore (pc := 192) (zDk zD_224_ok 113 rfl) e192 ?_
    refine W_iinc (pc := 193) (L' := [some (.inr (.inr 106)), some (.inl x1), some (.inl (w32 (y2 + 1))), d3, d4, some (.inl y5), d6, d7]) (zDk zD_224_ok 114 rfl) rfl zm_224 (by decide) rfl ?_
    refine E_goto (pc := 196) (t := 2) (zDk zD_224_ok 115 rfl) rfl ?_
    exact H2 (w32 (y2 + 1)) M192 d3 d4 (some (.inl y5)) d6 d7 h
  · have h := zS_f h (F_eq hz)
    refine E_aload_n (pc := 180) (zDk zD_224_ok 105 rfl) rfl ?_
    refine E_iload_n (pc := 181) (zDk zD_224_ok 106 rfl) rfl ?_
    refine E_iload_n (pc := 182) (zDk zD_224_ok 107 rfl) rfl ?_
    obtain ⟨v183, e183, h⟩ := zS_bind h
    refine E_virI (pc := 183) (c := 222) (r := 106) (as := [.inl y2, .inl x1]) (rest := [.inl (w32 ((w32 ((5 : Int) * (w32 (x1 + (1 : Int))))) + y2)), .inr (.inr 118)]) (zDk zD_224_ok 108 rfl) zc_224 (by decide +kernel) zk_222 ⟨(Nat.le_of_ble_eq_true rfl), rfl, rfl⟩ (Nat.le_of_ble_eq_true rfl) (zr_222 _) (Nat.lt_of_lt_of_le (by decide) hq) (by rw [zm_222]; exact (Nat.le_of_ble_eq_true rfl)) ⟨zc_222, by decide⟩ zis_8_106 (ok_lm_inkIn ⟨v183, e183, ?_⟩)
    refine E_iconst (pc := 186) (zDk zD_224_ok 109 rfl) (by decide +kernel) ?_
    refine W_isub (pc := 187) (zDk zD_224_ok 110 rfl) ?_
    refine E_goto (pc := 188) (t := 192) (zDk zD_224_ok 111 rfl) rfl ?_
    obtain ⟨M192, e192, h⟩ := zS_bind h
    refine E_iastore (pc := 192) (zDk zD_224_ok 113 rfl) e192 ?_
    refine W_iinc (pc := 193) (L' := [some (.inr (.inr 106)), some (.inl x1), some (.inl (w32 (y2 + 1))), d3, d4, some (.inl y5), d6, d7]) (zDk zD_224_ok 114 rfl) rfl zm_224 (by decide) rfl ?_
    refine E_goto (pc := 196) (t := 2) (zDk zD_224_ok 115 rfl) rfl ?_
    exact H2 (w32 (y2 + 1)) M192 d3 d4 (some (.inl y5)) d6 d7 h
def lm_goOn_c139 (x1 : Int) (h2 : Int → (Nat → Nat → Int) → Option (Nat → Nat → Int)) (y2 : Int) (y3 : Int) (y4 : Int) (y5 : Int) (y7 : Int) (s0 : Nat) (s1 : Int) (s2 : Int) (s3 : Int) (M : Nat → Nat → Int) : Option (Nat → Nat → Int) :=
    ((wrI s0 s1 (w32 (s2 + s3)) M).bind (fun M140 =>
    (if y7 = 0 then
    (lm_goOn_c163 x1 h2 y2 y5 117 (w32 ((w32 ((5 : Int) * (w32 (x1 + (1 : Int))))) + y2)) y3 M140)
    else
    (lm_goOn_c163 x1 h2 y2 y5 117 (w32 ((w32 ((5 : Int) * (w32 (x1 + (1 : Int))))) + y2)) y4 M140))))
set_option maxRecDepth 100000 in
theorem ok_lm_goOn_c139 {sc : zSc} {q : Nat} {P : Option zV → (Nat → Nat → Int) → Prop} (hq : 2 ≤ q) (x1 : Int) (h2 : Int → (Nat → Nat → Int) → Option (Nat → Nat → Int)) (H2 : ∀ (y2 : Int) (M : Nat → Nat → Int) (d3 d4 d5 d6 d7 : Option zV), zS (h2 y2 M) (fun M0 => P none M0) → zWp sc q 224 2 [some (.inr (.inr 106)), some (.inl x1), some (.inl y2), d3, d4, d5, d6, d7] [] M P) : ∀ (y2 : Int) (y3 : Int) (y4 : Int) (y5 : Int) (y7 : Int) (s0 : Nat) (s1 : Int) (s2 : Int) (s3 : Int) (M : Nat → Nat → Int) (d6 : Option zV), zS (lm_goOn_c139 x1 h2 y2 y3 y4 y5 y7 s0 s1 s2 s3 M) (fun M0 => P none M0) → zWp sc q 224 139 [some (.inr (.inr 106)), some (.inl x1), some (.inl y2), some (.inl y3), some (.inl y4), some (.inl y5), d6, some (.inl y7)] [(.inl s3 : zV), .inl s2, .inl s1, .inr (.inr s0)] M P := by
  intro y2 y3 y4 y5 y7 s0 s1 s2 s3 M d6 h
  unfold lm_goOn_c139 at h
  refine W_iadd (pc := 139) (zDk zD_224_ok 77 rfl) ?_
  obtain ⟨M140, e140, h⟩ := zS_bind h
  refine E_iastore (pc := 140) (zDk zD_224_ok 78 rfl) e140 ?_
  refine E_aload_n (pc := 141) (zDk zD_224_ok 79 rfl) rfl ?_
  refine E_getR (pc := 142) (ci := 8) (f := 23) (r := 117) (zDk zD_224_ok 80 rfl) zc_224 (by decide +kernel) (by decide) zis_8_106 (by decide +kernel) (by decide) ?_
  refine E_iconst (pc := 145) (zDk zD_224_ok 81 rfl) (by decide +kernel) ?_
  refine E_iload_n (pc := 146) (zDk zD_224_ok 82 rfl) rfl ?_
  refine E_iconst (pc := 147) (zDk zD_224_ok 83 rfl) (by decide +kernel) ?_
  refine W_iadd (pc := 148) (zDk zD_224_ok 84 rfl) ?_
  refine W_imul (pc := 149) (zDk zD_224_ok 85 rfl) ?_
  refine E_iload_n (pc := 150) (zDk zD_224_ok 86 rfl) rfl ?_
  refine W_iadd (pc := 151) (zDk zD_224_ok 87 rfl) ?_
  refine E_iload (pc := 152) (zDk zD_224_ok 88 rfl) rfl ?_
  refine E_if (pc := 154) (t := 162) (zDk zD_224_ok 89 rfl) rfl (fun hz => ?_) (fun hz => ?_)
  · have h := zS_t h (T_eq hz)
    refine E_iload_n (pc := 162) (zDk zD_224_ok 92 rfl) rfl ?_
    exact ok_lm_goOn_c163 hq x1 h2 H2 y2 y5 117 (w32 ((w32 ((5 : Int) * (w32 (x1 + (1 : Int))))) + y2)) y3 M140 (some (.inl y3)) (some (.inl y4)) d6 (some (.inl y7)) h
  · have h := zS_f h (F_eq hz)
    refine E_iload (pc := 157) (zDk zD_224_ok 90 rfl) rfl ?_
    refine E_goto (pc := 159) (t := 163) (zDk zD_224_ok 91 rfl) rfl ?_
    exact ok_lm_goOn_c163 hq x1 h2 H2 y2 y5 117 (w32 ((w32 ((5 : Int) * (w32 (x1 + (1 : Int))))) + y2)) y4 M140 (some (.inl y3)) (some (.inl y4)) d6 (some (.inl y7)) h
def lm_goOn_c119 (x1 : Int) (h2 : Int → (Nat → Nat → Int) → Option (Nat → Nat → Int)) (y2 : Int) (y3 : Int) (y4 : Int) (y5 : Int) (y7 : Int) (s0 : Nat) (s1 : Int) (s2 : Int) (M : Nat → Nat → Int) : Option (Nat → Nat → Int) :=
    ((wrI s0 s1 (w32 (s2 + (0 : Int))) M).bind (fun M121 =>
    ((rdI 121 y2 M121).bind (fun v128 =>
    (if y7 = 0 then
    (lm_goOn_c139 x1 h2 y2 y3 y4 y5 y7 121 y2 v128 (0 : Int) M121)
    else
    (lm_goOn_c139 x1 h2 y2 y3 y4 y5 y7 121 y2 v128 (1 : Int) M121))))))
set_option maxRecDepth 100000 in
theorem ok_lm_goOn_c119 {sc : zSc} {q : Nat} {P : Option zV → (Nat → Nat → Int) → Prop} (hq : 2 ≤ q) (x1 : Int) (h2 : Int → (Nat → Nat → Int) → Option (Nat → Nat → Int)) (H2 : ∀ (y2 : Int) (M : Nat → Nat → Int) (d3 d4 d5 d6 d7 : Option zV), zS (h2 y2 M) (fun M0 => P none M0) → zWp sc q 224 2 [some (.inr (.inr 106)), some (.inl x1), some (.inl y2), d3, d4, d5, d6, d7] [] M P) : ∀ (y2 : Int) (y3 : Int) (y4 : Int) (y5 : Int) (y7 : Int) (s0 : Nat) (s1 : Int) (s2 : Int) (M : Nat → Nat → Int) (d6 : Option zV), zS (lm_goOn_c119 x1 h2 y2 y3 y4 y5 y7 s0 s1 s2 M) (fun M0 => P none M0) → zWp sc q 224 119 [some (.inr (.inr 106)), some (.inl x1), some (.inl y2), some (.inl y3), some (.inl y4), some (.inl y5), d6, some (.inl y7)] [(.inl s2 : zV), .inl s1, .inr (.inr s0)] M P := by
  intro y2 y3 y4 y5 y7 s0 s1 s2 M d6 h
  unfold lm_goOn_c119 at h
  refine E_iconst (pc := 119) (zDk zD_224_ok 64 rfl) (by decide +kernel) ?_
  refine W_iadd (pc := 120) (zDk zD_224_ok 65 rfl) ?_
  obtain ⟨M121, e121, h⟩ := zS_bind h
  refine E_iastore (pc := 121) (zDk zD_224_ok 66 rfl) e121 ?_
  refine E_aload_n (pc := 122) (zDk zD_224_ok 67 rfl) rfl ?_
  refine E_getR (pc := 123) (ci := 8) (f := 27) (r := 121) (zDk zD_224_ok 68 rfl) zc_224 (by decide +kernel) (by decide) zis_8_106 (by decide +kernel) (by decide) ?_
  refine E_iload_n (pc := 126) (zDk zD_224_ok 69 rfl) rfl ?_
  refine E_dup2 (pc := 127) (zDk zD_224_ok 70 rfl) rfl rfl ?_
  obtain ⟨v128, e128, h⟩ := zS_bind h
  refine E_iaload (pc := 128) (zDk zD_224_ok 71 rfl) e128 ?_
  refine E_iload (pc := 129) (zDk zD_224_ok 72 rfl) rfl ?_
  refine E_if (pc := 131) (t := 138) (zDk zD_224_ok 73 rfl) rfl (fun hz => ?_) (fun hz => ?_)
  · have h := zS_t h (T_eq hz)
    refine E_iconst (pc := 138) (zDk zD_224_ok 76 rfl) (by decide +kernel) ?_
    exact ok_lm_goOn_c139 hq x1 h2 H2 y2 y3 y4 y5 y7 121 y2 v128 (0 : Int) M121 d6 h
  · have h := zS_f h (F_eq hz)
    refine E_iconst (pc := 134) (zDk zD_224_ok 74 rfl) (by decide +kernel) ?_
    refine E_goto (pc := 135) (t := 139) (zDk zD_224_ok 75 rfl) rfl ?_
    exact ok_lm_goOn_c139 hq x1 h2 H2 y2 y3 y4 y5 y7 121 y2 v128 (1 : Int) M121 d6 h
def lm_goOn_c90 (x1 : Int) (h2 : Int → (Nat → Nat → Int) → Option (Nat → Nat → Int)) (y2 : Int) (y3 : Int) (y4 : Int) (y5 : Int) (y6 : Int) (s0 : Int) (M : Nat → Nat → Int) : Option (Nat → Nat → Int) :=
    ((rdI 122 y2 M).bind (fun v98 =>
    (if y5 = 0 then
    (lm_goOn_c119 x1 h2 y2 y3 y4 y5 s0 122 y2 v98 M)
    else
    (if y4 = y3 then
    (lm_goOn_c119 x1 h2 y2 y3 y4 y5 s0 122 y2 v98 M)
    else
    (if y6 = 0 then
    ((wrI 122 y2 (w32 (v98 + (1 : Int))) M).bind (fun M121 =>
    ((rdI 121 y2 M121).bind (fun v128 =>
    (if s0 = 0 then
    (lm_goOn_c139 x1 h2 y2 y3 y4 y5 s0 121 y2 v128 (0 : Int) M121)
    else
    (lm_goOn_c139 x1 h2 y2 y3 y4 y5 s0 121 y2 v128 (1 : Int) M121))))))
    else
    (lm_goOn_c119 x1 h2 y2 y3 y4 y5 s0 122 y2 v98 M))))))
set_option maxRecDepth 100000 in
theorem ok_lm_goOn_c90 {sc : zSc} {q : Nat} {P : Option zV → (Nat → Nat → Int) → Prop} (hq : 2 ≤ q) (x1 : Int) (h2 : Int → (Nat → Nat → Int) → Option (Nat → Nat → Int)) (H2 : ∀ (y2 : Int) (M : Nat → Nat → Int) (d3 d4 d5 d6 d7 : Option zV), zS (h2 y2 M) (fun M0 => P none M0) → zWp sc q 224 2 [some (.inr (.inr 106)), some (.inl x1), some (.inl y2), d3, d4, d5, d6, d7] [] M P) : ∀ (y2 : Int) (y3 : Int) (y4 : Int) (y5 : Int) (y6 : Int) (s0 : Int) (M : Nat → Nat → Int) (d7 : Option zV), zS (lm_goOn_c90 x1 h2 y2 y3 y4 y5 y6 s0 M) (fun M0 => P none M0) → zWp sc q 224 90 [some (.inr (.inr 106)), some (.inl x1), some (.inl y2), some (.inl y3), some (.inl y4), some (.inl y5), some (.inl y6), d7] [(.inl s0 : zV)] M P := by
  intro y2 y3 y4 y5 y6 s0 M d7 h
  unfold lm_goOn_c90 at h
  refine W_istore (pc := 90) (L' := [some (.inr (.inr 106)), some (.inl x1), some (.inl y2), some (.inl y3), some (.inl y4), some (.inl y5), some (.inl y6), some (.inl s0)]) (zDk zD_224_ok 49 rfl) zm_224 (by decide) rfl ?_
  refine E_aload_n (pc := 92) (zDk zD_224_ok 50 rfl) rfl ?_
  refine E_getR (pc := 93) (ci := 8) (f := 28) (r := 122) (zDk zD_224_ok 51 rfl) zc_224 (by decide +kernel) (by decide) zis_8_106 (by decide +kernel) (by decide) ?_
  refine E_iload_n (pc := 96) (zDk zD_224_ok 52 rfl) rfl ?_
  refine E_dup2 (pc := 97) (zDk zD_224_ok 53 rfl) rfl rfl ?_
  obtain ⟨v98, e98, h⟩ := zS_bind h
  refine E_iaload (pc := 98) (zDk zD_224_ok 54 rfl) e98 ?_
  refine E_iload (pc := 99) (zDk zD_224_ok 55 rfl) rfl ?_
  refine E_if (pc := 101) (t := 119) (zDk zD_224_ok 56 rfl) rfl (fun hz => ?_) (fun hz => ?_)
  · have h := zS_t h (T_eq hz)
    exact ok_lm_goOn_c119 hq x1 h2 H2 y2 y3 y4 y5 s0 122 y2 v98 M (some (.inl y6)) h
  · have h := zS_f h (F_eq hz)
    refine E_iload (pc := 104) (zDk zD_224_ok 57 rfl) rfl ?_
    refine E_iload_n (pc := 106) (zDk zD_224_ok 58 rfl) rfl ?_
    refine E_icmp (pc := 107) (t := 119) (zDk zD_224_ok 59 rfl) rfl (fun hz => ?_) (fun hz => ?_)
    · have h := zS_t h (T_eq hz)
      exact ok_lm_goOn_c119 hq x1 h2 H2 y2 y3 y4 y5 s0 122 y2 v98 M (some (.inl y6)) h
    · have h := zS_f h (F_eq hz)
      refine E_iload (pc := 110) (zDk zD_224_ok 60 rfl) rfl ?_
      refine E_if (pc := 112) (t := 119) (zDk zD_224_ok 61 rfl) rfl (fun hz => ?_) (fun hz => ?_)
      · have h := zS_f h (T_ne hz)
        exact ok_lm_goOn_c119 hq x1 h2 H2 y2 y3 y4 y5 s0 122 y2 v98 M (some (.inl y6)) h
      · have h := zS_t h (F_ne hz)
        refine E_iconst (pc := 115) (zDk zD_224_ok 62 rfl) (by decide +kernel) ?_
        refine E_goto (pc := 116) (t := 120) (zDk zD_224_ok 63 rfl) rfl ?_
        refine W_iadd (pc := 120) (zDk zD_224_ok 65 rfl) ?_
        obtain ⟨M121, e121, h⟩ := zS_bind h
        refine E_iastore (pc := 121) (zDk zD_224_ok 66 rfl) e121 ?_
        refine E_aload_n (pc := 122) (zDk zD_224_ok 67 rfl) rfl ?_
        refine E_getR (pc := 123) (ci := 8) (f := 27) (r := 121) (zDk zD_224_ok 68 rfl) zc_224 (by decide +kernel) (by decide) zis_8_106 (by decide +kernel) (by decide) ?_
        refine E_iload_n (pc := 126) (zDk zD_224_ok 69 rfl) rfl ?_
        refine E_dup2 (pc := 127) (zDk zD_224_ok 70 rfl) rfl rfl ?_
        obtain ⟨v128, e128, h⟩ := zS_bind h
        refine E_iaload (pc := 128) (zDk zD_224_ok 71 rfl) e128 ?_
        refine E_iload (pc := 129) (zDk zD_224_ok 72 rfl) rfl ?_
        refine E_if (pc := 131) (t := 138) (zDk zD_224_ok 73 rfl) rfl (fun hz => ?_) (fun hz => ?_)
        · have h := zS_t h (T_eq hz)
          refine E_iconst (pc := 138) (zDk zD_224_ok 76 rfl) (by decide +kernel) ?_
          exact ok_lm_goOn_c139 hq x1 h2 H2 y2 y3 y4 y5 s0 121 y2 v128 (0 : Int) M121 (some (.inl y6)) h
        · have h := zS_f h (F_eq hz)
          refine E_iconst (pc := 134) (zDk zD_224_ok 74 rfl) (by decide +kernel) ?_
          refine E_goto (pc := 135) (t := 139) (zDk zD_224_ok 75 rfl) rfl ?_
          exact ok_lm_goOn_c139 hq x1 h2 H2 y2 y3 y4 y5 s0 121 y2 v128 (1 : Int) M121 (some (.inl y6)) h
def lm_goOn_c62 (x1 : Int) (h2 : Int → (Nat → Nat → Int) → Option (Nat → Nat → Int)) (y2 : Int) (y3 : Int) (y4 : Int) (y5 : Int) (s0 : Int) (M : Nat → Nat → Int) : Option (Nat → Nat → Int) :=
    (if y5 = 0 then
    (lm_goOn_c90 x1 h2 y2 y3 y4 y5 s0 (0 : Int) M)
    else
    (if s0 = 0 then
    (lm_goOn_c90 x1 h2 y2 y3 y4 y5 s0 (0 : Int) M)
    else
    ((lm_bit (M 106 17) x1 M).bind (fun v79 =>
    (if v79 = 0 then
    (lm_goOn_c90 x1 h2 y2 y3 y4 y5 s0 (1 : Int) M)
    else
    (lm_goOn_c90 x1 h2 y2 y3 y4 y5 s0 (0 : Int) M))))))
set_option maxRecDepth 100000 in
theorem ok_lm_goOn_c62 {sc : zSc} {q : Nat} {P : Option zV → (Nat → Nat → Int) → Prop} (hq : 2 ≤ q) (x1 : Int) (h2 : Int → (Nat → Nat → Int) → Option (Nat → Nat → Int)) (H2 : ∀ (y2 : Int) (M : Nat → Nat → Int) (d3 d4 d5 d6 d7 : Option zV), zS (h2 y2 M) (fun M0 => P none M0) → zWp sc q 224 2 [some (.inr (.inr 106)), some (.inl x1), some (.inl y2), d3, d4, d5, d6, d7] [] M P) : ∀ (y2 : Int) (y3 : Int) (y4 : Int) (y5 : Int) (s0 : Int) (M : Nat → Nat → Int) (d6 d7 : Option zV), zS (lm_goOn_c62 x1 h2 y2 y3 y4 y5 s0 M) (fun M0 => P none M0) → zWp sc q 224 62 [some (.inr (.inr 106)), some (.inl x1), some (.inl y2), some (.inl y3), some (.inl y4), some (.inl y5), d6, d7] [(.inl s0 : zV)] M P := by
  intro y2 y3 y4 y5 s0 M d6 d7 h
  unfold lm_goOn_c62 at h
  refine W_istore (pc := 62) (L' := [some (.inr (.inr 106)), some (.inl x1), some (.inl y2), some (.inl y3), some (.inl y4), some (.inl y5), some (.inl s0), d7]) (zDk zD_224_ok 36 rfl) zm_224 (by decide) rfl ?_
  refine E_iload (pc := 64) (zDk zD_224_ok 37 rfl) rfl ?_
  refine E_if (pc := 66) (t := 89) (zDk zD_224_ok 38 rfl) rfl (fun hz => ?_) (fun hz => ?_)
  · have h := zS_t h (T_eq hz)
    refine E_iconst (pc := 89) (zDk zD_224_ok 48 rfl) (by decide +kernel) ?_
    exact ok_lm_goOn_c90 hq x1 h2 H2 y2 y3 y4 y5 s0 (0 : Int) M d7 h
  · have h := zS_f h (F_eq hz)
    refine E_iload (pc := 69) (zDk zD_224_ok 39 rfl) rfl ?_
    refine E_if (pc := 71) (t := 89) (zDk zD_224_ok 40 rfl) rfl (fun hz => ?_) (fun hz => ?_)
    · have h := zS_t h (T_eq hz)
      refine E_iconst (pc := 89) (zDk zD_224_ok 48 rfl) (by decide +kernel) ?_
      exact ok_lm_goOn_c90 hq x1 h2 H2 y2 y3 y4 y5 s0 (0 : Int) M d7 h
    · have h := zS_f h (F_eq hz)
      refine E_aload_n (pc := 74) (zDk zD_224_ok 41 rfl) rfl ?_
      refine E_getI (pc := 75) (ci := 8) (f := 17) (zDk zD_224_ok 42 rfl) zc_224 (by decide +kernel) (by decide) zis_8_106 ?_
      refine E_iload_n (pc := 78) (zDk zD_224_ok 43 rfl) rfl ?_
      obtain ⟨v79, e79, h⟩ := zS_bind h
      refine E_staI (pc := 79) (c := 178) (as := [.inl (M 106 17), .inl x1]) (rest := []) (zDk zD_224_ok 44 rfl) zc_224 (by decide +kernel) (by decide +kernel) zk_178 ⟨(Nat.le_of_ble_eq_true rfl), rfl, rfl⟩ (Nat.le_of_ble_eq_true rfl) (zr_178 _) (Nat.lt_of_lt_of_le (by decide) hq) (by rw [zm_178]; exact (Nat.le_of_ble_eq_true rfl)) (ok_lm_bit ⟨v79, e79, ?_⟩)
      refine E_if (pc := 82) (t := 89) (zDk zD_224_ok 45 rfl) rfl (fun hz => ?_) (fun hz => ?_)
      · have h := zS_f h (T_ne hz)
        refine E_iconst (pc := 89) (zDk zD_224_ok 48 rfl) (by decide +kernel) ?_
        exact ok_lm_goOn_c90 hq x1 h2 H2 y2 y3 y4 y5 s0 (0 : Int) M d7 h
      · have h := zS_t h (F_ne hz)
        refine E_iconst (pc := 85) (zDk zD_224_ok 46 rfl) (by decide +kernel) ?_
        refine E_goto (pc := 86) (t := 90) (zDk zD_224_ok 47 rfl) rfl ?_
        exact ok_lm_goOn_c90 hq x1 h2 H2 y2 y3 y4 y5 s0 (1 : Int) M d7 h
def lm_goOn_c39 (x1 : Int) (h2 : Int → (Nat → Nat → Int) → Option (Nat → Nat → Int)) (y2 : Int) (y3 : Int) (y4 : Int) (s0 : Int) (M : Nat → Nat → Int) : Option (Nat → Nat → Int) :=
    (if y4 = y3 then
    (lm_goOn_c62 x1 h2 y2 y3 y4 s0 (0 : Int) M)
    else
    ((lm_isJoined y3 y4 M).bind (fun v51 =>
    (if v51 = 0 then
    (lm_goOn_c62 x1 h2 y2 y3 y4 s0 (0 : Int) M)
    else
    (lm_goOn_c62 x1 h2 y2 y3 y4 s0 (1 : Int) M)))))
set_option maxRecDepth 100000 in
theorem ok_lm_goOn_c39 {sc : zSc} {q : Nat} {P : Option zV → (Nat → Nat → Int) → Prop} (hq : 2 ≤ q) (x1 : Int) (h2 : Int → (Nat → Nat → Int) → Option (Nat → Nat → Int)) (H2 : ∀ (y2 : Int) (M : Nat → Nat → Int) (d3 d4 d5 d6 d7 : Option zV), zS (h2 y2 M) (fun M0 => P none M0) → zWp sc q 224 2 [some (.inr (.inr 106)), some (.inl x1), some (.inl y2), d3, d4, d5, d6, d7] [] M P) : ∀ (y2 : Int) (y3 : Int) (y4 : Int) (s0 : Int) (M : Nat → Nat → Int) (d5 d6 d7 : Option zV), zS (lm_goOn_c39 x1 h2 y2 y3 y4 s0 M) (fun M0 => P none M0) → zWp sc q 224 39 [some (.inr (.inr 106)), some (.inl x1), some (.inl y2), some (.inl y3), some (.inl y4), d5, d6, d7] [(.inl s0 : zV)] M P := by
  intro y2 y3 y4 s0 M d5 d6 d7 h
  unfold lm_goOn_c39 at h
  refine W_istore (pc := 39) (L' := [some (.inr (.inr 106)), some (.inl x1), some (.inl y2), some (.inl y3), some (.inl y4), some (.inl s0), d6, d7]) (zDk zD_224_ok 24 rfl) zm_224 (by decide) rfl ?_
  refine E_iload (pc := 41) (zDk zD_224_ok 25 rfl) rfl ?_
  refine E_iload_n (pc := 43) (zDk zD_224_ok 26 rfl) rfl ?_
  refine E_icmp (pc := 44) (t := 61) (zDk zD_224_ok 27 rfl) rfl (fun hz => ?_) (fun hz => ?_)
  · have h := zS_t h (T_eq hz)
    refine E_iconst (pc := 61) (zDk zD_224_ok 35 rfl) (by decide +kernel) ?_
    exact ok_lm_goOn_c62 hq x1 h2 H2 y2 y3 y4 s0 (0 : Int) M d6 d7 h
  · have h := zS_f h (F_eq hz)
    refine E_aload_n (pc := 47) (zDk zD_224_ok 28 rfl) rfl ?_
    refine E_iload_n (pc := 48) (zDk zD_224_ok 29 rfl) rfl ?_
    refine E_iload (pc := 49) (zDk zD_224_ok 30 rfl) rfl ?_
    obtain ⟨v51, e51, h⟩ := zS_bind h
    refine E_virI (pc := 51) (c := 215) (r := 106) (as := [.inl y3, .inl y4]) (rest := []) (zDk zD_224_ok 31 rfl) zc_224 (by decide +kernel) zk_215 ⟨(Nat.le_of_ble_eq_true rfl), rfl, rfl⟩ (Nat.le_of_ble_eq_true rfl) (zr_215 _) (Nat.lt_of_lt_of_le (by decide) hq) (by rw [zm_215]; exact (Nat.le_of_ble_eq_true rfl)) ⟨zc_215, by decide⟩ zis_8_106 (ok_lm_isJoined ⟨v51, e51, ?_⟩)
    refine E_if (pc := 54) (t := 61) (zDk zD_224_ok 32 rfl) rfl (fun hz => ?_) (fun hz => ?_)
    · have h := zS_t h (T_eq hz)
      refine E_iconst (pc := 61) (zDk zD_224_ok 35 rfl) (by decide +kernel) ?_
      exact ok_lm_goOn_c62 hq x1 h2 H2 y2 y3 y4 s0 (0 : Int) M d6 d7 h
    · have h := zS_f h (F_eq hz)
      refine E_iconst (pc := 57) (zDk zD_224_ok 33 rfl) (by decide +kernel) ?_
      refine E_goto (pc := 58) (t := 62) (zDk zD_224_ok 34 rfl) rfl ?_
      exact ok_lm_goOn_c62 hq x1 h2 H2 y2 y3 y4 s0 (1 : Int) M d6 d7 h
def lm_goOn_c2 (x1 : Int) : Nat → Int → (Nat → Nat → Int) → Option (Nat → Nat → Int)
  | 0, _, _ => none
  | n + 1, y2, M =>
    ((lm_names M).bind (fun v4 =>
    (if y2 < v4 then
    ((lm_placeOf y2 x1 M).bind (fun v13 =>
    ((lm_wouldGo y2 x1 M).bind (fun v20 =>
    ((lm_inkIn y2 x1 M).bind (fun v28 =>
    (if 0 < v28 then
    (lm_goOn_c39 x1 (lm_goOn_c2 x1 n) y2 v13 v20 (1 : Int) M)
    else
    (lm_goOn_c39 x1 (lm_goOn_c2 x1 n) y2 v13 v20 (0 : Int) M))))))))
    else
    (some M))))
set_option maxRecDepth 100000 in
theorem ok_lm_goOn_c2 {sc : zSc} {q : Nat} {P : Option zV → (Nat → Nat → Int) → Prop} (hq : 2 ≤ q) (x1 : Int) : ∀ (n : Nat) (y2 : Int) (M : Nat → Nat → Int) (d3 d4 d5 d6 d7 : Option zV), zS (lm_goOn_c2 x1 n y2 M) (fun M0 => P none M0) → zWp sc q 224 2 [some (.inr (.inr 106)), some (.inl x1), some (.inl y2), d3, d4, d5, d6, d7] [] M P := by
  intro n
  induction n with
  | zero => intro y2 M d3 d4 d5 d6 d7 h; exact (zS_none h).elim
  | succ n ih =>
    intro y2 M d3 d4 d5 d6 d7 h
    rw [lm_goOn_c2] at h
    refine E_iload_n (pc := 2) (zDk zD_224_ok 2 rfl) rfl ?_
    refine E_aload_n (pc := 3) (zDk zD_224_ok 3 rfl) rfl ?_
    obtain ⟨v4, e4, h⟩ := zS_bind h
    refine E_virI (pc := 4) (c := 189) (r := 106) (as := []) (rest := [.inl y2]) (zDk zD_224_ok 4 rfl) zc_224 (by decide +kernel) zk_189 ⟨(Nat.le_of_ble_eq_true rfl), rfl, rfl⟩ (Nat.le_of_ble_eq_true rfl) (zr_189 _) (Nat.lt_of_lt_of_le (by decide) hq) (by rw [zm_189]; exact (Nat.le_of_ble_eq_true rfl)) ⟨zc_189, by decide⟩ zis_8_106 (ok_lm_names ⟨v4, e4, ?_⟩)
    refine E_icmp (pc := 7) (t := 199) (zDk zD_224_ok 5 rfl) rfl (fun hz => ?_) (fun hz => ?_)
    · have h := zS_f h (Int.not_lt.mpr (T_ge hz))
      have h := zS_some h
      exact E_return (x := ()) (pc := 199) (zDk zD_224_ok 116 rfl) zt_224 h
    · have h := zS_t h (F_ge hz)
      refine E_aload_n (pc := 10) (zDk zD_224_ok 6 rfl) rfl ?_
      refine E_iload_n (pc := 11) (zDk zD_224_ok 7 rfl) rfl ?_
      refine E_iload_n (pc := 12) (zDk zD_224_ok 8 rfl) rfl ?_
      obtain ⟨v13, e13, h⟩ := zS_bind h
      refine E_virI (pc := 13) (c := 221) (r := 106) (as := [.inl y2, .inl x1]) (rest := []) (zDk zD_224_ok 9 rfl) zc_224 (by decide +kernel) zk_221 ⟨(Nat.le_of_ble_eq_true rfl), rfl, rfl⟩ (Nat.le_of_ble_eq_true rfl) (zr_221 _) (Nat.lt_of_lt_of_le (by decide) hq) (by rw [zm_221]; exact (Nat.le_of_ble_eq_true rfl)) ⟨zc_221, by decide⟩ zis_8_106 (ok_lm_placeOf ⟨v13, e13, ?_⟩)
      refine W_istore_n (pc := 16) (L' := [some (.inr (.inr 106)), some (.inl x1), some (.inl y2), some (.inl v13), d4, d5, d6, d7]) (zDk zD_224_ok 10 rfl) zm_224 (by decide) rfl ?_
      refine E_aload_n (pc := 17) (zDk zD_224_ok 11 rfl) rfl ?_
      refine E_iload_n (pc := 18) (zDk zD_224_ok 12 rfl) rfl ?_
      refine E_iload_n (pc := 19) (zDk zD_224_ok 13 rfl) rfl ?_
      obtain ⟨v20, e20, h⟩ := zS_bind h
      refine E_virI (pc := 20) (c := 223) (r := 106) (as := [.inl y2, .inl x1]) (rest := []) (zDk zD_224_ok 14 rfl) zc_224 (by decide +kernel) zk_223 ⟨(Nat.le_of_ble_eq_true rfl), rfl, rfl⟩ (Nat.le_of_ble_eq_true rfl) (zr_223 _) (Nat.lt_of_lt_of_le (by decide) hq) (by rw [zm_223]; exact (Nat.le_of_ble_eq_true rfl)) ⟨zc_223, by decide⟩ zis_8_106 (ok_lm_wouldGo ⟨v20, e20, ?_⟩)
      refine W_istore (pc := 23) (L' := [some (.inr (.inr 106)), some (.inl x1), some (.inl y2), some (.inl v13), some (.inl v20), d5, d6, d7]) (zDk zD_224_ok 15 rfl) zm_224 (by decide) rfl ?_
      refine E_aload_n (pc := 25) (zDk zD_224_ok 16 rfl) rfl ?_
      refine E_iload_n (pc := 26) (zDk zD_224_ok 17 rfl) rfl ?_
      refine E_iload_n (pc := 27) (zDk zD_224_ok 18 rfl) rfl ?_
      obtain ⟨v28, e28, h⟩ := zS_bind h
      refine E_virI (pc := 28) (c := 222) (r := 106) (as := [.inl y2, .inl x1]) (rest := []) (zDk zD_224_ok 19 rfl) zc_224 (by decide +kernel) zk_222 ⟨(Nat.le_of_ble_eq_true rfl), rfl, rfl⟩ (Nat.le_of_ble_eq_true rfl) (zr_222 _) (Nat.lt_of_lt_of_le (by decide) hq) (by rw [zm_222]; exact (Nat.le_of_ble_eq_true rfl)) ⟨zc_222, by decide⟩ zis_8_106 (ok_lm_inkIn ⟨v28, e28, ?_⟩)
      refine E_if (pc := 31) (t := 38) (zDk zD_224_ok 20 rfl) rfl (fun hz => ?_) (fun hz => ?_)
      · have h := zS_f h (Int.not_lt.mpr (T_le hz))
        refine E_iconst (pc := 38) (zDk zD_224_ok 23 rfl) (by decide +kernel) ?_
        exact ok_lm_goOn_c39 hq x1 (lm_goOn_c2 x1 n) (ih) y2 v13 v20 (0 : Int) M d5 d6 d7 h
      · have h := zS_t h (F_le hz)
        refine E_iconst (pc := 34) (zDk zD_224_ok 21 rfl) (by decide +kernel) ?_
        refine E_goto (pc := 35) (t := 39) (zDk zD_224_ok 22 rfl) rfl ?_
        exact ok_lm_goOn_c39 hq x1 (lm_goOn_c2 x1 n) (ih) y2 v13 v20 (1 : Int) M d5 d6 d7 h
def lm_goOn (x1 : Int) (M : Nat → Nat → Int) : Option (Nat → Nat → Int) :=
    (lm_goOn_c2 x1 zN (0 : Int) M)
set_option maxRecDepth 100000 in
theorem ok_lm_goOn {sc : zSc} {x1 : Int} {M : Nat → Nat → Int} {P : (Nat → Nat → Int) → Prop} (h : zS (lm_goOn x1 M) P) : zCv sc 224 [.inr (.inr 106), .inl x1] M P := by
  have ea : zarg (zml 224) [.inr (.inr 106), .inl x1] = [some (.inr (.inr 106)), some (.inl x1), none, none, none, none, none, none] := by rw [zm_224]; rfl
  unfold zCv zCw
  rw [ea, zr_224]
  have hq : 2 ≤ 2 := Nat.le_refl _
  unfold lm_goOn at h
  have h := zS_mono h (fun x hx => (⟨rfl, hx⟩ : (none : Option zV) = none ∧ P x))
  skip
  refine E_iconst (pc := 0) (zDk zD_224_ok 0 rfl) (by decide +kernel) ?_
  refine W_istore_n (pc := 1) (L' := [some (.inr (.inr 106)), some (.inl x1), some (.inl (0 : Int)), none, none, none, none, none]) (zDk zD_224_ok 1 rfl) zm_224 (by decide) rfl ?_
  exact ok_lm_goOn_c2 hq x1 zN (0 : Int) M none none none none none h
def zD_227 : List (Nat × Instr × Nat) := [(0, .iconst (0), 1), (1, .istore_n (2), 1), (2, .iload_n (2), 1), (3, .aload_n (0), 1), (4, .getfield (9), 3), (7, .bipush (7), 2), (9, .iaload, 1), (10, .if_icmp .ge (104), 3), (13, .aload_n (0), 1), (14, .getfield (52), 3), (17, .iload_n (2), 1), (18, .iaload, 1), (19, .iconst (-1), 1), (20, .if_icmp .ne (12), 3), (23, .aload_n (0), 1), (24, .iload_n (2), 1), (25, .iload_n (1), 1), (26, .invokevirtual (292), 3), (29, .goto (4), 3), (32, .iconst (-1), 1), (33, .istore_n (3), 1), (34, .iload_n (3), 1), (35, .iconst (-1), 1), (36, .if_icmp .eq (72), 3), (39, .aload_n (0), 1), (40, .iload_n (2), 1), (41, .iload_n (1), 1), (42, .iload_n (3), 1), (43, .invokevirtual (295), 3), (46, .ifCond .ne (6), 3), (49, .goto (59), 3), (52, .aload_n (0), 1), (53, .getfield (52), 3), (56, .iload_n (2), 1), (57, .iload_n (1), 1), (58, .iastore, 1), (59, .aload_n (0), 1), (60, .getfield (55), 3), (63, .iload_n (2), 1), (64, .iload_n (3), 1), (65, .iastore, 1), (66, .iconst (0), 1), (67, .istore (4), 2), (69, .iload (4), 2), (71, .aload_n (0), 1), (72, .invokevirtual (279), 3), (75, .if_icmp .ge (33), 3), (78, .aload_n (0), 1), (79, .getfield (49), 3), (82, .iconst (5), 1), (83, .iload_n (1), 1), (84, .imul, 1), (85, .iload (4), 2), (87, .iadd, 1), (88, .dup2, 1), (89, .iaload, 1), (90, .aload_n (0), 1), (91, .iload_n (2), 1), (92, .invokevirtual (273), 3), (95, .iload (4), 2), (97, .invokestatic (202), 3), (100, .isub, 1), (101, .iastore, 1), (102, .iinc (4) (1), 3), (105, .goto (-36), 3), (108, .iinc (2) (1), 3), (111, .goto (-109), 3), (114, .return_, 1)]
set_option maxRecDepth 100000 in
theorem zD_227_ok : zDo 227 zD_227 = true := by decide +kernel
theorem zc_227 : zcls 227 = 8 := by decide +kernel
theorem zm_227 : zml 227 = 5 := by decide +kernel
theorem zt_227 : zrt 227 = none := by decide +kernel
theorem zk_227 : zkd 227 = 1 ∧ znp 227 + 1 = 2 := by decide +kernel
theorem zr_227 (as : List zV) : zrk 227 as = 2 := by unfold zrk; rw [if_neg (by decide)]; decide +kernel
def lm_goSigns_c69 (x1 : Int) (h2 : Int → (Nat → Nat → Int) → Option (Nat → Nat → Int)) : Nat → Int → Int → (Nat → Nat → Int) → Option (Nat → Nat → Int)
  | 0, _, _, _ => none
  | n + 1, y2, y4, M =>
    ((lm_names M).bind (fun v72 =>
    (if y4 < v72 then
    ((rdI 118 (w32 ((w32 ((5 : Int) * x1)) + y4)) M).bind (fun v89 =>
    ((lm_namesOf y2 M).bind (fun v92 =>
    ((lm_bit v92 y4 M).bind (fun v97 =>
    ((wrI 118 (w32 ((w32 ((5 : Int) * x1)) + y4)) (w32 (v89 - v97)) M).bind (fun M101 =>
    ((lm_goSigns_c69 x1 h2 n) y2 (w32 (y4 + 1)) M101)))))))))
    else
    (h2 (w32 (y2 + 1)) M))))
set_option maxRecDepth 100000 in
theorem ok_lm_goSigns_c69 {sc : zSc} {q : Nat} {P : Option zV → (Nat → Nat → Int) → Prop} (hq : 2 ≤ q) (x1 : Int) (h2 : Int → (Nat → Nat → Int) → Option (Nat → Nat → Int)) (H2 : ∀ (y2 : Int) (M : Nat → Nat → Int) (d3 d4 : Option zV), zS (h2 y2 M) (fun M0 => P none M0) → zWp sc q 227 2 [some (.inr (.inr 106)), some (.inl x1), some (.inl y2), d3, d4] [] M P) : ∀ (n : Nat) (y2 : Int) (y4 : Int) (M : Nat → Nat → Int) (d3 : Option zV), zS (lm_goSigns_c69 x1 h2 n y2 y4 M) (fun M0 => P none M0) → zWp sc q 227 69 [some (.inr (.inr 106)), some (.inl x1), some (.inl y2), d3, some (.inl y4)] [] M P := by
  intro n
  induction n with
  | zero => intro y2 y4 M d3 h; exact (zS_none h).elim
  | succ n ih =>
    intro y2 y4 M d3 h
    rw [lm_goSigns_c69] at h
    refine E_iload (pc := 69) (zDk zD_227_ok 43 rfl) rfl ?_
    refine E_aload_n (pc := 71) (zDk zD_227_ok 44 rfl) rfl ?_
    obtain ⟨v72, e72, h⟩ := zS_bind h
    refine E_virI (pc := 72) (c := 189) (r := 106) (as := []) (rest := [.inl y4]) (zDk zD_227_ok 45 rfl) zc_227 (by decide +kernel) zk_189 ⟨(Nat.le_of_ble_eq_true rfl), rfl, rfl⟩ (Nat.le_of_ble_eq_true rfl) (zr_189 _) (Nat.lt_of_lt_of_le (by decide) hq) (by rw [zm_189]; exact (Nat.le_of_ble_eq_true rfl)) ⟨zc_189, by decide⟩ zis_8_106 (ok_lm_names ⟨v72, e72, ?_⟩)
    refine E_icmp (pc := 75) (t := 108) (zDk zD_227_ok 46 rfl) rfl (fun hz => ?_) (fun hz => ?_)
    · have h := zS_f h (Int.not_lt.mpr (T_ge hz))
      refine W_iinc (pc := 108) (L' := [some (.inr (.inr 106)), some (.inl x1), some (.inl (w32 (y2 + 1))), d3, some (.inl y4)]) (zDk zD_227_ok 65 rfl) rfl zm_227 (by decide) rfl ?_
      refine E_goto (pc := 111) (t := 2) (zDk zD_227_ok 66 rfl) rfl ?_
      exact H2 (w32 (y2 + 1)) M d3 (some (.inl y4)) h
    · have h := zS_t h (F_ge hz)
      refine E_aload_n (pc := 78) (zDk zD_227_ok 47 rfl) rfl ?_
      refine E_getR (pc := 79) (ci := 8) (f := 24) (r := 118) (zDk zD_227_ok 48 rfl) zc_227 (by decide +kernel) (by decide) zis_8_106 (by decide +kernel) (by decide) ?_
      refine E_iconst (pc := 82) (zDk zD_227_ok 49 rfl) (by decide +kernel) ?_
      refine E_iload_n (pc := 83) (zDk zD_227_ok 50 rfl) rfl ?_
      refine W_imul (pc := 84) (zDk zD_227_ok 51 rfl) ?_
      refine E_iload (pc := 85) (zDk zD_227_ok 52 rfl) rfl ?_
      refine W_iadd (pc := 87) (zDk zD_227_ok 53 rfl) ?_
      refine E_dup2 (pc := 88) (zDk zD_227_ok 54 rfl) rfl rfl ?_
      obtain ⟨v89, e89, h⟩ := zS_bind h
      refine E_iaload (pc := 89) (zDk zD_227_ok 55 rfl) e89 ?_
      refine E_aload_n (pc := 90) (zDk zD_227_ok 56 rfl) rfl ?_
      refine E_iload_n (pc := 91) (zDk zD_227_ok 57 rfl) rfl ?_
      obtain ⟨v92, e92, h⟩ := zS_bind h
      refine E_virI (pc := 92) (c := 191) (r := 106) (as := [.inl y2]) (rest := [.inl v89, .inl (w32 ((w32 ((5 : Int) * x1)) + y4)), .inr (.inr 118)]) (zDk zD_227_ok 58 rfl) zc_227 (by decide +kernel) zk_191 ⟨(Nat.le_of_ble_eq_true rfl), rfl, rfl⟩ (Nat.le_of_ble_eq_true rfl) (zr_191 _) (Nat.lt_of_lt_of_le (by decide) hq) (by rw [zm_191]; exact (Nat.le_of_ble_eq_true rfl)) ⟨zc_191, by decide⟩ zis_8_106 (ok_lm_namesOf ⟨v92, e92, ?_⟩)
      refine E_iload (pc := 95) (zDk zD_227_ok 59 rfl) rfl ?_
      obtain ⟨v97, e97, h⟩ := zS_bind h
      refine E_staI (pc := 97) (c := 178) (as := [.inl v92, .inl y4]) (rest := [.inl v89, .inl (w32 ((w32 ((5 : Int) * x1)) + y4)), .inr (.inr 118)]) (zDk zD_227_ok 60 rfl) zc_227 (by decide +kernel) (by decide +kernel) zk_178 ⟨(Nat.le_of_ble_eq_true rfl), rfl, rfl⟩ (Nat.le_of_ble_eq_true rfl) (zr_178 _) (Nat.lt_of_lt_of_le (by decide) hq) (by rw [zm_178]; exact (Nat.le_of_ble_eq_true rfl)) (ok_lm_bit ⟨v97, e97, ?_⟩)
      refine W_isub (pc := 100) (zDk zD_227_ok 61 rfl) ?_
      obtain ⟨M101, e101, h⟩ := zS_bind h
      refine E_iastore (pc := 101) (zDk zD_227_ok 62 rfl) e101 ?_
      obtain ⟨d3_102, hL102⟩ : ∃ d3_102 : Option zV, zs_1 [some (.inr (.inr 106)), some (.inl x1), some (.inl y2), d3, some (.inl y4)] 4 (.inl (w32 (y4 + 1))) = [some (.inr (.inr 106)), some (.inl x1), some (.inl y2), d3_102, some (.inl (w32 (y4 + 1)))] := by rcases d3 with _ | _ | _ | _ <;> exact ⟨_, rfl⟩
      refine W_iinc (pc := 102) (L' := [some (.inr (.inr 106)), some (.inl x1), some (.inl y2), d3_102, some (.inl (w32 (y4 + 1)))]) (zDk zD_227_ok 63 rfl) rfl zm_227 (by decide) hL102 ?_
      refine E_goto (pc := 105) (t := 69) (zDk zD_227_ok 64 rfl) rfl ?_
      exact (ih) y2 (w32 (y4 + 1)) M101 d3_102 h
def lm_goSigns_c33 (x1 : Int) (h2 : Int → (Nat → Nat → Int) → Option (Nat → Nat → Int)) (y2 : Int) (s0 : Int) (M : Nat → Nat → Int) : Option (Nat → Nat → Int) :=
    (if s0 = (-1 : Int) then
    (h2 (w32 (y2 + 1)) M)
    else
    ((lm_maySign y2 x1 s0 M).bind (fun v43 =>
    (if v43 = 0 then
    (h2 (w32 (y2 + 1)) M)
    else
    ((wrI 119 y2 x1 M).bind (fun M58 =>
    ((wrI 120 y2 s0 M58).bind (fun M65 =>
    (lm_goSigns_c69 x1 h2 zN y2 (0 : Int) M65)))))))))
set_option maxRecDepth 100000 in
theorem ok_lm_goSigns_c33 {sc : zSc} {q : Nat} {P : Option zV → (Nat → Nat → Int) → Prop} (hq : 2 ≤ q) (x1 : Int) (h2 : Int → (Nat → Nat → Int) → Option (Nat → Nat → Int)) (H2 : ∀ (y2 : Int) (M : Nat → Nat → Int) (d3 d4 : Option zV), zS (h2 y2 M) (fun M0 => P none M0) → zWp sc q 227 2 [some (.inr (.inr 106)), some (.inl x1), some (.inl y2), d3, d4] [] M P) : ∀ (y2 : Int) (s0 : Int) (M : Nat → Nat → Int) (d3 d4 : Option zV), zS (lm_goSigns_c33 x1 h2 y2 s0 M) (fun M0 => P none M0) → zWp sc q 227 33 [some (.inr (.inr 106)), some (.inl x1), some (.inl y2), d3, d4] [(.inl s0 : zV)] M P := by
  intro y2 s0 M d3 d4 h
  unfold lm_goSigns_c33 at h
  refine W_istore_n (pc := 33) (L' := [some (.inr (.inr 106)), some (.inl x1), some (.inl y2), some (.inl s0), d4]) (zDk zD_227_ok 20 rfl) zm_227 (by decide) rfl ?_
  refine E_iload_n (pc := 34) (zDk zD_227_ok 21 rfl) rfl ?_
  refine E_iconst (pc := 35) (zDk zD_227_ok 22 rfl) (by decide +kernel) ?_
  refine E_icmp (pc := 36) (t := 108) (zDk zD_227_ok 23 rfl) rfl (fun hz => ?_) (fun hz => ?_)
  · have h := zS_t h (T_eq hz)
    refine W_iinc (pc := 108) (L' := [some (.inr (.inr 106)), some (.inl x1), some (.inl (w32 (y2 + 1))), some (.inl s0), d4]) (zDk zD_227_ok 65 rfl) rfl zm_227 (by decide) rfl ?_
    refine E_goto (pc := 111) (t := 2) (zDk zD_227_ok 66 rfl) rfl ?_
    exact H2 (w32 (y2 + 1)) M (some (.inl s0)) d4 h
  · have h := zS_f h (F_eq hz)
    refine E_aload_n (pc := 39) (zDk zD_227_ok 24 rfl) rfl ?_
    refine E_iload_n (pc := 40) (zDk zD_227_ok 25 rfl) rfl ?_
    refine E_iload_n (pc := 41) (zDk zD_227_ok 26 rfl) rfl ?_
    refine E_iload_n (pc := 42) (zDk zD_227_ok 27 rfl) rfl ?_
    obtain ⟨v43, e43, h⟩ := zS_bind h
    refine E_virI (pc := 43) (c := 226) (r := 106) (as := [.inl y2, .inl x1, .inl s0]) (rest := []) (zDk zD_227_ok 28 rfl) zc_227 (by decide +kernel) zk_226 ⟨(Nat.le_of_ble_eq_true rfl), rfl, rfl⟩ (Nat.le_of_ble_eq_true rfl) (zr_226 _) (Nat.lt_of_lt_of_le (by decide) hq) (by rw [zm_226]; exact (Nat.le_of_ble_eq_true rfl)) ⟨zc_226, by decide⟩ zis_8_106 (ok_lm_maySign ⟨v43, e43, ?_⟩)
    refine E_if (pc := 46) (t := 52) (zDk zD_227_ok 29 rfl) rfl (fun hz => ?_) (fun hz => ?_)
    · have h := zS_f h (T_ne hz)
      refine E_aload_n (pc := 52) (zDk zD_227_ok 31 rfl) rfl ?_
      refine E_getR (pc := 53) (ci := 8) (f := 25) (r := 119) (zDk zD_227_ok 32 rfl) zc_227 (by decide +kernel) (by decide) zis_8_106 (by decide +kernel) (by decide) ?_
      refine E_iload_n (pc := 56) (zDk zD_227_ok 33 rfl) rfl ?_
      refine E_iload_n (pc := 57) (zDk zD_227_ok 34 rfl) rfl ?_
      obtain ⟨M58, e58, h⟩ := zS_bind h
      refine E_iastore (pc := 58) (zDk zD_227_ok 35 rfl) e58 ?_
      refine E_aload_n (pc := 59) (zDk zD_227_ok 36 rfl) rfl ?_
      refine E_getR (pc := 60) (ci := 8) (f := 26) (r := 120) (zDk zD_227_ok 37 rfl) zc_227 (by decide +kernel) (by decide) zis_8_106 (by decide +kernel) (by decide) ?_
      refine E_iload_n (pc := 63) (zDk zD_227_ok 38 rfl) rfl ?_
      refine E_iload_n (pc := 64) (zDk zD_227_ok 39 rfl) rfl ?_
      obtain ⟨M65, e65, h⟩ := zS_bind h
      refine E_iastore (pc := 65) (zDk zD_227_ok 40 rfl) e65 ?_
      refine E_iconst (pc := 66) (zDk zD_227_ok 41 rfl) (by decide +kernel) ?_
      refine W_istore (pc := 67) (L' := [some (.inr (.inr 106)), some (.inl x1), some (.inl y2), some (.inl s0), some (.inl (0 : Int))]) (zDk zD_227_ok 42 rfl) zm_227 (by decide) rfl ?_
      exact ok_lm_goSigns_c69 hq x1 h2 H2 zN y2 (0 : Int) M65 (some (.inl s0)) h
    · have h := zS_t h (F_ne hz)
      refine E_goto (pc := 49) (t := 108) (zDk zD_227_ok 30 rfl) rfl ?_
      refine W_iinc (pc := 108) (L' := [some (.inr (.inr 106)), some (.inl x1), some (.inl (w32 (y2 + 1))), some (.inl s0), d4]) (zDk zD_227_ok 65 rfl) rfl zm_227 (by decide) rfl ?_
      refine E_goto (pc := 111) (t := 2) (zDk zD_227_ok 66 rfl) rfl ?_
      exact H2 (w32 (y2 + 1)) M (some (.inl s0)) d4 h
def lm_goSigns_c2 (x1 : Int) : Nat → Int → (Nat → Nat → Int) → Option (Nat → Nat → Int)
  | 0, _, _ => none
  | n + 1, y2, M =>
    ((rdI 107 (7 : Int) M).bind (fun v9 =>
    (if y2 < v9 then
    ((rdI 119 y2 M).bind (fun v18 =>
    (if v18 = (-1 : Int) then
    ((lm_cornerOf y2 x1 M).bind (fun v26 =>
    (lm_goSigns_c33 x1 (lm_goSigns_c2 x1 n) y2 v26 M)))
    else
    (lm_goSigns_c33 x1 (lm_goSigns_c2 x1 n) y2 (-1 : Int) M))))
    else
    (some M))))
set_option maxRecDepth 100000 in
theorem ok_lm_goSigns_c2 {sc : zSc} {q : Nat} {P : Option zV → (Nat → Nat → Int) → Prop} (hq : 2 ≤ q) (x1 : Int) : ∀ (n : Nat) (y2 : Int) (M : Nat → Nat → Int) (d3 d4 : Option zV), zS (lm_goSigns_c2 x1 n y2 M) (fun M0 => P none M0) → zWp sc q 227 2 [some (.inr (.inr 106)), some (.inl x1), some (.inl y2), d3, d4] [] M P := by
  intro n
  induction n with
  | zero => intro y2 M d3 d4 h; exact (zS_none h).elim
  | succ n ih =>
    intro y2 M d3 d4 h
    rw [lm_goSigns_c2] at h
    refine E_iload_n (pc := 2) (zDk zD_227_ok 2 rfl) rfl ?_
    refine E_aload_n (pc := 3) (zDk zD_227_ok 3 rfl) rfl ?_
    refine E_getR (pc := 4) (ci := 8) (f := 1) (r := 107) (zDk zD_227_ok 4 rfl) zc_227 (by decide +kernel) (by decide) zis_8_106 (by decide +kernel) (by decide) ?_
    refine E_bipush (pc := 7) (zDk zD_227_ok 5 rfl) (by decide +kernel) ?_
    obtain ⟨v9, e9, h⟩ := zS_bind h
    refine E_iaload (pc := 9) (zDk zD_227_ok 6 rfl) e9 ?_
    refine E_icmp (pc := 10) (t := 114) (zDk zD_227_ok 7 rfl) rfl (fun hz => ?_) (fun hz => ?_)
    · have h := zS_f h (Int.not_lt.mpr (T_ge hz))
      have h := zS_some h
      exact E_return (x := ()) (pc := 114) (zDk zD_227_ok 67 rfl) zt_227 h
    · have h := zS_t h (F_ge hz)
      refine E_aload_n (pc := 13) (zDk zD_227_ok 8 rfl) rfl ?_
      refine E_getR (pc := 14) (ci := 8) (f := 25) (r := 119) (zDk zD_227_ok 9 rfl) zc_227 (by decide +kernel) (by decide) zis_8_106 (by decide +kernel) (by decide) ?_
      refine E_iload_n (pc := 17) (zDk zD_227_ok 10 rfl) rfl ?_
      obtain ⟨v18, e18, h⟩ := zS_bind h
      refine E_iaload (pc := 18) (zDk zD_227_ok 11 rfl) e18 ?_
      refine E_iconst (pc := 19) (zDk zD_227_ok 12 rfl) (by decide +kernel) ?_
      refine E_icmp (pc := 20) (t := 32) (zDk zD_227_ok 13 rfl) rfl (fun hz => ?_) (fun hz => ?_)
      · have h := zS_f h (T_ne hz)
        refine E_iconst (pc := 32) (zDk zD_227_ok 19 rfl) (by decide +kernel) ?_
        exact ok_lm_goSigns_c33 hq x1 (lm_goSigns_c2 x1 n) (ih) y2 (-1 : Int) M d3 d4 h
      · have h := zS_t h (F_ne hz)
        refine E_aload_n (pc := 23) (zDk zD_227_ok 14 rfl) rfl ?_
        refine E_iload_n (pc := 24) (zDk zD_227_ok 15 rfl) rfl ?_
        refine E_iload_n (pc := 25) (zDk zD_227_ok 16 rfl) rfl ?_
        obtain ⟨v26, e26, h⟩ := zS_bind h
        refine E_virI (pc := 26) (c := 225) (r := 106) (as := [.inl y2, .inl x1]) (rest := []) (zDk zD_227_ok 17 rfl) zc_227 (by decide +kernel) zk_225 ⟨(Nat.le_of_ble_eq_true rfl), rfl, rfl⟩ (Nat.le_of_ble_eq_true rfl) (zr_225 _) (Nat.lt_of_lt_of_le (by decide) hq) (by rw [zm_225]; exact (Nat.le_of_ble_eq_true rfl)) ⟨zc_225, by decide⟩ zis_8_106 (ok_lm_cornerOf ⟨v26, e26, ?_⟩)
        refine E_goto (pc := 29) (t := 33) (zDk zD_227_ok 18 rfl) rfl ?_
        exact ok_lm_goSigns_c33 hq x1 (lm_goSigns_c2 x1 n) (ih) y2 v26 M d3 d4 h
def lm_goSigns (x1 : Int) (M : Nat → Nat → Int) : Option (Nat → Nat → Int) :=
    (lm_goSigns_c2 x1 zN (0 : Int) M)
set_option maxRecDepth 100000 in
theorem ok_lm_goSigns {sc : zSc} {x1 : Int} {M : Nat → Nat → Int} {P : (Nat → Nat → Int) → Prop} (h : zS (lm_goSigns x1 M) P) : zCv sc 227 [.inr (.inr 106), .inl x1] M P := by
  have ea : zarg (zml 227) [.inr (.inr 106), .inl x1] = [some (.inr (.inr 106)), some (.inl x1), none, none, none] := by rw [zm_227]; rfl
  unfold zCv zCw
  rw [ea, zr_227]
  have hq : 2 ≤ 2 := Nat.le_refl _
  unfold lm_goSigns at h
  have h := zS_mono h (fun x hx => (⟨rfl, hx⟩ : (none : Option zV) = none ∧ P x))
  skip
  refine E_iconst (pc := 0) (zDk zD_227_ok 0 rfl) (by decide +kernel) ?_
  refine W_istore_n (pc := 1) (L' := [some (.inr (.inr 106)), some (.inl x1), some (.inl (0 : Int)), none, none]) (zDk zD_227_ok 1 rfl) zm_227 (by decide) rfl ?_
  exact ok_lm_goSigns_c2 hq x1 zN (0 : Int) M none none h
def zD_247 : List (Nat × Instr × Nat) := [(0, .aload_n (0), 1), (1, .aload_n (0), 1), (2, .invokevirtual (99), 3), (5, .invokevirtual (329), 3), (8, .invokestatic (332), 3), (11, .ireturn, 1)]
set_option maxRecDepth 100000 in
theorem zD_247_ok : zDo 247 zD_247 = true := by decide +kernel
theorem zc_247 : zcls 247 = 8 := by decide +kernel
theorem zm_247 : zml 247 = 1 := by decide +kernel
theorem zt_247 : zrt 247 = (some (.int)) := by decide +kernel
theorem zk_247 : zkd 247 = 1 ∧ znp 247 + 1 = 1 := by decide +kernel
theorem zr_247 (as : List zV) : zrk 247 as = 2 := by unfold zrk; rw [if_neg (by decide)]; decide +kernel
def lm_manySigned (M : Nat → Nat → Int) : Option Int :=
    ((lm_last M).bind (fun v2 =>
    ((lm_signsTo v2 M).bind (fun v5 =>
    ((lm_bits v5 M).bind (fun v8 =>
    (some v8)))))))
set_option maxRecDepth 100000 in
theorem ok_lm_manySigned {sc : zSc} {M : Nat → Nat → Int} {P : Int → (Nat → Nat → Int) → Prop} (h : zS (lm_manySigned M) (fun x => P x M)) : zCi sc 247 [.inr (.inr 106)] M P := by
  have ea : zarg (zml 247) [.inr (.inr 106)] = [some (.inr (.inr 106))] := by rw [zm_247]; rfl
  unfold zCi zCw
  rw [ea, zr_247]
  have hq : 2 ≤ 2 := Nat.le_refl _
  unfold lm_manySigned at h
  have h := zS_mono h (fun x hx => (⟨x, rfl, hx⟩ : ∃ y, (some (.inl x) : Option zV) = some (.inl y) ∧ P y M))
  skip
  refine E_aload_n (pc := 0) (zDk zD_247_ok 0 rfl) rfl ?_
  refine E_aload_n (pc := 1) (zDk zD_247_ok 1 rfl) rfl ?_
  obtain ⟨v2, e2, h⟩ := zS_bind h
  refine E_virI (pc := 2) (c := 182) (r := 106) (as := []) (rest := [.inr (.inr 106)]) (zDk zD_247_ok 2 rfl) zc_247 (by decide +kernel) zk_182 ⟨(Nat.le_of_ble_eq_true rfl), rfl, rfl⟩ (Nat.le_of_ble_eq_true rfl) (zr_182 _) (Nat.lt_of_lt_of_le (by decide) hq) (by rw [zm_182]; exact (Nat.le_of_ble_eq_true rfl)) ⟨zc_182, by decide⟩ zis_8_106 (ok_lm_last ⟨v2, e2, ?_⟩)
  obtain ⟨v5, e5, h⟩ := zS_bind h
  refine E_virI (pc := 5) (c := 246) (r := 106) (as := [.inl v2]) (rest := []) (zDk zD_247_ok 3 rfl) zc_247 (by decide +kernel) zk_246 ⟨(Nat.le_of_ble_eq_true rfl), rfl, rfl⟩ (Nat.le_of_ble_eq_true rfl) (zr_246 _) (Nat.lt_of_lt_of_le (by decide) hq) (by rw [zm_246]; exact (Nat.le_of_ble_eq_true rfl)) ⟨zc_246, by decide⟩ zis_8_106 (ok_lm_signsTo ⟨v5, e5, ?_⟩)
  obtain ⟨v8, e8, h⟩ := zS_bind h
  refine E_staI (pc := 8) (c := 177) (as := [.inl v5]) (rest := []) (zDk zD_247_ok 4 rfl) zc_247 (by decide +kernel) (by decide +kernel) zk_177 ⟨(Nat.le_of_ble_eq_true rfl), rfl, rfl⟩ (Nat.le_of_ble_eq_true rfl) (zr_177 _) (Nat.lt_of_lt_of_le (by decide) hq) (by rw [zm_177]; exact (Nat.le_of_ble_eq_true rfl)) (ok_lm_bits ⟨v8, e8, ?_⟩)
  have h := zS_some h
  exact E_ireturn (pc := 11) (zDk zD_247_ok 5 rfl) zt_247 h
def zD_261 : List (Nat × Instr × Nat) := [(0, .aload_n (0), 1), (1, .getfield (9), 3), (4, .iconst (0), 1), (5, .iaload, 1), (6, .istore_n (1), 1), (7, .iconst (0), 1), (8, .istore_n (2), 1), (9, .iload_n (2), 1), (10, .bipush (64), 2), (12, .if_icmp .ge (52), 3), (15, .aload_n (0), 1), (16, .getfield (67), 3), (19, .iload_n (2), 1), (20, .iload_n (2), 1), (21, .bipush (8), 2), (23, .idiv, 1), (24, .iload_n (2), 1), (25, .bipush (8), 2), (27, .irem, 1), (28, .if_icmp .ne (7), 3), (31, .iconst (0), 1), (32, .goto (25), 3), (35, .aload_n (0), 1), (36, .iload_n (2), 1), (37, .bipush (8), 2), (39, .idiv, 1), (40, .iload_n (2), 1), (41, .bipush (8), 2), (43, .irem, 1), (44, .invokevirtual (288), 3), (47, .ifCond .eq (7), 3), (50, .iconst (1), 1), (51, .goto (6), 3), (54, .ldc_w (341), 3), (57, .iastore, 1), (58, .iinc (2) (1), 3), (61, .goto (-52), 3), (64, .iconst (0), 1), (65, .istore_n (2), 1), (66, .iload_n (2), 1), (67, .iload_n (1), 1), (68, .if_icmp .ge (69), 3), (71, .iconst (0), 1), (72, .istore_n (3), 1), (73, .iload_n (3), 1), (74, .iload_n (1), 1), (75, .iload_n (1), 1), (76, .imul, 1), (77, .if_icmp .ge (54), 3), (80, .aload_n (0), 1), (81, .getfield (67), 3), (84, .bipush (8), 2), (86, .iload_n (3), 1), (87, .iload_n (1), 1), (88, .idiv, 1), (89, .imul, 1), (90, .iload_n (3), 1), (91, .iload_n (1), 1), (92, .irem, 1), (93, .iadd, 1), (94, .aload_n (0), 1), (95, .iload_n (3), 1), (96, .iload_n (1), 1), (97, .idiv, 1), (98, .iload_n (3), 1), (99, .iload_n (1), 1), (100, .irem, 1), (101, .invokevirtual (342), 3), (104, .aload_n (0), 1), (105, .iload_n (3), 1), (106, .iload_n (1), 1), (107, .idiv, 1), (108, .iload_n (2), 1), (109, .invokevirtual (342), 3), (112, .aload_n (0), 1), (113, .iload_n (2), 1), (114, .iload_n (3), 1), (115, .iload_n (1), 1), (116, .irem, 1), (117, .invokevirtual (342), 3), (120, .iadd, 1), (121, .invokestatic (134), 3), (124, .iastore, 1), (125, .iinc (3) (1), 3), (128, .goto (-55), 3), (131, .iinc (2) (1), 3), (134, .goto (-68), 3), (137, .return_, 1)]
set_option maxRecDepth 100000 in
theorem zD_261_ok : zDo 261 zD_261 = true := by decide +kernel
theorem zc_261 : zcls 261 = 8 := by decide +kernel
theorem zm_261 : zml 261 = 4 := by decide +kernel
theorem zt_261 : zrt 261 = none := by decide +kernel
theorem zk_261 : zkd 261 = 1 ∧ znp 261 + 1 = 1 := by decide +kernel
theorem zr_261 (as : List zV) : zrk 261 as = 2 := by unfold zrk; rw [if_neg (by decide)]; decide +kernel
def lm_layWays_c73 (h66 : Int → Int → (Nat → Nat → Int) → Option (Nat → Nat → Int)) : Nat → Int → Int → Int → (Nat → Nat → Int) → Option (Nat → Nat → Int)
  | 0, _, _, _, _ => none
  | n + 1, y1, y2, y3, M =>
    (if y3 < (w32 (y1 * y1)) then
    (if y1 = 0 then none else (if y1 = 0 then none else (if y1 = 0 then none else (if y1 = 0 then none else ((lm_wayOf (zdiv y3 y1) (zrem y3 y1) M).bind (fun v101 =>
    (if y1 = 0 then none else ((lm_wayOf (zdiv y3 y1) y2 M).bind (fun v109 =>
    (if y1 = 0 then none else ((lm_wayOf y2 (zrem y3 y1) M).bind (fun v117 =>
    ((wrI 124 (w32 ((w32 ((8 : Int) * (zdiv y3 y1))) + (zrem y3 y1))) (zmin v101 (w32 (v109 + v117))) M).bind (fun M124 =>
    ((lm_layWays_c73 h66 n) y1 y2 (w32 (y3 + 1)) M124)))))))))))))))
    else
    (h66 y1 (w32 (y2 + 1)) M))
set_option maxRecDepth 100000 in
theorem ok_lm_layWays_c73 {sc : zSc} {q : Nat} {P : Option zV → (Nat → Nat → Int) → Prop} (hq : 2 ≤ q) (h66 : Int → Int → (Nat → Nat → Int) → Option (Nat → Nat → Int)) (H66 : ∀ (y1 : Int) (y2 : Int) (M : Nat → Nat → Int) (d3 : Option zV), zS (h66 y1 y2 M) (fun M0 => P none M0) → zWp sc q 261 66 [some (.inr (.inr 106)), some (.inl y1), some (.inl y2), d3] [] M P) : ∀ (n : Nat) (y1 : Int) (y2 : Int) (y3 : Int) (M : Nat → Nat → Int), zS (lm_layWays_c73 h66 n y1 y2 y3 M) (fun M0 => P none M0) → zWp sc q 261 73 [some (.inr (.inr 106)), some (.inl y1), some (.inl y2), some (.inl y3)] [] M P := by
  intro n
  induction n with
  | zero => intro y1 y2 y3 M h; exact (zS_none h).elim
  | succ n ih =>
    intro y1 y2 y3 M h
    rw [lm_layWays_c73] at h
    refine E_iload_n (pc := 73) (zDk zD_261_ok 44 rfl) rfl ?_
    refine E_iload_n (pc := 74) (zDk zD_261_ok 45 rfl) rfl ?_
    refine E_iload_n (pc := 75) (zDk zD_261_ok 46 rfl) rfl ?_
    refine W_imul (pc := 76) (zDk zD_261_ok 47 rfl) ?_
    refine E_icmp (pc := 77) (t := 131) (zDk zD_261_ok 48 rfl) rfl (fun hz => ?_) (fun hz => ?_)
    · have h := zS_f h (Int.not_lt.mpr (T_ge hz))
      refine W_iinc (pc := 131) (L' := [some (.inr (.inr 106)), some (.inl y1), some (.inl (w32 (y2 + 1))), some (.inl y3)]) (zDk zD_261_ok 85 rfl) rfl zm_261 (by decide) rfl ?_
      refine E_goto (pc := 134) (t := 66) (zDk zD_261_ok 86 rfl) rfl ?_
      exact H66 y1 (w32 (y2 + 1)) M (some (.inl y3)) h
    · have h := zS_t h (F_ge hz)
      refine E_aload_n (pc := 80) (zDk zD_261_ok 49 rfl) rfl ?_
      refine E_getR (pc := 81) (ci := 8) (f := 30) (r := 124) (zDk zD_261_ok 50 rfl) zc_261 (by decide +kernel) (by decide) zis_8_106 (by decide +kernel) (by decide) ?_
      refine E_bipush (pc := 84) (zDk zD_261_ok 51 rfl) (by decide +kernel) ?_
      refine E_iload_n (pc := 86) (zDk zD_261_ok 52 rfl) rfl ?_
      refine E_iload_n (pc := 87) (zDk zD_261_ok 53 rfl) rfl ?_
      have hn88 : ¬ (y1 = 0) := fun e => by rw [if_pos e] at h; exact zS_none h
      have h := zS_f h hn88
      refine E_idiv (pc := 88) (zDk zD_261_ok 54 rfl) hn88 ?_
      refine W_imul (pc := 89) (zDk zD_261_ok 55 rfl) ?_
      refine E_iload_n (pc := 90) (zDk zD_261_ok 56 rfl) rfl ?_
      refine E_iload_n (pc := 91) (zDk zD_261_ok 57 rfl) rfl ?_
      have hn92 : ¬ (y1 = 0) := fun e => by rw [if_pos e] at h; exact zS_none h
      have h := zS_f h hn92
      refine E_irem (pc := 92) (zDk zD_261_ok 58 rfl) hn92 ?_
      refine W_iadd (pc := 93) (zDk zD_261_ok 59 rfl) ?_
      refine E_aload_n (pc := 94) (zDk zD_261_ok 60 rfl) rfl ?_
      refine E_iload_n (pc := 95) (zDk zD_261_ok 61 rfl) rfl ?_
      refine E_iload_n (pc := 96) (zDk zD_261_ok 62 rfl) rfl ?_
      have hn97 : ¬ (y1 = 0) := fun e => by rw [if_pos e] at h; exact zS_none h
      have h := zS_f h hn97
      refine E_idiv (pc := 97) (zDk zD_261_ok 63 rfl) hn97 ?_
      refine E_iload_n (pc := 98) (zDk zD_261_ok 64 rfl) rfl ?_
      refine E_iload_n (pc := 99) (zDk zD_261_ok 65 rfl) rfl ?_
      have hn100 : ¬ (y1 = 0) := fun e => by rw [if_pos e] at h; exact zS_none h
      have h := zS_f h hn100
      refine E_irem (pc := 100) (zDk zD_261_ok 66 rfl) hn100 ?_
      obtain ⟨v101, e101, h⟩ := zS_bind h
      refine E_virI (pc := 101) (c := 260) (r := 106) (as := [.inl (zdiv y3 y1), .inl (zrem y3 y1)]) (rest := [.inl (w32 ((w32 ((8 : Int) * (zdiv y3 y1))) + (zrem y3 y1))), .inr (.inr 124)]) (zDk zD_261_ok 67 rfl) zc_261 (by decide +kernel) zk_260 ⟨(Nat.le_of_ble_eq_true rfl), rfl, rfl⟩ (Nat.le_of_ble_eq_true rfl) (zr_260 _) (Nat.lt_of_lt_of_le (by decide) hq) (by rw [zm_260]; exact (Nat.le_of_ble_eq_true rfl)) ⟨zc_260, by decide⟩ zis_8_106 (ok_lm_wayOf ⟨v101, e101, ?_⟩)
      refine E_aload_n (pc := 104) (zDk zD_261_ok 68 rfl) rfl ?_
      refine E_iload_n (pc := 105) (zDk zD_261_ok 69 rfl) rfl ?_
      refine E_iload_n (pc := 106) (zDk zD_261_ok 70 rfl) rfl ?_
      have hn107 : ¬ (y1 = 0) := fun e => by rw [if_pos e] at h; exact zS_none h
      have h := zS_f h hn107
      refine E_idiv (pc := 107) (zDk zD_261_ok 71 rfl) hn107 ?_
      refine E_iload_n (pc := 108) (zDk zD_261_ok 72 rfl) rfl ?_
      obtain ⟨v109, e109, h⟩ := zS_bind h
      refine E_virI (pc := 109) (c := 260) (r := 106) (as := [.inl (zdiv y3 y1), .inl y2]) (rest := [.inl v101, .inl (w32 ((w32 ((8 : Int) * (zdiv y3 y1))) + (zrem y3 y1))), .inr (.inr 124)]) (zDk zD_261_ok 73 rfl) zc_261 (by decide +kernel) zk_260 ⟨(Nat.le_of_ble_eq_true rfl), rfl, rfl⟩ (Nat.le_of_ble_eq_true rfl) (zr_260 _) (Nat.lt_of_lt_of_le (by decide) hq) (by rw [zm_260]; exact (Nat.le_of_ble_eq_true rfl)) ⟨zc_260, by decide⟩ zis_8_106 (ok_lm_wayOf ⟨v109, e109, ?_⟩)
      refine E_aload_n (pc := 112) (zDk zD_261_ok 74 rfl) rfl ?_
      refine E_iload_n (pc := 113) (zDk zD_261_ok 75 rfl) rfl ?_
      refine E_iload_n (pc := 114) (zDk zD_261_ok 76 rfl) rfl ?_
      refine E_iload_n (pc := 115) (zDk zD_261_ok 77 rfl) rfl ?_
      have hn116 : ¬ (y1 = 0) := fun e => by rw [if_pos e] at h; exact zS_none h
      have h := zS_f h hn116
      refine E_irem (pc := 116) (zDk zD_261_ok 78 rfl) hn116 ?_
      obtain ⟨v117, e117, h⟩ := zS_bind h
      refine E_virI (pc := 117) (c := 260) (r := 106) (as := [.inl y2, .inl (zrem y3 y1)]) (rest := [.inl v109, .inl v101, .inl (w32 ((w32 ((8 : Int) * (zdiv y3 y1))) + (zrem y3 y1))), .inr (.inr 124)]) (zDk zD_261_ok 79 rfl) zc_261 (by decide +kernel) zk_260 ⟨(Nat.le_of_ble_eq_true rfl), rfl, rfl⟩ (Nat.le_of_ble_eq_true rfl) (zr_260 _) (Nat.lt_of_lt_of_le (by decide) hq) (by rw [zm_260]; exact (Nat.le_of_ble_eq_true rfl)) ⟨zc_260, by decide⟩ zis_8_106 (ok_lm_wayOf ⟨v117, e117, ?_⟩)
      refine W_iadd (pc := 120) (zDk zD_261_ok 80 rfl) ?_
      refine W_min (pc := 121) (zDk zD_261_ok 81 rfl) zc_261 (by decide +kernel) (Nat.le_of_ble_eq_true rfl) (Nat.lt_of_lt_of_le (by decide) hq) ?_
      obtain ⟨M124, e124, h⟩ := zS_bind h
      refine E_iastore (pc := 124) (zDk zD_261_ok 82 rfl) e124 ?_
      refine W_iinc (pc := 125) (L' := [some (.inr (.inr 106)), some (.inl y1), some (.inl y2), some (.inl (w32 (y3 + 1)))]) (zDk zD_261_ok 83 rfl) rfl zm_261 (by decide) rfl ?_
      refine E_goto (pc := 128) (t := 73) (zDk zD_261_ok 84 rfl) rfl ?_
      exact (ih) y1 y2 (w32 (y3 + 1)) M124 h
def lm_layWays_c66 : Nat → Int → Int → (Nat → Nat → Int) → Option (Nat → Nat → Int)
  | 0, _, _, _ => none
  | n + 1, y1, y2, M =>
    (if y2 < y1 then
    (lm_layWays_c73 (lm_layWays_c66 n) zN y1 y2 (0 : Int) M)
    else
    (some M))
set_option maxRecDepth 100000 in
theorem ok_lm_layWays_c66 {sc : zSc} {q : Nat} {P : Option zV → (Nat → Nat → Int) → Prop} (hq : 2 ≤ q) : ∀ (n : Nat) (y1 : Int) (y2 : Int) (M : Nat → Nat → Int) (d3 : Option zV), zS (lm_layWays_c66 n y1 y2 M) (fun M0 => P none M0) → zWp sc q 261 66 [some (.inr (.inr 106)), some (.inl y1), some (.inl y2), d3] [] M P := by
  intro n
  induction n with
  | zero => intro y1 y2 M d3 h; exact (zS_none h).elim
  | succ n ih =>
    intro y1 y2 M d3 h
    rw [lm_layWays_c66] at h
    refine E_iload_n (pc := 66) (zDk zD_261_ok 39 rfl) rfl ?_
    refine E_iload_n (pc := 67) (zDk zD_261_ok 40 rfl) rfl ?_
    refine E_icmp (pc := 68) (t := 137) (zDk zD_261_ok 41 rfl) rfl (fun hz => ?_) (fun hz => ?_)
    · have h := zS_f h (Int.not_lt.mpr (T_ge hz))
      have h := zS_some h
      exact E_return (x := ()) (pc := 137) (zDk zD_261_ok 87 rfl) zt_261 h
    · have h := zS_t h (F_ge hz)
      refine E_iconst (pc := 71) (zDk zD_261_ok 42 rfl) (by decide +kernel) ?_
      refine W_istore_n (pc := 72) (L' := [some (.inr (.inr 106)), some (.inl y1), some (.inl y2), some (.inl (0 : Int))]) (zDk zD_261_ok 43 rfl) zm_261 (by decide) rfl ?_
      exact ok_lm_layWays_c73 hq (lm_layWays_c66 n) (ih) zN y1 y2 (0 : Int) M h
def lm_layWays_c9 : Nat → Int → Int → (Nat → Nat → Int) → Option (Nat → Nat → Int)
  | 0, _, _, _ => none
  | n + 1, y1, y2, M =>
    (if y2 < (64 : Int) then
    (if (zdiv y2 (8 : Int)) = (zrem y2 (8 : Int)) then
    ((wrI 124 y2 (0 : Int) M).bind (fun M57 =>
    ((lm_layWays_c9 n) y1 (w32 (y2 + 1)) M57)))
    else
    ((lm_isJoined (zdiv y2 (8 : Int)) (zrem y2 (8 : Int)) M).bind (fun v44 =>
    (if v44 = 0 then
    ((wrI 124 y2 (1000000000 : Int) M).bind (fun M57 =>
    ((lm_layWays_c9 n) y1 (w32 (y2 + 1)) M57)))
    else
    ((wrI 124 y2 (1 : Int) M).bind (fun M57 =>
    ((lm_layWays_c9 n) y1 (w32 (y2 + 1)) M57)))))))
    else
    (lm_layWays_c66 zN y1 (0 : Int) M))
set_option maxRecDepth 100000 in
theorem ok_lm_layWays_c9 {sc : zSc} {q : Nat} {P : Option zV → (Nat → Nat → Int) → Prop} (hq : 2 ≤ q) : ∀ (n : Nat) (y1 : Int) (y2 : Int) (M : Nat → Nat → Int) (d3 : Option zV), zS (lm_layWays_c9 n y1 y2 M) (fun M0 => P none M0) → zWp sc q 261 9 [some (.inr (.inr 106)), some (.inl y1), some (.inl y2), d3] [] M P := by
  intro n
  induction n with
  | zero => intro y1 y2 M d3 h; exact (zS_none h).elim
  | succ n ih =>
    intro y1 y2 M d3 h
    rw [lm_layWays_c9] at h
    refine E_iload_n (pc := 9) (zDk zD_261_ok 7 rfl) rfl ?_
    refine E_bipush (pc := 10) (zDk zD_261_ok 8 rfl) (by decide +kernel) ?_
    refine E_icmp (pc := 12) (t := 64) (zDk zD_261_ok 9 rfl) rfl (fun hz => ?_) (fun hz => ?_)
    · have h := zS_f h (Int.not_lt.mpr (T_ge hz))
      refine E_iconst (pc := 64) (zDk zD_261_ok 37 rfl) (by decide +kernel) ?_
      refine W_istore_n (pc := 65) (L' := [some (.inr (.inr 106)), some (.inl y1), some (.inl (0 : Int)), d3]) (zDk zD_261_ok 38 rfl) zm_261 (by decide) rfl ?_
      exact ok_lm_layWays_c66 hq zN y1 (0 : Int) M d3 h
    · have h := zS_t h (F_ge hz)
      refine E_aload_n (pc := 15) (zDk zD_261_ok 10 rfl) rfl ?_
      refine E_getR (pc := 16) (ci := 8) (f := 30) (r := 124) (zDk zD_261_ok 11 rfl) zc_261 (by decide +kernel) (by decide) zis_8_106 (by decide +kernel) (by decide) ?_
      refine E_iload_n (pc := 19) (zDk zD_261_ok 12 rfl) rfl ?_
      refine E_iload_n (pc := 20) (zDk zD_261_ok 13 rfl) rfl ?_
      refine E_bipush (pc := 21) (zDk zD_261_ok 14 rfl) (by decide +kernel) ?_
      refine E_idiv (pc := 23) (zDk zD_261_ok 15 rfl) (by decide) ?_
      refine E_iload_n (pc := 24) (zDk zD_261_ok 16 rfl) rfl ?_
      refine E_bipush (pc := 25) (zDk zD_261_ok 17 rfl) (by decide +kernel) ?_
      refine E_irem (pc := 27) (zDk zD_261_ok 18 rfl) (by decide) ?_
      refine E_icmp (pc := 28) (t := 35) (zDk zD_261_ok 19 rfl) rfl (fun hz => ?_) (fun hz => ?_)
      · have h := zS_f h (T_ne hz)
        refine E_aload_n (pc := 35) (zDk zD_261_ok 22 rfl) rfl ?_
        refine E_iload_n (pc := 36) (zDk zD_261_ok 23 rfl) rfl ?_
        refine E_bipush (pc := 37) (zDk zD_261_ok 24 rfl) (by decide +kernel) ?_
        refine E_idiv (pc := 39) (zDk zD_261_ok 25 rfl) (by decide) ?_
        refine E_iload_n (pc := 40) (zDk zD_261_ok 26 rfl) rfl ?_
        refine E_bipush (pc := 41) (zDk zD_261_ok 27 rfl) (by decide +kernel) ?_
        refine E_irem (pc := 43) (zDk zD_261_ok 28 rfl) (by decide) ?_
        obtain ⟨v44, e44, h⟩ := zS_bind h
        refine E_virI (pc := 44) (c := 215) (r := 106) (as := [.inl (zdiv y2 (8 : Int)), .inl (zrem y2 (8 : Int))]) (rest := [.inl y2, .inr (.inr 124)]) (zDk zD_261_ok 29 rfl) zc_261 (by decide +kernel) zk_215 ⟨(Nat.le_of_ble_eq_true rfl), rfl, rfl⟩ (Nat.le_of_ble_eq_true rfl) (zr_215 _) (Nat.lt_of_lt_of_le (by decide) hq) (by rw [zm_215]; exact (Nat.le_of_ble_eq_true rfl)) ⟨zc_215, by decide⟩ zis_8_106 (ok_lm_isJoined ⟨v44, e44, ?_⟩)
        refine E_if (pc := 47) (t := 54) (zDk zD_261_ok 30 rfl) rfl (fun hz => ?_) (fun hz => ?_)
        · have h := zS_t h (T_eq hz)
          refine E_ldc_w (pc := 54) (v := .inl (1000000000 : Int)) (zDk zD_261_ok 33 rfl) zc_261 (by decide +kernel) ?_
          obtain ⟨M57, e57, h⟩ := zS_bind h
          refine E_iastore (pc := 57) (zDk zD_261_ok 34 rfl) e57 ?_
          refine W_iinc (pc := 58) (L' := [some (.inr (.inr 106)), some (.inl y1), some (.inl (w32 (y2 + 1))), d3]) (zDk zD_261_ok 35 rfl) rfl zm_261 (by decide) rfl ?_
          refine E_goto (pc := 61) (t := 9) (zDk zD_261_ok 36 rfl) rfl ?_
          exact (ih) y1 (w32 (y2 + 1)) M57 d3 h
        · have h := zS_f h (F_eq hz)
          refine E_iconst (pc := 50) (zDk zD_261_ok 31 rfl) (by decide +kernel) ?_
          refine E_goto (pc := 51) (t := 57) (zDk zD_261_ok 32 rfl) rfl ?_
          obtain ⟨M57, e57, h⟩ := zS_bind h
          refine E_iastore (pc := 57) (zDk zD_261_ok 34 rfl) e57 ?_
          refine W_iinc (pc := 58) (L' := [some (.inr (.inr 106)), some (.inl y1), some (.inl (w32 (y2 + 1))), d3]) (zDk zD_261_ok 35 rfl) rfl zm_261 (by decide) rfl ?_
          refine E_goto (pc := 61) (t := 9) (zDk zD_261_ok 36 rfl) rfl ?_
          exact (ih) y1 (w32 (y2 + 1)) M57 d3 h
      · have h := zS_t h (F_ne hz)
        refine E_iconst (pc := 31) (zDk zD_261_ok 20 rfl) (by decide +kernel) ?_
        refine E_goto (pc := 32) (t := 57) (zDk zD_261_ok 21 rfl) rfl ?_
        obtain ⟨M57, e57, h⟩ := zS_bind h
        refine E_iastore (pc := 57) (zDk zD_261_ok 34 rfl) e57 ?_
        refine W_iinc (pc := 58) (L' := [some (.inr (.inr 106)), some (.inl y1), some (.inl (w32 (y2 + 1))), d3]) (zDk zD_261_ok 35 rfl) rfl zm_261 (by decide) rfl ?_
        refine E_goto (pc := 61) (t := 9) (zDk zD_261_ok 36 rfl) rfl ?_
        exact (ih) y1 (w32 (y2 + 1)) M57 d3 h
def lm_layWays (M : Nat → Nat → Int) : Option (Nat → Nat → Int) :=
    ((rdI 107 (0 : Int) M).bind (fun v5 =>
    (lm_layWays_c9 zN v5 (0 : Int) M)))
set_option maxRecDepth 100000 in
theorem ok_lm_layWays {sc : zSc} {M : Nat → Nat → Int} {P : (Nat → Nat → Int) → Prop} (h : zS (lm_layWays M) P) : zCv sc 261 [.inr (.inr 106)] M P := by
  have ea : zarg (zml 261) [.inr (.inr 106)] = [some (.inr (.inr 106)), none, none, none] := by rw [zm_261]; rfl
  unfold zCv zCw
  rw [ea, zr_261]
  have hq : 2 ≤ 2 := Nat.le_refl _
  unfold lm_layWays at h
  have h := zS_mono h (fun x hx => (⟨rfl, hx⟩ : (none : Option zV) = none ∧ P x))
  skip
  refine E_aload_n (pc := 0) (zDk zD_261_ok 0 rfl) rfl ?_
  refine E_getR (pc := 1) (ci := 8) (f := 1) (r := 107) (zDk zD_261_ok 1 rfl) zc_261 (by decide +kernel) (by decide) zis_8_106 (by decide +kernel) (by decide) ?_
  refine E_iconst (pc := 4) (zDk zD_261_ok 2 rfl) (by decide +kernel) ?_
  obtain ⟨v5, e5, h⟩ := zS_bind h
  refine E_iaload (pc := 5) (zDk zD_261_ok 3 rfl) e5 ?_
  refine W_istore_n (pc := 6) (L' := [some (.inr (.inr 106)), some (.inl v5), none, none]) (zDk zD_261_ok 4 rfl) zm_261 (by decide) rfl ?_
  refine E_iconst (pc := 7) (zDk zD_261_ok 5 rfl) (by decide +kernel) ?_
  refine W_istore_n (pc := 8) (L' := [some (.inr (.inr 106)), some (.inl v5), some (.inl (0 : Int)), none]) (zDk zD_261_ok 6 rfl) zm_261 (by decide) rfl ?_
  exact ok_lm_layWays_c9 hq zN v5 (0 : Int) M none h
def zD_265 : List (Nat × Instr × Nat) := [(0, .iconst (-1), 1), (1, .istore_n (2), 1), (2, .ldc_w (341), 3), (5, .istore_n (3), 1), (6, .iconst (0), 1), (7, .istore (4), 2), (9, .iload (4), 2), (11, .aload_n (0), 1), (12, .getfield (9), 3), (15, .iconst (0), 1), (16, .iaload, 1), (17, .if_icmp .ge (33), 3), (20, .aload_n (0), 1), (21, .iload_n (1), 1), (22, .iload (4), 2), (24, .invokevirtual (351), 3), (27, .istore (5), 2), (29, .iload (5), 2), (31, .iload_n (3), 1), (32, .if_icmp .lt (6), 3), (35, .goto (9), 3), (38, .iload (5), 2), (40, .istore_n (3), 1), (41, .iload (4), 2), (43, .istore_n (2), 1), (44, .iinc (4) (1), 3), (47, .goto (-38), 3), (50, .iload_n (2), 1), (51, .ireturn, 1)]
set_option maxRecDepth 100000 in
theorem zD_265_ok : zDo 265 zD_265 = true := by decide +kernel
theorem zc_265 : zcls 265 = 8 := by decide +kernel
theorem zm_265 : zml 265 = 6 := by decide +kernel
theorem zt_265 : zrt 265 = (some (.int)) := by decide +kernel
theorem zk_265 : zkd 265 = 1 ∧ znp 265 + 1 = 2 := by decide +kernel
theorem zr_265 (as : List zV) : zrk 265 as = 2 := by unfold zrk; rw [if_neg (by decide)]; decide +kernel
def lm_hallOf_c9 (x1 : Int) (M : Nat → Nat → Int) : Nat → Int → Int → Int → Option Int
  | 0, _, _, _ => none
  | n + 1, y2, y3, y4 =>
    ((rdI 107 (0 : Int) M).bind (fun v16 =>
    (if y4 < v16 then
    ((lm_farthest x1 y4 M).bind (fun v24 =>
    (if v24 < y3 then
    ((lm_hallOf_c9 x1 M n) y4 v24 (w32 (y4 + 1)))
    else
    ((lm_hallOf_c9 x1 M n) y2 y3 (w32 (y4 + 1))))))
    else
    (some y2))))
set_option maxRecDepth 100000 in
theorem ok_lm_hallOf_c9 {sc : zSc} {q : Nat} {P : Option zV → (Nat → Nat → Int) → Prop} (hq : 2 ≤ q) (x1 : Int) (M : Nat → Nat → Int) : ∀ (n : Nat) (y2 : Int) (y3 : Int) (y4 : Int) (d5 : Option zV), zS (lm_hallOf_c9 x1 M n y2 y3 y4) (fun x => P (some (.inl x)) M) → zWp sc q 265 9 [some (.inr (.inr 106)), some (.inl x1), some (.inl y2), some (.inl y3), some (.inl y4), d5] [] M P := by
  intro n
  induction n with
  | zero => intro y2 y3 y4 d5 h; exact (zS_none h).elim
  | succ n ih =>
    intro y2 y3 y4 d5 h
    rw [lm_hallOf_c9] at h
    refine E_iload (pc := 9) (zDk zD_265_ok 6 rfl) rfl ?_
    refine E_aload_n (pc := 11) (zDk zD_265_ok 7 rfl) rfl ?_
    refine E_getR (pc := 12) (ci := 8) (f := 1) (r := 107) (zDk zD_265_ok 8 rfl) zc_265 (by decide +kernel) (by decide) zis_8_106 (by decide +kernel) (by decide) ?_
    refine E_iconst (pc := 15) (zDk zD_265_ok 9 rfl) (by decide +kernel) ?_
    obtain ⟨v16, e16, h⟩ := zS_bind h
    refine E_iaload (pc := 16) (zDk zD_265_ok 10 rfl) e16 ?_
    refine E_icmp (pc := 17) (t := 50) (zDk zD_265_ok 11 rfl) rfl (fun hz => ?_) (fun hz => ?_)
    · have h := zS_f h (Int.not_lt.mpr (T_ge hz))
      refine E_iload_n (pc := 50) (zDk zD_265_ok 27 rfl) rfl ?_
      have h := zS_some h
      exact E_ireturn (pc := 51) (zDk zD_265_ok 28 rfl) zt_265 h
    · have h := zS_t h (F_ge hz)
      refine E_aload_n (pc := 20) (zDk zD_265_ok 12 rfl) rfl ?_
      refine E_iload_n (pc := 21) (zDk zD_265_ok 13 rfl) rfl ?_
      refine E_iload (pc := 22) (zDk zD_265_ok 14 rfl) rfl ?_
      obtain ⟨v24, e24, h⟩ := zS_bind h
      refine E_virI (pc := 24) (c := 266) (r := 106) (as := [.inl x1, .inl y4]) (rest := []) (zDk zD_265_ok 15 rfl) zc_265 (by decide +kernel) zk_266 ⟨(Nat.le_of_ble_eq_true rfl), rfl, rfl⟩ (Nat.le_of_ble_eq_true rfl) (zr_266 _) (Nat.lt_of_lt_of_le (by decide) hq) (by rw [zm_266]; exact (Nat.le_of_ble_eq_true rfl)) ⟨zc_266, by decide⟩ zis_8_106 (ok_lm_farthest ⟨v24, e24, ?_⟩)
      refine W_istore (pc := 27) (L' := [some (.inr (.inr 106)), some (.inl x1), some (.inl y2), some (.inl y3), some (.inl y4), some (.inl v24)]) (zDk zD_265_ok 16 rfl) zm_265 (by decide) rfl ?_
      refine E_iload (pc := 29) (zDk zD_265_ok 17 rfl) rfl ?_
      refine E_iload_n (pc := 31) (zDk zD_265_ok 18 rfl) rfl ?_
      refine E_icmp (pc := 32) (t := 38) (zDk zD_265_ok 19 rfl) rfl (fun hz => ?_) (fun hz => ?_)
      · have h := zS_t h (T_lt hz)
        refine E_iload (pc := 38) (zDk zD_265_ok 21 rfl) rfl ?_
        refine W_istore_n (pc := 40) (L' := [some (.inr (.inr 106)), some (.inl x1), some (.inl y2), some (.inl v24), some (.inl y4), some (.inl v24)]) (zDk zD_265_ok 22 rfl) zm_265 (by decide) rfl ?_
        refine E_iload (pc := 41) (zDk zD_265_ok 23 rfl) rfl ?_
        refine W_istore_n (pc := 43) (L' := [some (.inr (.inr 106)), some (.inl x1), some (.inl y4), some (.inl v24), some (.inl y4), some (.inl v24)]) (zDk zD_265_ok 24 rfl) zm_265 (by decide) rfl ?_
        refine W_iinc (pc := 44) (L' := [some (.inr (.inr 106)), some (.inl x1), some (.inl y4), some (.inl v24), some (.inl (w32 (y4 + 1))), some (.inl v24)]) (zDk zD_265_ok 25 rfl) rfl zm_265 (by decide) rfl ?_
        refine E_goto (pc := 47) (t := 9) (zDk zD_265_ok 26 rfl) rfl ?_
        exact (ih) y4 v24 (w32 (y4 + 1)) (some (.inl v24)) h
      · have h := zS_f h (Int.not_lt.mpr (F_lt hz))
        refine E_goto (pc := 35) (t := 44) (zDk zD_265_ok 20 rfl) rfl ?_
        refine W_iinc (pc := 44) (L' := [some (.inr (.inr 106)), some (.inl x1), some (.inl y2), some (.inl y3), some (.inl (w32 (y4 + 1))), some (.inl v24)]) (zDk zD_265_ok 25 rfl) rfl zm_265 (by decide) rfl ?_
        refine E_goto (pc := 47) (t := 9) (zDk zD_265_ok 26 rfl) rfl ?_
        exact (ih) y2 y3 (w32 (y4 + 1)) (some (.inl v24)) h
def lm_hallOf (x1 : Int) (M : Nat → Nat → Int) : Option Int :=
    (lm_hallOf_c9 x1 M zN (-1 : Int) (1000000000 : Int) (0 : Int))
set_option maxRecDepth 100000 in
theorem ok_lm_hallOf {sc : zSc} {x1 : Int} {M : Nat → Nat → Int} {P : Int → (Nat → Nat → Int) → Prop} (h : zS (lm_hallOf x1 M) (fun x => P x M)) : zCi sc 265 [.inr (.inr 106), .inl x1] M P := by
  have ea : zarg (zml 265) [.inr (.inr 106), .inl x1] = [some (.inr (.inr 106)), some (.inl x1), none, none, none, none] := by rw [zm_265]; rfl
  unfold zCi zCw
  rw [ea, zr_265]
  have hq : 2 ≤ 2 := Nat.le_refl _
  unfold lm_hallOf at h
  have h := zS_mono h (fun x hx => (⟨x, rfl, hx⟩ : ∃ y, (some (.inl x) : Option zV) = some (.inl y) ∧ P y M))
  skip
  refine E_iconst (pc := 0) (zDk zD_265_ok 0 rfl) (by decide +kernel) ?_
  refine W_istore_n (pc := 1) (L' := [some (.inr (.inr 106)), some (.inl x1), some (.inl (-1 : Int)), none, none, none]) (zDk zD_265_ok 1 rfl) zm_265 (by decide) rfl ?_
  refine E_ldc_w (pc := 2) (v := .inl (1000000000 : Int)) (zDk zD_265_ok 2 rfl) zc_265 (by decide +kernel) ?_
  refine W_istore_n (pc := 5) (L' := [some (.inr (.inr 106)), some (.inl x1), some (.inl (-1 : Int)), some (.inl (1000000000 : Int)), none, none]) (zDk zD_265_ok 3 rfl) zm_265 (by decide) rfl ?_
  refine E_iconst (pc := 6) (zDk zD_265_ok 4 rfl) (by decide +kernel) ?_
  refine W_istore (pc := 7) (L' := [some (.inr (.inr 106)), some (.inl x1), some (.inl (-1 : Int)), some (.inl (1000000000 : Int)), some (.inl (0 : Int)), none]) (zDk zD_265_ok 5 rfl) zm_265 (by decide) rfl ?_
  exact ok_lm_hallOf_c9 hq x1 M zN (-1 : Int) (1000000000 : Int) (0 : Int) none h
def zD_272 : List (Nat × Instr × Nat) := [(0, .aload_n (0), 1), (1, .iload_n (1), 1), (2, .invokevirtual (265), 3), (5, .ifCond .eq (20), 3), (8, .aload_n (0), 1), (9, .iload_n (2), 1), (10, .invokevirtual (265), 3), (13, .ifCond .eq (12), 3), (16, .iload_n (1), 1), (17, .iload_n (2), 1), (18, .if_icmp .eq (7), 3), (21, .iconst (1), 1), (22, .goto (4), 3), (25, .iconst (0), 1), (26, .ireturn, 1)]
set_option maxRecDepth 100000 in
theorem zD_272_ok : zDo 272 zD_272 = true := by decide +kernel
theorem zc_272 : zcls 272 = 8 := by decide +kernel
theorem zm_272 : zml 272 = 3 := by decide +kernel
theorem zt_272 : zrt 272 = (some (.boolean)) := by decide +kernel
theorem zk_272 : zkd 272 = 1 ∧ znp 272 + 1 = 3 := by decide +kernel
theorem zr_272 (as : List zV) : zrk 272 as = 2 := by unfold zrk; rw [if_neg (by decide)]; decide +kernel
def lm_areTwo (x1 : Int) (x2 : Int) (M : Nat → Nat → Int) : Option Int :=
    ((lm_isName x1 M).bind (fun v2 =>
    (if v2 = 0 then
    (some (0 : Int))
    else
    ((lm_isName x2 M).bind (fun v10 =>
    (if v10 = 0 then
    (some (0 : Int))
    else
    (if x1 = x2 then
    (some (0 : Int))
    else
    (some (1 : Int)))))))))
set_option maxRecDepth 100000 in
theorem ok_lm_areTwo {sc : zSc} {x1 : Int} {x2 : Int} {M : Nat → Nat → Int} {P : Int → (Nat → Nat → Int) → Prop} (h : zS (lm_areTwo x1 x2 M) (fun x => P x M)) : zCi sc 272 [.inr (.inr 106), .inl x1, .inl x2] M P := by
  have ea : zarg (zml 272) [.inr (.inr 106), .inl x1, .inl x2] = [some (.inr (.inr 106)), some (.inl x1), some (.inl x2)] := by rw [zm_272]; rfl
  unfold zCi zCw
  rw [ea, zr_272]
  have hq : 2 ≤ 2 := Nat.le_refl _
  unfold lm_areTwo at h
  have h := zS_mono h (fun x hx => (⟨x, rfl, hx⟩ : ∃ y, (some (.inl x) : Option zV) = some (.inl y) ∧ P y M))
  skip
  refine E_aload_n (pc := 0) (zDk zD_272_ok 0 rfl) rfl ?_
  refine E_iload_n (pc := 1) (zDk zD_272_ok 1 rfl) rfl ?_
  obtain ⟨v2, e2, h⟩ := zS_bind h
  refine E_virI (pc := 2) (c := 186) (r := 106) (as := [.inl x1]) (rest := []) (zDk zD_272_ok 2 rfl) zc_272 (by decide +kernel) zk_186 ⟨(Nat.le_of_ble_eq_true rfl), rfl, rfl⟩ (Nat.le_of_ble_eq_true rfl) (zr_186 _) (Nat.lt_of_lt_of_le (by decide) hq) (by rw [zm_186]; exact (Nat.le_of_ble_eq_true rfl)) ⟨zc_186, by decide⟩ zis_8_106 (ok_lm_isName ⟨v2, e2, ?_⟩)
  refine E_if (pc := 5) (t := 25) (zDk zD_272_ok 3 rfl) rfl (fun hz => ?_) (fun hz => ?_)
  · have h := zS_t h (T_eq hz)
    refine E_iconst (pc := 25) (zDk zD_272_ok 13 rfl) (by decide +kernel) ?_
    have h := zS_some h
    exact E_ireturnZ (pc := 26) (zDk zD_272_ok 14 rfl) zt_272 (by decide) h
  · have h := zS_f h (F_eq hz)
    refine E_aload_n (pc := 8) (zDk zD_272_ok 4 rfl) rfl ?_
    refine E_iload_n (pc := 9) (zDk zD_272_ok 5 rfl) rfl ?_
    obtain ⟨v10, e10, h⟩ := zS_bind h
    refine E_virI (pc := 10) (c := 186) (r := 106) (as := [.inl x2]) (rest := []) (zDk zD_272_ok 6 rfl) zc_272 (by decide +kernel) zk_186 ⟨(Nat.le_of_ble_eq_true rfl), rfl, rfl⟩ (Nat.le_of_ble_eq_true rfl) (zr_186 _) (Nat.lt_of_lt_of_le (by decide) hq) (by rw [zm_186]; exact (Nat.le_of_ble_eq_true rfl)) ⟨zc_186, by decide⟩ zis_8_106 (ok_lm_isName ⟨v10, e10, ?_⟩)
    refine E_if (pc := 13) (t := 25) (zDk zD_272_ok 7 rfl) rfl (fun hz => ?_) (fun hz => ?_)
    · have h := zS_t h (T_eq hz)
      refine E_iconst (pc := 25) (zDk zD_272_ok 13 rfl) (by decide +kernel) ?_
      have h := zS_some h
      exact E_ireturnZ (pc := 26) (zDk zD_272_ok 14 rfl) zt_272 (by decide) h
    · have h := zS_f h (F_eq hz)
      refine E_iload_n (pc := 16) (zDk zD_272_ok 8 rfl) rfl ?_
      refine E_iload_n (pc := 17) (zDk zD_272_ok 9 rfl) rfl ?_
      refine E_icmp (pc := 18) (t := 25) (zDk zD_272_ok 10 rfl) rfl (fun hz => ?_) (fun hz => ?_)
      · have h := zS_t h (T_eq hz)
        refine E_iconst (pc := 25) (zDk zD_272_ok 13 rfl) (by decide +kernel) ?_
        have h := zS_some h
        exact E_ireturnZ (pc := 26) (zDk zD_272_ok 14 rfl) zt_272 (by decide) h
      · have h := zS_f h (F_eq hz)
        refine E_iconst (pc := 21) (zDk zD_272_ok 11 rfl) (by decide +kernel) ?_
        refine E_goto (pc := 22) (t := 26) (zDk zD_272_ok 12 rfl) rfl ?_
        have h := zS_some h
        exact E_ireturnZ (pc := 26) (zDk zD_272_ok 14 rfl) zt_272 (by decide) h
def zD_289 : List (Nat × Instr × Nat) := [(0, .iload_n (1), 1), (1, .invokestatic (375), 3), (4, .ifCond .eq (10), 3), (7, .aload_n (0), 1), (8, .invokevirtual (95), 3), (11, .ifCond .ne (6), 3), (14, .bipush (-2), 2), (16, .ireturn, 1), (17, .aload_n (0), 1), (18, .getfield (73), 3), (21, .iload_n (1), 1), (22, .iaload, 1), (23, .iconst (-1), 1), (24, .if_icmp .ne (6), 3), (27, .bipush (-6), 2), (29, .ireturn, 1), (30, .aload_n (0), 1), (31, .getfield (73), 3), (34, .iload_n (1), 1), (35, .iaload, 1), (36, .iconst (2), 1), (37, .irem, 1), (38, .ifCond .eq (6), 3), (41, .bipush (-2), 2), (43, .ireturn, 1), (44, .iconst (0), 1), (45, .istore_n (2), 1), (46, .iload_n (2), 1), (47, .aload_n (0), 1), (48, .getfield (73), 3), (51, .iload_n (1), 1), (52, .iaload, 1), (53, .if_icmp .ge (48), 3), (56, .aload_n (0), 1), (57, .iload_n (1), 1), (58, .iload_n (2), 1), (59, .invokevirtual (378), 3), (62, .ldc2_w (89), 3), (65, .ldc2_w (391), 3), (68, .invokestatic (91), 3), (71, .ifCond .eq (21), 3), (74, .aload_n (0), 1), (75, .iload_n (1), 1), (76, .iload_n (2), 1), (77, .iconst (1), 1), (78, .iadd, 1), (79, .invokevirtual (378), 3), (82, .lconst (0), 1), (83, .ldc2_w (393), 3), (86, .invokestatic (91), 3), (89, .ifCond .ne (6), 3), (92, .bipush (-2), 2), (94, .ireturn, 1), (95, .iinc (2) (2), 3), (98, .goto (-52), 3), (101, .iconst (0), 1), (102, .istore_n (2), 1), (103, .iconst (0), 1), (104, .istore_n (3), 1), (105, .iload_n (3), 1), (106, .aload_n (0), 1), (107, .invokevirtual (279), 3), (110, .if_icmp .ge (87), 3), (113, .iconst (1), 1), (114, .istore (4), 2), (116, .iconst (0), 1), (117, .istore (5), 2), (119, .iload (5), 2), (121, .aload_n (0), 1), (122, .getfield (73), 3), (125, .iload_n (1), 1), (126, .iaload, 1), (127, .if_icmp .ge (49), 3), (130, .iload (4), 2), (132, .ifCond .eq (35), 3), (135, .aload_n (0), 1), (136, .iload_n (3), 1), (137, .iconst (2), 1), (138, .invokevirtual (251), 3), (141, .i2l, 1), (142, .aload_n (0), 1), (143, .iload_n (1), 1), (144, .iload (5), 2), (146, .invokevirtual (378), 3), (149, .lrem, 1), (150, .aload_n (0), 1), (151, .iload_n (1), 1), (152, .iload (5), 2), (154, .iconst (1), 1), (155, .iadd, 1), (156, .invokevirtual (378), 3), (159, .lcmp, 1), (160, .ifCond .ne (7), 3), (163, .iconst (1), 1), (164, .goto (4), 3), (167, .iconst (0), 1), (168, .istore (4), 2), (170, .iinc (5) (2), 3), (173, .goto (-54), 3), (176, .iload_n (2), 1), (177, .iload (4), 2), (179, .ifCond .eq (9), 3), (182, .iconst (1), 1), (183, .iload_n (3), 1), (184, .ishl, 1), (185, .goto (4), 3), (188, .iconst (0), 1), (189, .ior, 1), (190, .istore_n (2), 1), (191, .iinc (3) (1), 3), (194, .goto (-89), 3), (197, .iload_n (2), 1), (198, .ireturn, 1)]
set_option maxRecDepth 100000 in
theorem zD_289_ok : zDo 289 zD_289 = true := by decide +kernel
theorem zc_289 : zcls 289 = 8 := by decide +kernel
theorem zm_289 : zml 289 = 6 := by decide +kernel
theorem zt_289 : zrt 289 = (some (.int)) := by decide +kernel
theorem zk_289 : zkd 289 = 1 ∧ znp 289 + 1 = 2 := by decide +kernel
theorem zr_289 (as : List zV) : zrk 289 as = 2 := by unfold zrk; rw [if_neg (by decide)]; decide +kernel
def lm_sniffs_c119 (x1 : Int) (M : Nat → Nat → Int) (h105 : Int → Int → Option Int) : Nat → Int → Int → Int → Int → Option Int
  | 0, _, _, _, _ => none
  | n + 1, y2, y3, y4, y5 =>
    ((rdI 126 x1 M).bind (fun v126 =>
    (if y5 < v126 then
    (if y4 = 0 then
    ((lm_sniffs_c119 x1 M h105 n) y2 y3 (0 : Int) (w32 (y5 + 2)))
    else
    ((lm_of y3 (2 : Int) M).bind (fun v138 =>
    ((lm_numberAt x1 y5 M).bind (fun v146 =>
    (if v146 = 0 then none else ((lm_numberAt x1 (w32 (y5 + (1 : Int))) M).bind (fun v156 =>
    (if (zremL v138 v146) = v156 then
    ((lm_sniffs_c119 x1 M h105 n) y2 y3 (1 : Int) (w32 (y5 + 2)))
    else
    ((lm_sniffs_c119 x1 M h105 n) y2 y3 (0 : Int) (w32 (y5 + 2))))))))))))
    else
    (if y4 = 0 then
    (h105 (zor y2 (0 : Int)) (w32 (y3 + 1)))
    else
    (h105 (zor y2 (zshl (1 : Int) y3)) (w32 (y3 + 1)))))))
set_option maxRecDepth 100000 in
theorem ok_lm_sniffs_c119 {sc : zSc} {q : Nat} {P : Option zV → (Nat → Nat → Int) → Prop} (hq : 2 ≤ q) (x1 : Int) (M : Nat → Nat → Int) (h105 : Int → Int → Option Int) (H105 : ∀ (y2 : Int) (y3 : Int) (d4 d5 : Option zV), zS (h105 y2 y3) (fun x => P (some (.inl x)) M) → zWp sc q 289 105 [some (.inr (.inr 106)), some (.inl x1), some (.inl y2), some (.inl y3), d4, d5] [] M P) : ∀ (n : Nat) (y2 : Int) (y3 : Int) (y4 : Int) (y5 : Int), zS (lm_sniffs_c119 x1 M h105 n y2 y3 y4 y5) (fun x => P (some (.inl x)) M) → zWp sc q 289 119 [some (.inr (.inr 106)), some (.inl x1), some (.inl y2), some (.inl y3), some (.inl y4), some (.inl y5)] [] M P := by
  intro n
  induction n with
  | zero => intro y2 y3 y4 y5 h; exact (zS_none h).elim
  | succ n ih =>
    intro y2 y3 y4 y5 h
    rw [lm_sniffs_c119] at h
    refine E_iload (pc := 119) (zDk zD_289_ok 67 rfl) rfl ?_
    refine E_aload_n (pc := 121) (zDk zD_289_ok 68 rfl) rfl ?_
    refine E_getR (pc := 122) (ci := 8) (f := 36) (r := 126) (zDk zD_289_ok 69 rfl) zc_289 (by decide +kernel) (by decide) zis_8_106 (by decide +kernel) (by decide) ?_
    refine E_iload_n (pc := 125) (zDk zD_289_ok 70 rfl) rfl ?_
    obtain ⟨v126, e126, h⟩ := zS_bind h
    refine E_iaload (pc := 126) (zDk zD_289_ok 71 rfl) e126 ?_
    refine E_icmp (pc := 127) (t := 176) (zDk zD_289_ok 72 rfl) rfl (fun hz => ?_) (fun hz => ?_)
    · have h := zS_f h (Int.not_lt.mpr (T_ge hz))
      refine E_iload_n (pc := 176) (zDk zD_289_ok 99 rfl) rfl ?_
      refine E_iload (pc := 177) (zDk zD_289_ok 100 rfl) rfl ?_
      refine E_if (pc := 179) (t := 188) (zDk zD_289_ok 101 rfl) rfl (fun hz => ?_) (fun hz => ?_)
      · have h := zS_t h (T_eq hz)
        refine E_iconst (pc := 188) (zDk zD_289_ok 106 rfl) (by decide +kernel) ?_
        refine E_ior (pc := 189) (zDk zD_289_ok 107 rfl) ?_
        refine W_istore_n (pc := 190) (L' := [some (.inr (.inr 106)), some (.inl x1), some (.inl (zor y2 (0 : Int))), some (.inl y3), some (.inl y4), some (.inl y5)]) (zDk zD_289_ok 108 rfl) zm_289 (by decide) rfl ?_
        refine W_iinc (pc := 191) (L' := [some (.inr (.inr 106)), some (.inl x1), some (.inl (zor y2 (0 : Int))), some (.inl (w32 (y3 + 1))), some (.inl y4), some (.inl y5)]) (zDk zD_289_ok 109 rfl) rfl zm_289 (by decide) rfl ?_
        refine E_goto (pc := 194) (t := 105) (zDk zD_289_ok 110 rfl) rfl ?_
        exact H105 (zor y2 (0 : Int)) (w32 (y3 + 1)) (some (.inl y4)) (some (.inl y5)) h
      · have h := zS_f h (F_eq hz)
        refine E_iconst (pc := 182) (zDk zD_289_ok 102 rfl) (by decide +kernel) ?_
        refine E_iload_n (pc := 183) (zDk zD_289_ok 103 rfl) rfl ?_
        refine E_ishl (pc := 184) (zDk zD_289_ok 104 rfl) ?_
        refine E_goto (pc := 185) (t := 189) (zDk zD_289_ok 105 rfl) rfl ?_
        refine E_ior (pc := 189) (zDk zD_289_ok 107 rfl) ?_
        refine W_istore_n (pc := 190) (L' := [some (.inr (.inr 106)), some (.inl x1), some (.inl (zor y2 (zshl (1 : Int) y3))), some (.inl y3), some (.inl y4), some (.inl y5)]) (zDk zD_289_ok 108 rfl) zm_289 (by decide) rfl ?_
        refine W_iinc (pc := 191) (L' := [some (.inr (.inr 106)), some (.inl x1), some (.inl (zor y2 (zshl (1 : Int) y3))), some (.inl (w32 (y3 + 1))), some (.inl y4), some (.inl y5)]) (zDk zD_289_ok 109 rfl) rfl zm_289 (by decide) rfl ?_
        refine E_goto (pc := 194) (t := 105) (zDk zD_289_ok 110 rfl) rfl ?_
        exact H105 (zor y2 (zshl (1 : Int) y3)) (w32 (y3 + 1)) (some (.inl y4)) (some (.inl y5)) h
    · have h := zS_t h (F_ge hz)
      refine E_iload (pc := 130) (zDk zD_289_ok 73 rfl) rfl ?_
      refine E_if (pc := 132) (t := 167) (zDk zD_289_ok 74 rfl) rfl (fun hz => ?_) (fun hz => ?_)
      · have h := zS_t h (T_eq hz)
        refine E_iconst (pc := 167) (zDk zD_289_ok 95 rfl) (by decide +kernel) ?_
        refine W_istore (pc := 168) (L' := [some (.inr (.inr 106)), some (.inl x1), some (.inl y2), some (.inl y3), some (.inl (0 : Int)), some (.inl y5)]) (zDk zD_289_ok 96 rfl) zm_289 (by decide) rfl ?_
        refine W_iinc (pc := 170) (L' := [some (.inr (.inr 106)), some (.inl x1), some (.inl y2), some (.inl y3), some (.inl (0 : Int)), some (.inl (w32 (y5 + 2)))]) (zDk zD_289_ok 97 rfl) rfl zm_289 (by decide) rfl ?_
        refine E_goto (pc := 173) (t := 119) (zDk zD_289_ok 98 rfl) rfl ?_
        exact (ih) y2 y3 (0 : Int) (w32 (y5 + 2)) h
      · have h := zS_f h (F_eq hz)
        refine E_aload_n (pc := 135) (zDk zD_289_ok 75 rfl) rfl ?_
        refine E_iload_n (pc := 136) (zDk zD_289_ok 76 rfl) rfl ?_
        refine E_iconst (pc := 137) (zDk zD_289_ok 77 rfl) (by decide +kernel) ?_
        obtain ⟨v138, e138, h⟩ := zS_bind h
        refine E_virI (pc := 138) (c := 190) (r := 106) (as := [.inl y3, .inl (2 : Int)]) (rest := []) (zDk zD_289_ok 78 rfl) zc_289 (by decide +kernel) zk_190 ⟨(Nat.le_of_ble_eq_true rfl), rfl, rfl⟩ (Nat.le_of_ble_eq_true rfl) (zr_190 _) (Nat.lt_of_lt_of_le (by decide) hq) (by rw [zm_190]; exact (Nat.le_of_ble_eq_true rfl)) ⟨zc_190, by decide⟩ zis_8_106 (ok_lm_of ⟨v138, e138, ?_⟩)
        refine E_i2l (pc := 141) (zDk zD_289_ok 79 rfl) ?_
        refine E_aload_n (pc := 142) (zDk zD_289_ok 80 rfl) rfl ?_
        refine E_iload_n (pc := 143) (zDk zD_289_ok 81 rfl) rfl ?_
        refine E_iload (pc := 144) (zDk zD_289_ok 82 rfl) rfl ?_
        obtain ⟨v146, e146, h⟩ := zS_bind h
        refine E_virL (pc := 146) (c := 283) (r := 106) (as := [.inl x1, .inl y5]) (rest := [.inr (.inl v138)]) (zDk zD_289_ok 83 rfl) zc_289 (by decide +kernel) zk_283 ⟨(Nat.le_of_ble_eq_true rfl), rfl, rfl⟩ (Nat.le_of_ble_eq_true rfl) (zr_283 _) (Nat.lt_of_lt_of_le (by decide) hq) (by rw [zm_283]; exact (Nat.le_of_ble_eq_true rfl)) ⟨zc_283, by decide⟩ zis_8_106 (ok_lm_numberAt ⟨v146, e146, ?_⟩)
        have hn149 : ¬ (v146 = 0) := fun e => by rw [if_pos e] at h; exact zS_none h
        have h := zS_f h hn149
        refine E_lrem (pc := 149) (zDk zD_289_ok 84 rfl) hn149 ?_
        refine E_aload_n (pc := 150) (zDk zD_289_ok 85 rfl) rfl ?_
        refine E_iload_n (pc := 151) (zDk zD_289_ok 86 rfl) rfl ?_
        refine E_iload (pc := 152) (zDk zD_289_ok 87 rfl) rfl ?_
        refine E_iconst (pc := 154) (zDk zD_289_ok 88 rfl) (by decide +kernel) ?_
        refine W_iadd (pc := 155) (zDk zD_289_ok 89 rfl) ?_
        obtain ⟨v156, e156, h⟩ := zS_bind h
        refine E_virL (pc := 156) (c := 283) (r := 106) (as := [.inl x1, .inl (w32 (y5 + (1 : Int)))]) (rest := [.inr (.inl (zremL v138 v146))]) (zDk zD_289_ok 90 rfl) zc_289 (by decide +kernel) zk_283 ⟨(Nat.le_of_ble_eq_true rfl), rfl, rfl⟩ (Nat.le_of_ble_eq_true rfl) (zr_283 _) (Nat.lt_of_lt_of_le (by decide) hq) (by rw [zm_283]; exact (Nat.le_of_ble_eq_true rfl)) ⟨zc_283, by decide⟩ zis_8_106 (ok_lm_numberAt ⟨v156, e156, ?_⟩)
        refine W_lcmp (pc := 159) (zDk zD_289_ok 91 rfl) ?_
        refine E_if (pc := 160) (t := 167) (zDk zD_289_ok 92 rfl) rfl (fun hz => ?_) (fun hz => ?_)
        · have h := zS_f h (zlc_ne (T_ne hz))
          refine E_iconst (pc := 167) (zDk zD_289_ok 95 rfl) (by decide +kernel) ?_
          refine W_istore (pc := 168) (L' := [some (.inr (.inr 106)), some (.inl x1), some (.inl y2), some (.inl y3), some (.inl (0 : Int)), some (.inl y5)]) (zDk zD_289_ok 96 rfl) zm_289 (by decide) rfl ?_
          refine W_iinc (pc := 170) (L' := [some (.inr (.inr 106)), some (.inl x1), some (.inl y2), some (.inl y3), some (.inl (0 : Int)), some (.inl (w32 (y5 + 2)))]) (zDk zD_289_ok 97 rfl) rfl zm_289 (by decide) rfl ?_
          refine E_goto (pc := 173) (t := 119) (zDk zD_289_ok 98 rfl) rfl ?_
          exact (ih) y2 y3 (0 : Int) (w32 (y5 + 2)) h
        · have h := zS_t h (zlc_eq (F_ne hz))
          refine E_iconst (pc := 163) (zDk zD_289_ok 93 rfl) (by decide +kernel) ?_
          refine E_goto (pc := 164) (t := 168) (zDk zD_289_ok 94 rfl) rfl ?_
          refine W_istore (pc := 168) (L' := [some (.inr (.inr 106)), some (.inl x1), some (.inl y2), some (.inl y3), some (.inl (1 : Int)), some (.inl y5)]) (zDk zD_289_ok 96 rfl) zm_289 (by decide) rfl ?_
          refine W_iinc (pc := 170) (L' := [some (.inr (.inr 106)), some (.inl x1), some (.inl y2), some (.inl y3), some (.inl (1 : Int)), some (.inl (w32 (y5 + 2)))]) (zDk zD_289_ok 97 rfl) rfl zm_289 (by decide) rfl ?_
          refine E_goto (pc := 173) (t := 119) (zDk zD_289_ok 98 rfl) rfl ?_
          exact (ih) y2 y3 (1 : Int) (w32 (y5 + 2)) h
def lm_sniffs_c105 (x1 : Int) (M : Nat → Nat → Int) : Nat → Int → Int → Option Int
  | 0, _, _ => none
  | n + 1, y2, y3 =>
    ((lm_names M).bind (fun v107 =>
    (if y3 < v107 then
    (lm_sniffs_c119 x1 M (lm_sniffs_c105 x1 M n) zN y2 y3 (1 : Int) (0 : Int))
    else
    (some y2))))
set_option maxRecDepth 100000 in
theorem ok_lm_sniffs_c105 {sc : zSc} {q : Nat} {P : Option zV → (Nat → Nat → Int) → Prop} (hq : 2 ≤ q) (x1 : Int) (M : Nat → Nat → Int) : ∀ (n : Nat) (y2 : Int) (y3 : Int) (d4 d5 : Option zV), zS (lm_sniffs_c105 x1 M n y2 y3) (fun x => P (some (.inl x)) M) → zWp sc q 289 105 [some (.inr (.inr 106)), some (.inl x1), some (.inl y2), some (.inl y3), d4, d5] [] M P := by
  intro n
  induction n with
  | zero => intro y2 y3 d4 d5 h; exact (zS_none h).elim
  | succ n ih =>
    intro y2 y3 d4 d5 h
    rw [lm_sniffs_c105] at h
    refine E_iload_n (pc := 105) (zDk zD_289_ok 59 rfl) rfl ?_
    refine E_aload_n (pc := 106) (zDk zD_289_ok 60 rfl) rfl ?_
    obtain ⟨v107, e107, h⟩ := zS_bind h
    refine E_virI (pc := 107) (c := 189) (r := 106) (as := []) (rest := [.inl y3]) (zDk zD_289_ok 61 rfl) zc_289 (by decide +kernel) zk_189 ⟨(Nat.le_of_ble_eq_true rfl), rfl, rfl⟩ (Nat.le_of_ble_eq_true rfl) (zr_189 _) (Nat.lt_of_lt_of_le (by decide) hq) (by rw [zm_189]; exact (Nat.le_of_ble_eq_true rfl)) ⟨zc_189, by decide⟩ zis_8_106 (ok_lm_names ⟨v107, e107, ?_⟩)
    refine E_icmp (pc := 110) (t := 197) (zDk zD_289_ok 62 rfl) rfl (fun hz => ?_) (fun hz => ?_)
    · have h := zS_f h (Int.not_lt.mpr (T_ge hz))
      refine E_iload_n (pc := 197) (zDk zD_289_ok 111 rfl) rfl ?_
      have h := zS_some h
      exact E_ireturn (pc := 198) (zDk zD_289_ok 112 rfl) zt_289 h
    · have h := zS_t h (F_ge hz)
      refine E_iconst (pc := 113) (zDk zD_289_ok 63 rfl) (by decide +kernel) ?_
      refine W_istore (pc := 114) (L' := [some (.inr (.inr 106)), some (.inl x1), some (.inl y2), some (.inl y3), some (.inl (1 : Int)), d5]) (zDk zD_289_ok 64 rfl) zm_289 (by decide) rfl ?_
      refine E_iconst (pc := 116) (zDk zD_289_ok 65 rfl) (by decide +kernel) ?_
      refine W_istore (pc := 117) (L' := [some (.inr (.inr 106)), some (.inl x1), some (.inl y2), some (.inl y3), some (.inl (1 : Int)), some (.inl (0 : Int))]) (zDk zD_289_ok 66 rfl) zm_289 (by decide) rfl ?_
      exact ok_lm_sniffs_c119 hq x1 M (lm_sniffs_c105 x1 M n) (ih) zN y2 y3 (1 : Int) (0 : Int) h
def lm_sniffs_c46 (x1 : Int) (M : Nat → Nat → Int) : Nat → Int → Option Int
  | 0, _ => none
  | n + 1, y2 =>
    ((rdI 126 x1 M).bind (fun v52 =>
    (if y2 < v52 then
    ((lm_numberAt x1 y2 M).bind (fun v59 =>
    ((lm_in v59 (2 : Int) (9 : Int) M).bind (fun v68 =>
    (if v68 = 0 then
    (some (-2 : Int))
    else
    ((lm_numberAt x1 (w32 (y2 + (1 : Int))) M).bind (fun v79 =>
    ((lm_in v79 (0 : Int) (8 : Int) M).bind (fun v86 =>
    (if v86 = 0 then
    (some (-2 : Int))
    else
    ((lm_sniffs_c46 x1 M n) (w32 (y2 + 2)))))))))))))
    else
    (lm_sniffs_c105 x1 M zN (0 : Int) (0 : Int)))))
set_option maxRecDepth 100000 in
theorem ok_lm_sniffs_c46 {sc : zSc} {q : Nat} {P : Option zV → (Nat → Nat → Int) → Prop} (hq : 2 ≤ q) (x1 : Int) (M : Nat → Nat → Int) : ∀ (n : Nat) (y2 : Int) (d3 d4 d5 : Option zV), zS (lm_sniffs_c46 x1 M n y2) (fun x => P (some (.inl x)) M) → zWp sc q 289 46 [some (.inr (.inr 106)), some (.inl x1), some (.inl y2), d3, d4, d5] [] M P := by
  intro n
  induction n with
  | zero => intro y2 d3 d4 d5 h; exact (zS_none h).elim
  | succ n ih =>
    intro y2 d3 d4 d5 h
    rw [lm_sniffs_c46] at h
    refine E_iload_n (pc := 46) (zDk zD_289_ok 27 rfl) rfl ?_
    refine E_aload_n (pc := 47) (zDk zD_289_ok 28 rfl) rfl ?_
    refine E_getR (pc := 48) (ci := 8) (f := 36) (r := 126) (zDk zD_289_ok 29 rfl) zc_289 (by decide +kernel) (by decide) zis_8_106 (by decide +kernel) (by decide) ?_
    refine E_iload_n (pc := 51) (zDk zD_289_ok 30 rfl) rfl ?_
    obtain ⟨v52, e52, h⟩ := zS_bind h
    refine E_iaload (pc := 52) (zDk zD_289_ok 31 rfl) e52 ?_
    refine E_icmp (pc := 53) (t := 101) (zDk zD_289_ok 32 rfl) rfl (fun hz => ?_) (fun hz => ?_)
    · have h := zS_f h (Int.not_lt.mpr (T_ge hz))
      refine E_iconst (pc := 101) (zDk zD_289_ok 55 rfl) (by decide +kernel) ?_
      refine W_istore_n (pc := 102) (L' := [some (.inr (.inr 106)), some (.inl x1), some (.inl (0 : Int)), d3, d4, d5]) (zDk zD_289_ok 56 rfl) zm_289 (by decide) rfl ?_
      refine E_iconst (pc := 103) (zDk zD_289_ok 57 rfl) (by decide +kernel) ?_
      refine W_istore_n (pc := 104) (L' := [some (.inr (.inr 106)), some (.inl x1), some (.inl (0 : Int)), some (.inl (0 : Int)), d4, d5]) (zDk zD_289_ok 58 rfl) zm_289 (by decide) rfl ?_
      exact ok_lm_sniffs_c105 hq x1 M zN (0 : Int) (0 : Int) d4 d5 h
    · have h := zS_t h (F_ge hz)
      refine E_aload_n (pc := 56) (zDk zD_289_ok 33 rfl) rfl ?_
      refine E_iload_n (pc := 57) (zDk zD_289_ok 34 rfl) rfl ?_
      refine E_iload_n (pc := 58) (zDk zD_289_ok 35 rfl) rfl ?_
      obtain ⟨v59, e59, h⟩ := zS_bind h
      refine E_virL (pc := 59) (c := 283) (r := 106) (as := [.inl x1, .inl y2]) (rest := []) (zDk zD_289_ok 36 rfl) zc_289 (by decide +kernel) zk_283 ⟨(Nat.le_of_ble_eq_true rfl), rfl, rfl⟩ (Nat.le_of_ble_eq_true rfl) (zr_283 _) (Nat.lt_of_lt_of_le (by decide) hq) (by rw [zm_283]; exact (Nat.le_of_ble_eq_true rfl)) ⟨zc_283, by decide⟩ zis_8_106 (ok_lm_numberAt ⟨v59, e59, ?_⟩)
      refine E_ldc2_w (pc := 62) (v := .inr (.inl (2 : Int))) (zDk zD_289_ok 37 rfl) zc_289 (by decide +kernel) ?_
      refine E_ldc2_w (pc := 65) (v := .inr (.inl (9 : Int))) (zDk zD_289_ok 38 rfl) zc_289 (by decide +kernel) ?_
      obtain ⟨v68, e68, h⟩ := zS_bind h
      refine E_staI (pc := 68) (c := 176) (as := [.inr (.inl v59), .inr (.inl (2 : Int)), .inr (.inl (9 : Int))]) (rest := []) (zDk zD_289_ok 39 rfl) zc_289 (by decide +kernel) (by decide +kernel) zk_176 ⟨(Nat.le_of_ble_eq_true rfl), rfl, rfl⟩ (Nat.le_of_ble_eq_true rfl) (zr_176 _) (Nat.lt_of_lt_of_le (by decide) hq) (by rw [zm_176]; exact (Nat.le_of_ble_eq_true rfl)) (ok_lm_in ⟨v68, e68, ?_⟩)
      refine E_if (pc := 71) (t := 92) (zDk zD_289_ok 40 rfl) rfl (fun hz => ?_) (fun hz => ?_)
      · have h := zS_t h (T_eq hz)
        refine E_bipush (pc := 92) (zDk zD_289_ok 51 rfl) (by decide +kernel) ?_
        have h := zS_some h
        exact E_ireturn (pc := 94) (zDk zD_289_ok 52 rfl) zt_289 h
      · have h := zS_f h (F_eq hz)
        refine E_aload_n (pc := 74) (zDk zD_289_ok 41 rfl) rfl ?_
        refine E_iload_n (pc := 75) (zDk zD_289_ok 42 rfl) rfl ?_
        refine E_iload_n (pc := 76) (zDk zD_289_ok 43 rfl) rfl ?_
        refine E_iconst (pc := 77) (zDk zD_289_ok 44 rfl) (by decide +kernel) ?_
        refine W_iadd (pc := 78) (zDk zD_289_ok 45 rfl) ?_
        obtain ⟨v79, e79, h⟩ := zS_bind h
        refine E_virL (pc := 79) (c := 283) (r := 106) (as := [.inl x1, .inl (w32 (y2 + (1 : Int)))]) (rest := []) (zDk zD_289_ok 46 rfl) zc_289 (by decide +kernel) zk_283 ⟨(Nat.le_of_ble_eq_true rfl), rfl, rfl⟩ (Nat.le_of_ble_eq_true rfl) (zr_283 _) (Nat.lt_of_lt_of_le (by decide) hq) (by rw [zm_283]; exact (Nat.le_of_ble_eq_true rfl)) ⟨zc_283, by decide⟩ zis_8_106 (ok_lm_numberAt ⟨v79, e79, ?_⟩)
        refine E_lconst (pc := 82) (v := 0) (zDk zD_289_ok 47 rfl) (by decide +kernel) ?_
        refine E_ldc2_w (pc := 83) (v := .inr (.inl (8 : Int))) (zDk zD_289_ok 48 rfl) zc_289 (by decide +kernel) ?_
        obtain ⟨v86, e86, h⟩ := zS_bind h
        refine E_staI (pc := 86) (c := 176) (as := [.inr (.inl v79), .inr (.inl (0 : Int)), .inr (.inl (8 : Int))]) (rest := []) (zDk zD_289_ok 49 rfl) zc_289 (by decide +kernel) (by decide +kernel) zk_176 ⟨(Nat.le_of_ble_eq_true rfl), rfl, rfl⟩ (Nat.le_of_ble_eq_true rfl) (zr_176 _) (Nat.lt_of_lt_of_le (by decide) hq) (by rw [zm_176]; exact (Nat.le_of_ble_eq_true rfl)) (ok_lm_in ⟨v86, e86, ?_⟩)
        refine E_if (pc := 89) (t := 95) (zDk zD_289_ok 50 rfl) rfl (fun hz => ?_) (fun hz => ?_)
        · have h := zS_f h (T_ne hz)
          refine W_iinc (pc := 95) (L' := [some (.inr (.inr 106)), some (.inl x1), some (.inl (w32 (y2 + 2))), d3, d4, d5]) (zDk zD_289_ok 53 rfl) rfl zm_289 (by decide) rfl ?_
          refine E_goto (pc := 98) (t := 46) (zDk zD_289_ok 54 rfl) rfl ?_
          exact (ih) (w32 (y2 + 2)) d3 d4 d5 h
        · have h := zS_t h (F_ne hz)
          refine E_bipush (pc := 92) (zDk zD_289_ok 51 rfl) (by decide +kernel) ?_
          have h := zS_some h
          exact E_ireturn (pc := 94) (zDk zD_289_ok 52 rfl) zt_289 h
def lm_sniffs (x1 : Int) (M : Nat → Nat → Int) : Option Int :=
    ((lm_isSlot x1 M).bind (fun v1 =>
    (if v1 = 0 then
    (some (-2 : Int))
    else
    ((lm_isState M).bind (fun v8 =>
    (if v8 = 0 then
    (some (-2 : Int))
    else
    ((rdI 126 x1 M).bind (fun v22 =>
    (if v22 = (-1 : Int) then
    (some (-6 : Int))
    else
    ((rdI 126 x1 M).bind (fun v35 =>
    (if (zrem v35 (2 : Int)) = 0 then
    (lm_sniffs_c46 x1 M zN (0 : Int))
    else
    (some (-2 : Int))))))))))))))
set_option maxRecDepth 100000 in
theorem ok_lm_sniffs {sc : zSc} {x1 : Int} {M : Nat → Nat → Int} {P : Int → (Nat → Nat → Int) → Prop} (h : zS (lm_sniffs x1 M) (fun x => P x M)) : zCi sc 289 [.inr (.inr 106), .inl x1] M P := by
  have ea : zarg (zml 289) [.inr (.inr 106), .inl x1] = [some (.inr (.inr 106)), some (.inl x1), none, none, none, none] := by rw [zm_289]; rfl
  unfold zCi zCw
  rw [ea, zr_289]
  have hq : 2 ≤ 2 := Nat.le_refl _
  unfold lm_sniffs at h
  have h := zS_mono h (fun x hx => (⟨x, rfl, hx⟩ : ∃ y, (some (.inl x) : Option zV) = some (.inl y) ∧ P y M))
  skip
  refine E_iload_n (pc := 0) (zDk zD_289_ok 0 rfl) rfl ?_
  obtain ⟨v1, e1, h⟩ := zS_bind h
  refine E_staI (pc := 1) (c := 316) (as := [.inl x1]) (rest := []) (zDk zD_289_ok 1 rfl) zc_289 (by decide +kernel) (by decide +kernel) zk_316 ⟨(Nat.le_of_ble_eq_true rfl), rfl, rfl⟩ (Nat.le_of_ble_eq_true rfl) (zr_316 _) (Nat.lt_of_lt_of_le (by decide) hq) (by rw [zm_316]; exact (Nat.le_of_ble_eq_true rfl)) (ok_lm_isSlot ⟨v1, e1, ?_⟩)
  refine E_if (pc := 4) (t := 14) (zDk zD_289_ok 2 rfl) rfl (fun hz => ?_) (fun hz => ?_)
  · have h := zS_t h (T_eq hz)
    refine E_bipush (pc := 14) (zDk zD_289_ok 6 rfl) (by decide +kernel) ?_
    have h := zS_some h
    exact E_ireturn (pc := 16) (zDk zD_289_ok 7 rfl) zt_289 h
  · have h := zS_f h (F_eq hz)
    refine E_aload_n (pc := 7) (zDk zD_289_ok 3 rfl) rfl ?_
    obtain ⟨v8, e8, h⟩ := zS_bind h
    refine E_virI (pc := 8) (c := 181) (r := 106) (as := []) (rest := []) (zDk zD_289_ok 4 rfl) zc_289 (by decide +kernel) zk_181 ⟨(Nat.le_of_ble_eq_true rfl), rfl, rfl⟩ (Nat.le_of_ble_eq_true rfl) (zr_181 _) (Nat.lt_of_lt_of_le (by decide) hq) (by rw [zm_181]; exact (Nat.le_of_ble_eq_true rfl)) ⟨zc_181, by decide⟩ zis_8_106 (ok_lm_isState ⟨v8, e8, ?_⟩)
    refine E_if (pc := 11) (t := 17) (zDk zD_289_ok 5 rfl) rfl (fun hz => ?_) (fun hz => ?_)
    · have h := zS_f h (T_ne hz)
      refine E_aload_n (pc := 17) (zDk zD_289_ok 8 rfl) rfl ?_
      refine E_getR (pc := 18) (ci := 8) (f := 36) (r := 126) (zDk zD_289_ok 9 rfl) zc_289 (by decide +kernel) (by decide) zis_8_106 (by decide +kernel) (by decide) ?_
      refine E_iload_n (pc := 21) (zDk zD_289_ok 10 rfl) rfl ?_
      obtain ⟨v22, e22, h⟩ := zS_bind h
      refine E_iaload (pc := 22) (zDk zD_289_ok 11 rfl) e22 ?_
      refine E_iconst (pc := 23) (zDk zD_289_ok 12 rfl) (by decide +kernel) ?_
      refine E_icmp (pc := 24) (t := 30) (zDk zD_289_ok 13 rfl) rfl (fun hz => ?_) (fun hz => ?_)
      · have h := zS_f h (T_ne hz)
        refine E_aload_n (pc := 30) (zDk zD_289_ok 16 rfl) rfl ?_
        refine E_getR (pc := 31) (ci := 8) (f := 36) (r := 126) (zDk zD_289_ok 17 rfl) zc_289 (by decide +kernel) (by decide) zis_8_106 (by decide +kernel) (by decide) ?_
        refine E_iload_n (pc := 34) (zDk zD_289_ok 18 rfl) rfl ?_
        obtain ⟨v35, e35, h⟩ := zS_bind h
        refine E_iaload (pc := 35) (zDk zD_289_ok 19 rfl) e35 ?_
        refine E_iconst (pc := 36) (zDk zD_289_ok 20 rfl) (by decide +kernel) ?_
        refine E_irem (pc := 37) (zDk zD_289_ok 21 rfl) (by decide) ?_
        refine E_if (pc := 38) (t := 44) (zDk zD_289_ok 22 rfl) rfl (fun hz => ?_) (fun hz => ?_)
        · have h := zS_t h (T_eq hz)
          refine E_iconst (pc := 44) (zDk zD_289_ok 25 rfl) (by decide +kernel) ?_
          refine W_istore_n (pc := 45) (L' := [some (.inr (.inr 106)), some (.inl x1), some (.inl (0 : Int)), none, none, none]) (zDk zD_289_ok 26 rfl) zm_289 (by decide) rfl ?_
          exact ok_lm_sniffs_c46 hq x1 M zN (0 : Int) none none none h
        · have h := zS_f h (F_eq hz)
          refine E_bipush (pc := 41) (zDk zD_289_ok 23 rfl) (by decide +kernel) ?_
          have h := zS_some h
          exact E_ireturn (pc := 43) (zDk zD_289_ok 24 rfl) zt_289 h
      · have h := zS_t h (F_ne hz)
        refine E_bipush (pc := 27) (zDk zD_289_ok 14 rfl) (by decide +kernel) ?_
        have h := zS_some h
        exact E_ireturn (pc := 29) (zDk zD_289_ok 15 rfl) zt_289 h
    · have h := zS_t h (F_ne hz)
      refine E_bipush (pc := 14) (zDk zD_289_ok 6 rfl) (by decide +kernel) ?_
      have h := zS_some h
      exact E_ireturn (pc := 16) (zDk zD_289_ok 7 rfl) zt_289 h
def zD_293 : List (Nat × Instr × Nat) := [(0, .aload_n (0), 1), (1, .iload_n (1), 1), (2, .invokevirtual (398), 3), (5, .ifCond .eq (11), 3), (8, .aload_n (0), 1), (9, .iload_n (1), 1), (10, .invokevirtual (401), 3), (13, .goto (5), 3), (16, .bipush (-2), 2), (18, .ireturn, 1)]
set_option maxRecDepth 100000 in
theorem zD_293_ok : zDo 293 zD_293 = true := by decide +kernel
theorem zc_293 : zcls 293 = 8 := by decide +kernel
theorem zm_293 : zml 293 = 2 := by decide +kernel
theorem zt_293 : zrt 293 = (some (.int)) := by decide +kernel
theorem zk_293 : zkd 293 = 1 ∧ znp 293 + 1 = 2 := by decide +kernel
theorem zr_293 (as : List zV) : zrk 293 as = 2 := by unfold zrk; rw [if_neg (by decide)]; decide +kernel
def lm_worth (x1 : Int) (M : Nat → Nat → Int) : Option Int :=
    ((lm_isSet x1 M).bind (fun v2 =>
    (if v2 = 0 then
    (some (-2 : Int))
    else
    ((lm_worthOf x1 M).bind (fun v10 =>
    (some v10))))))
set_option maxRecDepth 100000 in
theorem ok_lm_worth {sc : zSc} {x1 : Int} {M : Nat → Nat → Int} {P : Int → (Nat → Nat → Int) → Prop} (h : zS (lm_worth x1 M) (fun x => P x M)) : zCi sc 293 [.inr (.inr 106), .inl x1] M P := by
  have ea : zarg (zml 293) [.inr (.inr 106), .inl x1] = [some (.inr (.inr 106)), some (.inl x1)] := by rw [zm_293]; rfl
  unfold zCi zCw
  rw [ea, zr_293]
  have hq : 2 ≤ 2 := Nat.le_refl _
  unfold lm_worth at h
  have h := zS_mono h (fun x hx => (⟨x, rfl, hx⟩ : ∃ y, (some (.inl x) : Option zV) = some (.inl y) ∧ P y M))
  skip
  refine E_aload_n (pc := 0) (zDk zD_293_ok 0 rfl) rfl ?_
  refine E_iload_n (pc := 1) (zDk zD_293_ok 1 rfl) rfl ?_
  obtain ⟨v2, e2, h⟩ := zS_bind h
  refine E_virI (pc := 2) (c := 291) (r := 106) (as := [.inl x1]) (rest := []) (zDk zD_293_ok 2 rfl) zc_293 (by decide +kernel) zk_291 ⟨(Nat.le_of_ble_eq_true rfl), rfl, rfl⟩ (Nat.le_of_ble_eq_true rfl) (zr_291 _) (Nat.lt_of_lt_of_le (by decide) hq) (by rw [zm_291]; exact (Nat.le_of_ble_eq_true rfl)) ⟨zc_291, by decide⟩ zis_8_106 (ok_lm_isSet ⟨v2, e2, ?_⟩)
  refine E_if (pc := 5) (t := 16) (zDk zD_293_ok 3 rfl) rfl (fun hz => ?_) (fun hz => ?_)
  · have h := zS_t h (T_eq hz)
    refine E_bipush (pc := 16) (zDk zD_293_ok 8 rfl) (by decide +kernel) ?_
    have h := zS_some h
    exact E_ireturn (pc := 18) (zDk zD_293_ok 9 rfl) zt_293 h
  · have h := zS_f h (F_eq hz)
    refine E_aload_n (pc := 8) (zDk zD_293_ok 4 rfl) rfl ?_
    refine E_iload_n (pc := 9) (zDk zD_293_ok 5 rfl) rfl ?_
    obtain ⟨v10, e10, h⟩ := zS_bind h
    refine E_virI (pc := 10) (c := 292) (r := 106) (as := [.inl x1]) (rest := []) (zDk zD_293_ok 6 rfl) zc_293 (by decide +kernel) zk_292 ⟨(Nat.le_of_ble_eq_true rfl), rfl, rfl⟩ (Nat.le_of_ble_eq_true rfl) (zr_292 _) (Nat.lt_of_lt_of_le (by decide) hq) (by rw [zm_292]; exact (Nat.le_of_ble_eq_true rfl)) ⟨zc_292, by decide⟩ zis_8_106 (ok_lm_worthOf ⟨v10, e10, ?_⟩)
    refine E_goto (pc := 13) (t := 18) (zDk zD_293_ok 7 rfl) rfl ?_
    have h := zS_some h
    exact E_ireturn (pc := 18) (zDk zD_293_ok 9 rfl) zt_293 h
def zD_296 : List (Nat × Instr × Nat) := [(0, .iload (4), 2), (2, .ifCond .ne (7), 3), (5, .lload_n (0), 1), (6, .goto (4), 3), (9, .lload_n (2), 1), (10, .lload_n (0), 1), (11, .lload_n (2), 1), (12, .invokestatic (408), 3), (15, .ldiv, 1), (16, .lreturn, 1)]
set_option maxRecDepth 100000 in
theorem zD_296_ok : zDo 296 zD_296 = true := by decide +kernel
theorem zc_296 : zcls 296 = 8 := by decide +kernel
theorem zm_296 : zml 296 = 5 := by decide +kernel
theorem zt_296 : zrt 296 = (some (.long)) := by decide +kernel
theorem zk_296 : zkd 296 = 0 ∧ znp 296 = 3 := by decide +kernel
theorem zr_296 (as : List zV) : zrk 296 as = 2 := by unfold zrk; rw [if_neg (by decide)]; decide +kernel
def lm_part (x0 : Int) (x2 : Int) (x4 : Int) (M : Nat → Nat → Int) : Option Int :=
    (if x4 = 0 then
    ((lm_divisor x0 x2 M).bind (fun v12 =>
    (if v12 = 0 then none else (some (zdivL x0 v12)))))
    else
    ((lm_divisor x0 x2 M).bind (fun v12 =>
    (if v12 = 0 then none else (some (zdivL x2 v12))))))
set_option maxRecDepth 100000 in
theorem ok_lm_part {sc : zSc} {x0 : Int} {x2 : Int} {x4 : Int} {M : Nat → Nat → Int} {P : Int → (Nat → Nat → Int) → Prop} (h : zS (lm_part x0 x2 x4 M) (fun x => P x M)) : zCl sc 296 [.inr (.inl x0), .inr (.inl x2), .inl x4] M P := by
  have ea : zarg (zml 296) [.inr (.inl x0), .inr (.inl x2), .inl x4] = [some (.inr (.inl x0)), none, some (.inr (.inl x2)), none, some (.inl x4)] := by rw [zm_296]; rfl
  unfold zCl zCw
  rw [ea, zr_296]
  have hq : 2 ≤ 2 := Nat.le_refl _
  unfold lm_part at h
  have h := zS_mono h (fun x hx => (⟨x, rfl, hx⟩ : ∃ y, (some (.inr (.inl x)) : Option zV) = some (.inr (.inl y)) ∧ P y M))
  skip
  refine E_iload (pc := 0) (zDk zD_296_ok 0 rfl) rfl ?_
  refine E_if (pc := 2) (t := 9) (zDk zD_296_ok 1 rfl) rfl (fun hz => ?_) (fun hz => ?_)
  · have h := zS_f h (T_ne hz)
    refine E_lload_n (pc := 9) (zDk zD_296_ok 4 rfl) rfl ?_
    refine E_lload_n (pc := 10) (zDk zD_296_ok 5 rfl) rfl ?_
    refine E_lload_n (pc := 11) (zDk zD_296_ok 6 rfl) rfl ?_
    obtain ⟨v12, e12, h⟩ := zS_bind h
    refine E_staL (pc := 12) (c := 295) (as := [.inr (.inl x0), .inr (.inl x2)]) (rest := [.inr (.inl x2)]) (zDk zD_296_ok 7 rfl) zc_296 (by decide +kernel) (by decide +kernel) zk_295 ⟨(Nat.le_of_ble_eq_true rfl), rfl, rfl⟩ (Nat.le_of_ble_eq_true rfl) (zr_295 _) (Nat.lt_of_lt_of_le (by decide) hq) (by rw [zm_295]; exact (Nat.le_of_ble_eq_true rfl)) (ok_lm_divisor ⟨v12, e12, ?_⟩)
    have hn15 : ¬ (v12 = 0) := fun e => by rw [if_pos e] at h; exact zS_none h
    have h := zS_f h hn15
    refine E_ldiv (pc := 15) (zDk zD_296_ok 8 rfl) hn15 ?_
    have h := zS_some h
    exact E_lreturn (pc := 16) (zDk zD_296_ok 9 rfl) zt_296 h
  · have h := zS_t h (F_ne hz)
    refine E_lload_n (pc := 5) (zDk zD_296_ok 2 rfl) rfl ?_
    refine E_goto (pc := 6) (t := 10) (zDk zD_296_ok 3 rfl) rfl ?_
    refine E_lload_n (pc := 10) (zDk zD_296_ok 5 rfl) rfl ?_
    refine E_lload_n (pc := 11) (zDk zD_296_ok 6 rfl) rfl ?_
    obtain ⟨v12, e12, h⟩ := zS_bind h
    refine E_staL (pc := 12) (c := 295) (as := [.inr (.inl x0), .inr (.inl x2)]) (rest := [.inr (.inl x0)]) (zDk zD_296_ok 7 rfl) zc_296 (by decide +kernel) (by decide +kernel) zk_295 ⟨(Nat.le_of_ble_eq_true rfl), rfl, rfl⟩ (Nat.le_of_ble_eq_true rfl) (zr_295 _) (Nat.lt_of_lt_of_le (by decide) hq) (by rw [zm_295]; exact (Nat.le_of_ble_eq_true rfl)) (ok_lm_divisor ⟨v12, e12, ?_⟩)
    have hn15 : ¬ (v12 = 0) := fun e => by rw [if_pos e] at h; exact zS_none h
    have h := zS_f h hn15
    refine E_ldiv (pc := 15) (zDk zD_296_ok 8 rfl) hn15 ?_
    have h := zS_some h
    exact E_lreturn (pc := 16) (zDk zD_296_ok 9 rfl) zt_296 h
def zD_302 : List (Nat × Instr × Nat) := [(0, .aload_n (0), 1), (1, .iload_n (1), 1), (2, .invokevirtual (433), 3), (5, .ifCond .eq (29), 3), (8, .iload_n (1), 1), (9, .i2l, 1), (10, .lconst (0), 1), (11, .ldc2_w (436), 3), (14, .invokestatic (91), 3), (17, .ifCond .eq (17), 3), (20, .iload_n (2), 1), (21, .i2l, 1), (22, .lconst (0), 1), (23, .lconst (1), 1), (24, .invokestatic (91), 3), (27, .ifCond .eq (7), 3), (30, .iconst (1), 1), (31, .goto (4), 3), (34, .iconst (0), 1), (35, .ireturn, 1)]
set_option maxRecDepth 100000 in
theorem zD_302_ok : zDo 302 zD_302 = true := by decide +kernel
theorem zc_302 : zcls 302 = 8 := by decide +kernel
theorem zm_302 : zml 302 = 3 := by decide +kernel
theorem zt_302 : zrt 302 = (some (.boolean)) := by decide +kernel
theorem zk_302 : zkd 302 = 1 ∧ znp 302 + 1 = 3 := by decide +kernel
theorem zr_302 (as : List zV) : zrk 302 as = 2 := by unfold zrk; rw [if_neg (by decide)]; decide +kernel
def lm_isRain (x1 : Int) (x2 : Int) (M : Nat → Nat → Int) : Option Int :=
    ((lm_isAhead x1 M).bind (fun v2 =>
    (if v2 = 0 then
    (some (0 : Int))
    else
    ((lm_in x1 (0 : Int) (7 : Int) M).bind (fun v14 =>
    (if v14 = 0 then
    (some (0 : Int))
    else
    ((lm_in x2 (0 : Int) (1 : Int) M).bind (fun v24 =>
    (if v24 = 0 then
    (some (0 : Int))
    else
    (some (1 : Int)))))))))))
set_option maxRecDepth 100000 in
theorem ok_lm_isRain {sc : zSc} {x1 : Int} {x2 : Int} {M : Nat → Nat → Int} {P : Int → (Nat → Nat → Int) → Prop} (h : zS (lm_isRain x1 x2 M) (fun x => P x M)) : zCi sc 302 [.inr (.inr 106), .inl x1, .inl x2] M P := by
  have ea : zarg (zml 302) [.inr (.inr 106), .inl x1, .inl x2] = [some (.inr (.inr 106)), some (.inl x1), some (.inl x2)] := by rw [zm_302]; rfl
  unfold zCi zCw
  rw [ea, zr_302]
  have hq : 2 ≤ 2 := Nat.le_refl _
  unfold lm_isRain at h
  have h := zS_mono h (fun x hx => (⟨x, rfl, hx⟩ : ∃ y, (some (.inl x) : Option zV) = some (.inl y) ∧ P y M))
  skip
  refine E_aload_n (pc := 0) (zDk zD_302_ok 0 rfl) rfl ?_
  refine E_iload_n (pc := 1) (zDk zD_302_ok 1 rfl) rfl ?_
  obtain ⟨v2, e2, h⟩ := zS_bind h
  refine E_virI (pc := 2) (c := 184) (r := 106) (as := [.inl x1]) (rest := []) (zDk zD_302_ok 2 rfl) zc_302 (by decide +kernel) zk_184 ⟨(Nat.le_of_ble_eq_true rfl), rfl, rfl⟩ (Nat.le_of_ble_eq_true rfl) (zr_184 _) (Nat.lt_of_lt_of_le (by decide) hq) (by rw [zm_184]; exact (Nat.le_of_ble_eq_true rfl)) ⟨zc_184, by decide⟩ zis_8_106 (ok_lm_isAhead ⟨v2, e2, ?_⟩)
  refine E_if (pc := 5) (t := 34) (zDk zD_302_ok 3 rfl) rfl (fun hz => ?_) (fun hz => ?_)
  · have h := zS_t h (T_eq hz)
    refine E_iconst (pc := 34) (zDk zD_302_ok 18 rfl) (by decide +kernel) ?_
    have h := zS_some h
    exact E_ireturnZ (pc := 35) (zDk zD_302_ok 19 rfl) zt_302 (by decide) h
  · have h := zS_f h (F_eq hz)
    refine E_iload_n (pc := 8) (zDk zD_302_ok 4 rfl) rfl ?_
    refine E_i2l (pc := 9) (zDk zD_302_ok 5 rfl) ?_
    refine E_lconst (pc := 10) (v := 0) (zDk zD_302_ok 6 rfl) (by decide +kernel) ?_
    refine E_ldc2_w (pc := 11) (v := .inr (.inl (7 : Int))) (zDk zD_302_ok 7 rfl) zc_302 (by decide +kernel) ?_
    obtain ⟨v14, e14, h⟩ := zS_bind h
    refine E_staI (pc := 14) (c := 176) (as := [.inr (.inl x1), .inr (.inl (0 : Int)), .inr (.inl (7 : Int))]) (rest := []) (zDk zD_302_ok 8 rfl) zc_302 (by decide +kernel) (by decide +kernel) zk_176 ⟨(Nat.le_of_ble_eq_true rfl), rfl, rfl⟩ (Nat.le_of_ble_eq_true rfl) (zr_176 _) (Nat.lt_of_lt_of_le (by decide) hq) (by rw [zm_176]; exact (Nat.le_of_ble_eq_true rfl)) (ok_lm_in ⟨v14, e14, ?_⟩)
    refine E_if (pc := 17) (t := 34) (zDk zD_302_ok 9 rfl) rfl (fun hz => ?_) (fun hz => ?_)
    · have h := zS_t h (T_eq hz)
      refine E_iconst (pc := 34) (zDk zD_302_ok 18 rfl) (by decide +kernel) ?_
      have h := zS_some h
      exact E_ireturnZ (pc := 35) (zDk zD_302_ok 19 rfl) zt_302 (by decide) h
    · have h := zS_f h (F_eq hz)
      refine E_iload_n (pc := 20) (zDk zD_302_ok 10 rfl) rfl ?_
      refine E_i2l (pc := 21) (zDk zD_302_ok 11 rfl) ?_
      refine E_lconst (pc := 22) (v := 0) (zDk zD_302_ok 12 rfl) (by decide +kernel) ?_
      refine E_lconst (pc := 23) (v := 1) (zDk zD_302_ok 13 rfl) (by decide +kernel) ?_
      obtain ⟨v24, e24, h⟩ := zS_bind h
      refine E_staI (pc := 24) (c := 176) (as := [.inr (.inl x2), .inr (.inl (0 : Int)), .inr (.inl (1 : Int))]) (rest := []) (zDk zD_302_ok 14 rfl) zc_302 (by decide +kernel) (by decide +kernel) zk_176 ⟨(Nat.le_of_ble_eq_true rfl), rfl, rfl⟩ (Nat.le_of_ble_eq_true rfl) (zr_176 _) (Nat.lt_of_lt_of_le (by decide) hq) (by rw [zm_176]; exact (Nat.le_of_ble_eq_true rfl)) (ok_lm_in ⟨v24, e24, ?_⟩)
      refine E_if (pc := 27) (t := 34) (zDk zD_302_ok 15 rfl) rfl (fun hz => ?_) (fun hz => ?_)
      · have h := zS_t h (T_eq hz)
        refine E_iconst (pc := 34) (zDk zD_302_ok 18 rfl) (by decide +kernel) ?_
        have h := zS_some h
        exact E_ireturnZ (pc := 35) (zDk zD_302_ok 19 rfl) zt_302 (by decide) h
      · have h := zS_f h (F_eq hz)
        refine E_iconst (pc := 30) (zDk zD_302_ok 16 rfl) (by decide +kernel) ?_
        refine E_goto (pc := 31) (t := 35) (zDk zD_302_ok 17 rfl) rfl ?_
        have h := zS_some h
        exact E_ireturnZ (pc := 35) (zDk zD_302_ok 19 rfl) zt_302 (by decide) h
def zD_307 : List (Nat × Instr × Nat) := [(0, .aload_n (0), 1), (1, .iload_n (1), 1), (2, .invokevirtual (257), 3), (5, .ifCond .eq (13), 3), (8, .iload_n (2), 1), (9, .i2l, 1), (10, .lconst (0), 1), (11, .lconst (1), 1), (12, .invokestatic (91), 3), (15, .ifCond .ne (6), 3), (18, .bipush (-2), 2), (20, .ireturn, 1), (21, .aload_n (0), 1), (22, .invokevirtual (254), 3), (25, .aload_n (0), 1), (26, .getfield (239), 3), (29, .iload_n (1), 1), (30, .invokestatic (202), 3), (33, .istore_n (3), 1), (34, .aload_n (0), 1), (35, .iconst (2), 1), (36, .iload_n (1), 1), (37, .imul, 1), (38, .iload_n (2), 1), (39, .iadd, 1), (40, .invokevirtual (447), 3), (43, .ifCond .ge (8), 3), (46, .bipush (-5), 2), (48, .goto (4), 3), (51, .iload_n (3), 1), (52, .ireturn, 1)]
set_option maxRecDepth 100000 in
theorem zD_307_ok : zDo 307 zD_307 = true := by decide +kernel
theorem zc_307 : zcls 307 = 8 := by decide +kernel
theorem zm_307 : zml 307 = 4 := by decide +kernel
theorem zt_307 : zrt 307 = (some (.int)) := by decide +kernel
theorem zk_307 : zkd 307 = 1 ∧ znp 307 + 1 = 3 := by decide +kernel
theorem zr_307 (as : List zV) : zrk 307 as = 2 := by unfold zrk; rw [if_neg (by decide)]; decide +kernel
def lm_close (x1 : Int) (x2 : Int) (M : Nat → Nat → Int) : Option (Int × (Nat → Nat → Int)) :=
    ((lm_isStreet x1 M).bind (fun v2 =>
    (if v2 = 0 then
    (some ((-2 : Int), M))
    else
    ((lm_in x2 (0 : Int) (1 : Int) M).bind (fun v12 =>
    (if v12 = 0 then
    (some ((-2 : Int), M))
    else
    ((lm_asItIs M).bind (fun M22 =>
    ((lm_bit (M22 106 15) x1 M22).bind (fun v30 =>
    ((lm_keepAct (w32 ((w32 ((2 : Int) * x1)) + x2)) M22).bind (fun r40_ =>
    (if r40_.1 < 0 then
    (some ((-5 : Int), r40_.2))
    else
    (some (v30, r40_.2)))))))))))))))
set_option maxRecDepth 100000 in
theorem ok_lm_close {sc : zSc} {x1 : Int} {x2 : Int} {M : Nat → Nat → Int} {P : Int → (Nat → Nat → Int) → Prop} (h : zS (lm_close x1 x2 M) (fun r => P r.1 r.2)) : zCi sc 307 [.inr (.inr 106), .inl x1, .inl x2] M P := by
  have ea : zarg (zml 307) [.inr (.inr 106), .inl x1, .inl x2] = [some (.inr (.inr 106)), some (.inl x1), some (.inl x2), none] := by rw [zm_307]; rfl
  unfold zCi zCw
  rw [ea, zr_307]
  have hq : 2 ≤ 2 := Nat.le_refl _
  unfold lm_close at h
  have h := zS_mono h (fun x hx => (⟨x.1, rfl, hx⟩ : ∃ y, (some (.inl x.1) : Option zV) = some (.inl y) ∧ P y x.2))
  skip
  refine E_aload_n (pc := 0) (zDk zD_307_ok 0 rfl) rfl ?_
  refine E_iload_n (pc := 1) (zDk zD_307_ok 1 rfl) rfl ?_
  obtain ⟨v2, e2, h⟩ := zS_bind h
  refine E_virI (pc := 2) (c := 188) (r := 106) (as := [.inl x1]) (rest := []) (zDk zD_307_ok 2 rfl) zc_307 (by decide +kernel) zk_188 ⟨(Nat.le_of_ble_eq_true rfl), rfl, rfl⟩ (Nat.le_of_ble_eq_true rfl) (zr_188 _) (Nat.lt_of_lt_of_le (by decide) hq) (by rw [zm_188]; exact (Nat.le_of_ble_eq_true rfl)) ⟨zc_188, by decide⟩ zis_8_106 (ok_lm_isStreet ⟨v2, e2, ?_⟩)
  refine E_if (pc := 5) (t := 18) (zDk zD_307_ok 3 rfl) rfl (fun hz => ?_) (fun hz => ?_)
  · have h := zS_t h (T_eq hz)
    refine E_bipush (pc := 18) (zDk zD_307_ok 10 rfl) (by decide +kernel) ?_
    have h := zS_some h
    exact E_ireturn (pc := 20) (zDk zD_307_ok 11 rfl) zt_307 h
  · have h := zS_f h (F_eq hz)
    refine E_iload_n (pc := 8) (zDk zD_307_ok 4 rfl) rfl ?_
    refine E_i2l (pc := 9) (zDk zD_307_ok 5 rfl) ?_
    refine E_lconst (pc := 10) (v := 0) (zDk zD_307_ok 6 rfl) (by decide +kernel) ?_
    refine E_lconst (pc := 11) (v := 1) (zDk zD_307_ok 7 rfl) (by decide +kernel) ?_
    obtain ⟨v12, e12, h⟩ := zS_bind h
    refine E_staI (pc := 12) (c := 176) (as := [.inr (.inl x2), .inr (.inl (0 : Int)), .inr (.inl (1 : Int))]) (rest := []) (zDk zD_307_ok 8 rfl) zc_307 (by decide +kernel) (by decide +kernel) zk_176 ⟨(Nat.le_of_ble_eq_true rfl), rfl, rfl⟩ (Nat.le_of_ble_eq_true rfl) (zr_176 _) (Nat.lt_of_lt_of_le (by decide) hq) (by rw [zm_176]; exact (Nat.le_of_ble_eq_true rfl)) (ok_lm_in ⟨v12, e12, ?_⟩)
    refine E_if (pc := 15) (t := 21) (zDk zD_307_ok 9 rfl) rfl (fun hz => ?_) (fun hz => ?_)
    · have h := zS_f h (T_ne hz)
      refine E_aload_n (pc := 21) (zDk zD_307_ok 12 rfl) rfl ?_
      obtain ⟨M22, e22, h⟩ := zS_bind h
      refine E_virV (pc := 22) (c := 214) (r := 106) (as := []) (rest := []) (zDk zD_307_ok 13 rfl) zc_307 (by decide +kernel) zk_214 ⟨(Nat.le_of_ble_eq_true rfl), rfl, rfl⟩ (Nat.le_of_ble_eq_true rfl) (zr_214 _) (Nat.lt_of_lt_of_le (by decide) hq) (by rw [zm_214]; exact (Nat.le_of_ble_eq_true rfl)) ⟨zc_214, by decide⟩ zis_8_106 (ok_lm_asItIs ⟨M22, e22, ?_⟩)
      refine E_aload_n (pc := 25) (zDk zD_307_ok 14 rfl) rfl ?_
      refine E_getI (pc := 26) (ci := 8) (f := 15) (zDk zD_307_ok 15 rfl) zc_307 (by decide +kernel) (by decide) zis_8_106 ?_
      refine E_iload_n (pc := 29) (zDk zD_307_ok 16 rfl) rfl ?_
      obtain ⟨v30, e30, h⟩ := zS_bind h
      refine E_staI (pc := 30) (c := 178) (as := [.inl (M22 106 15), .inl x1]) (rest := []) (zDk zD_307_ok 17 rfl) zc_307 (by decide +kernel) (by decide +kernel) zk_178 ⟨(Nat.le_of_ble_eq_true rfl), rfl, rfl⟩ (Nat.le_of_ble_eq_true rfl) (zr_178 _) (Nat.lt_of_lt_of_le (by decide) hq) (by rw [zm_178]; exact (Nat.le_of_ble_eq_true rfl)) (ok_lm_bit ⟨v30, e30, ?_⟩)
      refine W_istore_n (pc := 33) (L' := [some (.inr (.inr 106)), some (.inl x1), some (.inl x2), some (.inl v30)]) (zDk zD_307_ok 18 rfl) zm_307 (by decide) rfl ?_
      refine E_aload_n (pc := 34) (zDk zD_307_ok 19 rfl) rfl ?_
      refine E_iconst (pc := 35) (zDk zD_307_ok 20 rfl) (by decide +kernel) ?_
      refine E_iload_n (pc := 36) (zDk zD_307_ok 21 rfl) rfl ?_
      refine W_imul (pc := 37) (zDk zD_307_ok 22 rfl) ?_
      refine E_iload_n (pc := 38) (zDk zD_307_ok 23 rfl) rfl ?_
      refine W_iadd (pc := 39) (zDk zD_307_ok 24 rfl) ?_
      obtain ⟨r40_, e40, h⟩ := zS_bind h
      refine E_virI (pc := 40) (c := 305) (r := 106) (as := [.inl (w32 ((w32 ((2 : Int) * x1)) + x2))]) (rest := []) (zDk zD_307_ok 25 rfl) zc_307 (by decide +kernel) zk_305 ⟨(Nat.le_of_ble_eq_true rfl), rfl, rfl⟩ (Nat.le_of_ble_eq_true rfl) (zr_305 _) (Nat.lt_of_lt_of_le (by decide) hq) (by rw [zm_305]; exact (Nat.le_of_ble_eq_true rfl)) ⟨zc_305, by decide⟩ zis_8_106 (ok_lm_keepAct ⟨r40_, e40, ?_⟩)
      refine E_if (pc := 43) (t := 51) (zDk zD_307_ok 26 rfl) rfl (fun hz => ?_) (fun hz => ?_)
      · have h := zS_f h (Int.not_lt.mpr (T_ge hz))
        refine E_iload_n (pc := 51) (zDk zD_307_ok 29 rfl) rfl ?_
        have h := zS_some h
        exact E_ireturn (pc := 52) (zDk zD_307_ok 30 rfl) zt_307 h
      · have h := zS_t h (F_ge hz)
        refine E_bipush (pc := 46) (zDk zD_307_ok 27 rfl) (by decide +kernel) ?_
        refine E_goto (pc := 48) (t := 52) (zDk zD_307_ok 28 rfl) rfl ?_
        have h := zS_some h
        exact E_ireturn (pc := 52) (zDk zD_307_ok 30 rfl) zt_307 h
    · have h := zS_t h (F_ne hz)
      refine E_bipush (pc := 18) (zDk zD_307_ok 10 rfl) (by decide +kernel) ?_
      have h := zS_some h
      exact E_ireturn (pc := 20) (zDk zD_307_ok 11 rfl) zt_307 h
def zD_314 : List (Nat × Instr × Nat) := [(0, .aload_n (0), 1), (1, .iload_n (1), 1), (2, .invokevirtual (265), 3), (5, .ifCond .eq (15), 3), (8, .iload_n (2), 1), (9, .i2l, 1), (10, .lconst (0), 1), (11, .ldc2_w (471), 3), (14, .invokestatic (91), 3), (17, .ifCond .ne (6), 3), (20, .bipush (-2), 2), (22, .ireturn, 1), (23, .aload_n (0), 1), (24, .getfield (9), 3), (27, .bipush (8), 2), (29, .iaload, 1), (30, .ifCond .le (6), 3), (33, .bipush (-5), 2), (35, .ireturn, 1), (36, .aload_n (0), 1), (37, .iload_n (1), 1), (38, .iconst (2), 1), (39, .invokevirtual (251), 3), (42, .istore_n (3), 1), (43, .aload_n (0), 1), (44, .getfield (9), 3), (47, .bipush (42), 2), (49, .bipush (12), 2), (51, .iload_n (1), 1), (52, .imul, 1), (53, .iadd, 1), (54, .iconst (2), 1), (55, .iadd, 1), (56, .iload_n (2), 1), (57, .iastore, 1), (58, .iload_n (3), 1), (59, .ireturn, 1)]
set_option maxRecDepth 100000 in
theorem zD_314_ok : zDo 314 zD_314 = true := by decide +kernel
theorem zc_314 : zcls 314 = 8 := by decide +kernel
theorem zm_314 : zml 314 = 4 := by decide +kernel
theorem zt_314 : zrt 314 = (some (.int)) := by decide +kernel
theorem zk_314 : zkd 314 = 1 ∧ znp 314 + 1 = 3 := by decide +kernel
theorem zr_314 (as : List zV) : zrk 314 as = 2 := by unfold zrk; rw [if_neg (by decide)]; decide +kernel
def lm_rate (x1 : Int) (x2 : Int) (M : Nat → Nat → Int) : Option (Int × (Nat → Nat → Int)) :=
    ((lm_isName x1 M).bind (fun v2 =>
    (if v2 = 0 then
    (some ((-2 : Int), M))
    else
    ((lm_in x2 (0 : Int) (59 : Int) M).bind (fun v14 =>
    (if v14 = 0 then
    (some ((-2 : Int), M))
    else
    ((rdI 107 (8 : Int) M).bind (fun v29 =>
    (if 0 < v29 then
    (some ((-5 : Int), M))
    else
    ((lm_of x1 (2 : Int) M).bind (fun v39 =>
    ((wrI 107 (w32 ((w32 ((42 : Int) + (w32 ((12 : Int) * x1)))) + (2 : Int))) x2 M).bind (fun M57 =>
    (some (v39, M57)))))))))))))))
set_option maxRecDepth 100000 in
theorem ok_lm_rate {sc : zSc} {x1 : Int} {x2 : Int} {M : Nat → Nat → Int} {P : Int → (Nat → Nat → Int) → Prop} (h : zS (lm_rate x1 x2 M) (fun r => P r.1 r.2)) : zCi sc 314 [.inr (.inr 106), .inl x1, .inl x2] M P := by
  have ea : zarg (zml 314) [.inr (.inr 106), .inl x1, .inl x2] = [some (.inr (.inr 106)), some (.inl x1), some (.inl x2), none] := by rw [zm_314]; rfl
  unfold zCi zCw
  rw [ea, zr_314]
  have hq : 2 ≤ 2 := Nat.le_refl _
  unfold lm_rate at h
  have h := zS_mono h (fun x hx => (⟨x.1, rfl, hx⟩ : ∃ y, (some (.inl x.1) : Option zV) = some (.inl y) ∧ P y x.2))
  skip
  refine E_aload_n (pc := 0) (zDk zD_314_ok 0 rfl) rfl ?_
  refine E_iload_n (pc := 1) (zDk zD_314_ok 1 rfl) rfl ?_
  obtain ⟨v2, e2, h⟩ := zS_bind h
  refine E_virI (pc := 2) (c := 186) (r := 106) (as := [.inl x1]) (rest := []) (zDk zD_314_ok 2 rfl) zc_314 (by decide +kernel) zk_186 ⟨(Nat.le_of_ble_eq_true rfl), rfl, rfl⟩ (Nat.le_of_ble_eq_true rfl) (zr_186 _) (Nat.lt_of_lt_of_le (by decide) hq) (by rw [zm_186]; exact (Nat.le_of_ble_eq_true rfl)) ⟨zc_186, by decide⟩ zis_8_106 (ok_lm_isName ⟨v2, e2, ?_⟩)
  refine E_if (pc := 5) (t := 20) (zDk zD_314_ok 3 rfl) rfl (fun hz => ?_) (fun hz => ?_)
  · have h := zS_t h (T_eq hz)
    refine E_bipush (pc := 20) (zDk zD_314_ok 10 rfl) (by decide +kernel) ?_
    have h := zS_some h
    exact E_ireturn (pc := 22) (zDk zD_314_ok 11 rfl) zt_314 h
  · have h := zS_f h (F_eq hz)
    refine E_iload_n (pc := 8) (zDk zD_314_ok 4 rfl) rfl ?_
    refine E_i2l (pc := 9) (zDk zD_314_ok 5 rfl) ?_
    refine E_lconst (pc := 10) (v := 0) (zDk zD_314_ok 6 rfl) (by decide +kernel) ?_
    refine E_ldc2_w (pc := 11) (v := .inr (.inl (59 : Int))) (zDk zD_314_ok 7 rfl) zc_314 (by decide +kernel) ?_
    obtain ⟨v14, e14, h⟩ := zS_bind h
    refine E_staI (pc := 14) (c := 176) (as := [.inr (.inl x2), .inr (.inl (0 : Int)), .inr (.inl (59 : Int))]) (rest := []) (zDk zD_314_ok 8 rfl) zc_314 (by decide +kernel) (by decide +kernel) zk_176 ⟨(Nat.le_of_ble_eq_true rfl), rfl, rfl⟩ (Nat.le_of_ble_eq_true rfl) (zr_176 _) (Nat.lt_of_lt_of_le (by decide) hq) (by rw [zm_176]; exact (Nat.le_of_ble_eq_true rfl)) (ok_lm_in ⟨v14, e14, ?_⟩)
    refine E_if (pc := 17) (t := 23) (zDk zD_314_ok 9 rfl) rfl (fun hz => ?_) (fun hz => ?_)
    · have h := zS_f h (T_ne hz)
      refine E_aload_n (pc := 23) (zDk zD_314_ok 12 rfl) rfl ?_
      refine E_getR (pc := 24) (ci := 8) (f := 1) (r := 107) (zDk zD_314_ok 13 rfl) zc_314 (by decide +kernel) (by decide) zis_8_106 (by decide +kernel) (by decide) ?_
      refine E_bipush (pc := 27) (zDk zD_314_ok 14 rfl) (by decide +kernel) ?_
      obtain ⟨v29, e29, h⟩ := zS_bind h
      refine E_iaload (pc := 29) (zDk zD_314_ok 15 rfl) e29 ?_
      refine E_if (pc := 30) (t := 36) (zDk zD_314_ok 16 rfl) rfl (fun hz => ?_) (fun hz => ?_)
      · have h := zS_f h (Int.not_lt.mpr (T_le hz))
        refine E_aload_n (pc := 36) (zDk zD_314_ok 19 rfl) rfl ?_
        refine E_iload_n (pc := 37) (zDk zD_314_ok 20 rfl) rfl ?_
        refine E_iconst (pc := 38) (zDk zD_314_ok 21 rfl) (by decide +kernel) ?_
        obtain ⟨v39, e39, h⟩ := zS_bind h
        refine E_virI (pc := 39) (c := 190) (r := 106) (as := [.inl x1, .inl (2 : Int)]) (rest := []) (zDk zD_314_ok 22 rfl) zc_314 (by decide +kernel) zk_190 ⟨(Nat.le_of_ble_eq_true rfl), rfl, rfl⟩ (Nat.le_of_ble_eq_true rfl) (zr_190 _) (Nat.lt_of_lt_of_le (by decide) hq) (by rw [zm_190]; exact (Nat.le_of_ble_eq_true rfl)) ⟨zc_190, by decide⟩ zis_8_106 (ok_lm_of ⟨v39, e39, ?_⟩)
        refine W_istore_n (pc := 42) (L' := [some (.inr (.inr 106)), some (.inl x1), some (.inl x2), some (.inl v39)]) (zDk zD_314_ok 23 rfl) zm_314 (by decide) rfl ?_
        refine E_aload_n (pc := 43) (zDk zD_314_ok 24 rfl) rfl ?_
        refine E_getR (pc := 44) (ci := 8) (f := 1) (r := 107) (zDk zD_314_ok 25 rfl) zc_314 (by decide +kernel) (by decide) zis_8_106 (by decide +kernel) (by decide) ?_
        refine E_bipush (pc := 47) (zDk zD_314_ok 26 rfl) (by decide +kernel) ?_
        refine E_bipush (pc := 49) (zDk zD_314_ok 27 rfl) (by decide +kernel) ?_
        refine E_iload_n (pc := 51) (zDk zD_314_ok 28 rfl) rfl ?_
        refine W_imul (pc := 52) (zDk zD_314_ok 29 rfl) ?_
        refine W_iadd (pc := 53) (zDk zD_314_ok 30 rfl) ?_
        refine E_iconst (pc := 54) (zDk zD_314_ok 31 rfl) (by decide +kernel) ?_
        refine W_iadd (pc := 55) (zDk zD_314_ok 32 rfl) ?_
        refine E_iload_n (pc := 56) (zDk zD_314_ok 33 rfl) rfl ?_
        obtain ⟨M57, e57, h⟩ := zS_bind h
        refine E_iastore (pc := 57) (zDk zD_314_ok 34 rfl) e57 ?_
        refine E_iload_n (pc := 58) (zDk zD_314_ok 35 rfl) rfl ?_
        have h := zS_some h
        exact E_ireturn (pc := 59) (zDk zD_314_ok 36 rfl) zt_314 h
      · have h := zS_t h (F_le hz)
        refine E_bipush (pc := 33) (zDk zD_314_ok 17 rfl) (by decide +kernel) ?_
        have h := zS_some h
        exact E_ireturn (pc := 35) (zDk zD_314_ok 18 rfl) zt_314 h
    · have h := zS_t h (F_ne hz)
      refine E_bipush (pc := 20) (zDk zD_314_ok 10 rfl) (by decide +kernel) ?_
      have h := zS_some h
      exact E_ireturn (pc := 22) (zDk zD_314_ok 11 rfl) zt_314 h
def zD_318 : List (Nat × Instr × Nat) := [(0, .iload_n (1), 1), (1, .invokestatic (375), 3), (4, .ifCond .eq (21), 3), (7, .iload_n (2), 1), (8, .i2l, 1), (9, .lconst (0), 1), (10, .ldc2_w (268), 3), (13, .invokestatic (91), 3), (16, .ifCond .eq (9), 3), (19, .iload_n (3), 1), (20, .bipush (60), 2), (22, .if_icmp .le (6), 3), (25, .bipush (-2), 2), (27, .ireturn, 1), (28, .iload_n (3), 1), (29, .ifCond .ge (6), 3), (32, .bipush (-3), 2), (34, .ireturn, 1), (35, .aload_n (0), 1), (36, .getfield (73), 3), (39, .iload_n (1), 1), (40, .iload_n (3), 1), (41, .iastore, 1), (42, .aload_n (0), 1), (43, .getfield (76), 3), (46, .iload_n (1), 1), (47, .iload_n (2), 1), (48, .iastore, 1), (49, .iconst (0), 1), (50, .istore (4), 2), (52, .iload (4), 2), (54, .bipush (60), 2), (56, .if_icmp .ge (22), 3), (59, .aload_n (0), 1), (60, .getfield (79), 3), (63, .bipush (60), 2), (65, .iload_n (1), 1), (66, .imul, 1), (67, .iload (4), 2), (69, .iadd, 1), (70, .lconst (0), 1), (71, .lastore, 1), (72, .iinc (4) (1), 3), (75, .goto (-23), 3), (78, .iconst (0), 1), (79, .ireturn, 1)]
set_option maxRecDepth 100000 in
theorem zD_318_ok : zDo 318 zD_318 = true := by decide +kernel
theorem zc_318 : zcls 318 = 8 := by decide +kernel
theorem zm_318 : zml 318 = 5 := by decide +kernel
theorem zt_318 : zrt 318 = (some (.int)) := by decide +kernel
theorem zk_318 : zkd 318 = 1 ∧ znp 318 + 1 = 4 := by decide +kernel
theorem zr_318 (as : List zV) : zrk 318 as = 2 := by unfold zrk; rw [if_neg (by decide)]; decide +kernel
def lm_row_c52 (x1 : Int) (x2 : Int) (x3 : Int) : Nat → Int → (Nat → Nat → Int) → Option (Int × (Nat → Nat → Int))
  | 0, _, _ => none
  | n + 1, y4, M =>
    (if y4 < (60 : Int) then
    ((wrL 128 (w32 ((w32 ((60 : Int) * x1)) + y4)) (0 : Int) M).bind (fun M71 =>
    ((lm_row_c52 x1 x2 x3 n) (w32 (y4 + 1)) M71)))
    else
    (some ((0 : Int), M)))
set_option maxRecDepth 100000 in
theorem ok_lm_row_c52 {sc : zSc} {q : Nat} {P : Option zV → (Nat → Nat → Int) → Prop} (hq : 2 ≤ q) (x1 : Int) (x2 : Int) (x3 : Int) : ∀ (n : Nat) (y4 : Int) (M : Nat → Nat → Int), zS (lm_row_c52 x1 x2 x3 n y4 M) (fun r => P (some (.inl r.1)) r.2) → zWp sc q 318 52 [some (.inr (.inr 106)), some (.inl x1), some (.inl x2), some (.inl x3), some (.inl y4)] [] M P := by
  intro n
  induction n with
  | zero => intro y4 M h; exact (zS_none h).elim
  | succ n ih =>
    intro y4 M h
    rw [lm_row_c52] at h
    refine E_iload (pc := 52) (zDk zD_318_ok 30 rfl) rfl ?_
    refine E_bipush (pc := 54) (zDk zD_318_ok 31 rfl) (by decide +kernel) ?_
    refine E_icmp (pc := 56) (t := 78) (zDk zD_318_ok 32 rfl) rfl (fun hz => ?_) (fun hz => ?_)
    · have h := zS_f h (Int.not_lt.mpr (T_ge hz))
      refine E_iconst (pc := 78) (zDk zD_318_ok 44 rfl) (by decide +kernel) ?_
      have h := zS_some h
      exact E_ireturn (pc := 79) (zDk zD_318_ok 45 rfl) zt_318 h
    · have h := zS_t h (F_ge hz)
      refine E_aload_n (pc := 59) (zDk zD_318_ok 33 rfl) rfl ?_
      refine E_getR (pc := 60) (ci := 8) (f := 38) (r := 128) (zDk zD_318_ok 34 rfl) zc_318 (by decide +kernel) (by decide) zis_8_106 (by decide +kernel) (by decide) ?_
      refine E_bipush (pc := 63) (zDk zD_318_ok 35 rfl) (by decide +kernel) ?_
      refine E_iload_n (pc := 65) (zDk zD_318_ok 36 rfl) rfl ?_
      refine W_imul (pc := 66) (zDk zD_318_ok 37 rfl) ?_
      refine E_iload (pc := 67) (zDk zD_318_ok 38 rfl) rfl ?_
      refine W_iadd (pc := 69) (zDk zD_318_ok 39 rfl) ?_
      refine E_lconst (pc := 70) (v := 0) (zDk zD_318_ok 40 rfl) (by decide +kernel) ?_
      obtain ⟨M71, e71, h⟩ := zS_bind h
      refine E_lastore (pc := 71) (zDk zD_318_ok 41 rfl) e71 ?_
      refine W_iinc (pc := 72) (L' := [some (.inr (.inr 106)), some (.inl x1), some (.inl x2), some (.inl x3), some (.inl (w32 (y4 + 1)))]) (zDk zD_318_ok 42 rfl) rfl zm_318 (by decide) rfl ?_
      refine E_goto (pc := 75) (t := 52) (zDk zD_318_ok 43 rfl) rfl ?_
      exact (ih) (w32 (y4 + 1)) M71 h
def lm_row (x1 : Int) (x2 : Int) (x3 : Int) (M : Nat → Nat → Int) : Option (Int × (Nat → Nat → Int)) :=
    ((lm_isSlot x1 M).bind (fun v1 =>
    (if v1 = 0 then
    (some ((-2 : Int), M))
    else
    ((lm_in x2 (0 : Int) (3 : Int) M).bind (fun v13 =>
    (if v13 = 0 then
    (some ((-2 : Int), M))
    else
    (if (60 : Int) < x3 then
    (some ((-2 : Int), M))
    else
    (if x3 < 0 then
    (some ((-3 : Int), M))
    else
    ((wrI 126 x1 x3 M).bind (fun M41 =>
    ((wrI 127 x1 x2 M41).bind (fun M48 =>
    (lm_row_c52 x1 x2 x3 zN (0 : Int) M48)))))))))))))
set_option maxRecDepth 100000 in
theorem ok_lm_row {sc : zSc} {x1 : Int} {x2 : Int} {x3 : Int} {M : Nat → Nat → Int} {P : Int → (Nat → Nat → Int) → Prop} (h : zS (lm_row x1 x2 x3 M) (fun r => P r.1 r.2)) : zCi sc 318 [.inr (.inr 106), .inl x1, .inl x2, .inl x3] M P := by
  have ea : zarg (zml 318) [.inr (.inr 106), .inl x1, .inl x2, .inl x3] = [some (.inr (.inr 106)), some (.inl x1), some (.inl x2), some (.inl x3), none] := by rw [zm_318]; rfl
  unfold zCi zCw
  rw [ea, zr_318]
  have hq : 2 ≤ 2 := Nat.le_refl _
  unfold lm_row at h
  have h := zS_mono h (fun x hx => (⟨x.1, rfl, hx⟩ : ∃ y, (some (.inl x.1) : Option zV) = some (.inl y) ∧ P y x.2))
  skip
  refine E_iload_n (pc := 0) (zDk zD_318_ok 0 rfl) rfl ?_
  obtain ⟨v1, e1, h⟩ := zS_bind h
  refine E_staI (pc := 1) (c := 316) (as := [.inl x1]) (rest := []) (zDk zD_318_ok 1 rfl) zc_318 (by decide +kernel) (by decide +kernel) zk_316 ⟨(Nat.le_of_ble_eq_true rfl), rfl, rfl⟩ (Nat.le_of_ble_eq_true rfl) (zr_316 _) (Nat.lt_of_lt_of_le (by decide) hq) (by rw [zm_316]; exact (Nat.le_of_ble_eq_true rfl)) (ok_lm_isSlot ⟨v1, e1, ?_⟩)
  refine E_if (pc := 4) (t := 25) (zDk zD_318_ok 2 rfl) rfl (fun hz => ?_) (fun hz => ?_)
  · have h := zS_t h (T_eq hz)
    refine E_bipush (pc := 25) (zDk zD_318_ok 12 rfl) (by decide +kernel) ?_
    have h := zS_some h
    exact E_ireturn (pc := 27) (zDk zD_318_ok 13 rfl) zt_318 h
  · have h := zS_f h (F_eq hz)
    refine E_iload_n (pc := 7) (zDk zD_318_ok 3 rfl) rfl ?_
    refine E_i2l (pc := 8) (zDk zD_318_ok 4 rfl) ?_
    refine E_lconst (pc := 9) (v := 0) (zDk zD_318_ok 5 rfl) (by decide +kernel) ?_
    refine E_ldc2_w (pc := 10) (v := .inr (.inl (3 : Int))) (zDk zD_318_ok 6 rfl) zc_318 (by decide +kernel) ?_
    obtain ⟨v13, e13, h⟩ := zS_bind h
    refine E_staI (pc := 13) (c := 176) (as := [.inr (.inl x2), .inr (.inl (0 : Int)), .inr (.inl (3 : Int))]) (rest := []) (zDk zD_318_ok 7 rfl) zc_318 (by decide +kernel) (by decide +kernel) zk_176 ⟨(Nat.le_of_ble_eq_true rfl), rfl, rfl⟩ (Nat.le_of_ble_eq_true rfl) (zr_176 _) (Nat.lt_of_lt_of_le (by decide) hq) (by rw [zm_176]; exact (Nat.le_of_ble_eq_true rfl)) (ok_lm_in ⟨v13, e13, ?_⟩)
    refine E_if (pc := 16) (t := 25) (zDk zD_318_ok 8 rfl) rfl (fun hz => ?_) (fun hz => ?_)
    · have h := zS_t h (T_eq hz)
      refine E_bipush (pc := 25) (zDk zD_318_ok 12 rfl) (by decide +kernel) ?_
      have h := zS_some h
      exact E_ireturn (pc := 27) (zDk zD_318_ok 13 rfl) zt_318 h
    · have h := zS_f h (F_eq hz)
      refine E_iload_n (pc := 19) (zDk zD_318_ok 9 rfl) rfl ?_
      refine E_bipush (pc := 20) (zDk zD_318_ok 10 rfl) (by decide +kernel) ?_
      refine E_icmp (pc := 22) (t := 28) (zDk zD_318_ok 11 rfl) rfl (fun hz => ?_) (fun hz => ?_)
      · have h := zS_f h (Int.not_lt.mpr (T_le hz))
        refine E_iload_n (pc := 28) (zDk zD_318_ok 14 rfl) rfl ?_
        refine E_if (pc := 29) (t := 35) (zDk zD_318_ok 15 rfl) rfl (fun hz => ?_) (fun hz => ?_)
        · have h := zS_f h (Int.not_lt.mpr (T_ge hz))
          refine E_aload_n (pc := 35) (zDk zD_318_ok 18 rfl) rfl ?_
          refine E_getR (pc := 36) (ci := 8) (f := 36) (r := 126) (zDk zD_318_ok 19 rfl) zc_318 (by decide +kernel) (by decide) zis_8_106 (by decide +kernel) (by decide) ?_
          refine E_iload_n (pc := 39) (zDk zD_318_ok 20 rfl) rfl ?_
          refine E_iload_n (pc := 40) (zDk zD_318_ok 21 rfl) rfl ?_
          obtain ⟨M41, e41, h⟩ := zS_bind h
          refine E_iastore (pc := 41) (zDk zD_318_ok 22 rfl) e41 ?_
          refine E_aload_n (pc := 42) (zDk zD_318_ok 23 rfl) rfl ?_
          refine E_getR (pc := 43) (ci := 8) (f := 37) (r := 127) (zDk zD_318_ok 24 rfl) zc_318 (by decide +kernel) (by decide) zis_8_106 (by decide +kernel) (by decide) ?_
          refine E_iload_n (pc := 46) (zDk zD_318_ok 25 rfl) rfl ?_
          refine E_iload_n (pc := 47) (zDk zD_318_ok 26 rfl) rfl ?_
          obtain ⟨M48, e48, h⟩ := zS_bind h
          refine E_iastore (pc := 48) (zDk zD_318_ok 27 rfl) e48 ?_
          refine E_iconst (pc := 49) (zDk zD_318_ok 28 rfl) (by decide +kernel) ?_
          refine W_istore (pc := 50) (L' := [some (.inr (.inr 106)), some (.inl x1), some (.inl x2), some (.inl x3), some (.inl (0 : Int))]) (zDk zD_318_ok 29 rfl) zm_318 (by decide) rfl ?_
          exact ok_lm_row_c52 hq x1 x2 x3 zN (0 : Int) M48 h
        · have h := zS_t h (F_ge hz)
          refine E_bipush (pc := 32) (zDk zD_318_ok 16 rfl) (by decide +kernel) ?_
          have h := zS_some h
          exact E_ireturn (pc := 34) (zDk zD_318_ok 17 rfl) zt_318 h
      · have h := zS_t h (F_le hz)
        refine E_bipush (pc := 25) (zDk zD_318_ok 12 rfl) (by decide +kernel) ?_
        have h := zS_some h
        exact E_ireturn (pc := 27) (zDk zD_318_ok 13 rfl) zt_318 h
def zD_319 : List (Nat × Instr × Nat) := [(0, .iload_n (1), 1), (1, .invokestatic (375), 3), (4, .ifCond .ne (6), 3), (7, .bipush (-2), 2), (9, .ireturn, 1), (10, .aload_n (0), 1), (11, .getfield (73), 3), (14, .iload_n (1), 1), (15, .iaload, 1), (16, .iconst (-1), 1), (17, .if_icmp .ne (6), 3), (20, .bipush (-6), 2), (22, .ireturn, 1), (23, .iload_n (2), 1), (24, .i2l, 1), (25, .lconst (0), 1), (26, .aload_n (0), 1), (27, .getfield (73), 3), (30, .iload_n (1), 1), (31, .iaload, 1), (32, .iconst (1), 1), (33, .isub, 1), (34, .i2l, 1), (35, .invokestatic (91), 3), (38, .ifCond .ne (6), 3), (41, .bipush (-7), 2), (43, .ireturn, 1), (44, .aload_n (0), 1), (45, .getfield (79), 3), (48, .bipush (60), 2), (50, .iload_n (1), 1), (51, .imul, 1), (52, .iload_n (2), 1), (53, .iadd, 1), (54, .lload_n (3), 1), (55, .aload_n (0), 1), (56, .getfield (76), 3), (59, .iload_n (1), 1), (60, .iaload, 1), (61, .invokestatic (473), 3), (64, .lastore, 1), (65, .iconst (0), 1), (66, .ireturn, 1)]
set_option maxRecDepth 100000 in
theorem zD_319_ok : zDo 319 zD_319 = true := by decide +kernel
theorem zc_319 : zcls 319 = 8 := by decide +kernel
theorem zm_319 : zml 319 = 5 := by decide +kernel
theorem zt_319 : zrt 319 = (some (.int)) := by decide +kernel
theorem zk_319 : zkd 319 = 1 ∧ znp 319 + 1 = 4 := by decide +kernel
theorem zr_319 (as : List zV) : zrk 319 as = 2 := by unfold zrk; rw [if_neg (by decide)]; decide +kernel
def lm_write (x1 : Int) (x2 : Int) (x3 : Int) (M : Nat → Nat → Int) : Option (Int × (Nat → Nat → Int)) :=
    ((lm_isSlot x1 M).bind (fun v1 =>
    (if v1 = 0 then
    (some ((-2 : Int), M))
    else
    ((rdI 126 x1 M).bind (fun v15 =>
    (if v15 = (-1 : Int) then
    (some ((-6 : Int), M))
    else
    ((rdI 126 x1 M).bind (fun v31 =>
    ((lm_in x2 (0 : Int) (w32 (v31 - (1 : Int))) M).bind (fun v35 =>
    (if v35 = 0 then
    (some ((-7 : Int), M))
    else
    ((rdI 127 x1 M).bind (fun v60 =>
    ((lm_cut_317 x3 v60 M).bind (fun v61 =>
    ((wrL 128 (w32 ((w32 ((60 : Int) * x1)) + x2)) v61 M).bind (fun M64 =>
    (some ((0 : Int), M64)))))))))))))))))))
set_option maxRecDepth 100000 in
theorem ok_lm_write {sc : zSc} {x1 : Int} {x2 : Int} {x3 : Int} {M : Nat → Nat → Int} {P : Int → (Nat → Nat → Int) → Prop} (h : zS (lm_write x1 x2 x3 M) (fun r => P r.1 r.2)) : zCi sc 319 [.inr (.inr 106), .inl x1, .inl x2, .inr (.inl x3)] M P := by
  have ea : zarg (zml 319) [.inr (.inr 106), .inl x1, .inl x2, .inr (.inl x3)] = [some (.inr (.inr 106)), some (.inl x1), some (.inl x2), some (.inr (.inl x3)), none] := by rw [zm_319]; rfl
  unfold zCi zCw
  rw [ea, zr_319]
  have hq : 2 ≤ 2 := Nat.le_refl _
  unfold lm_write at h
  have h := zS_mono h (fun x hx => (⟨x.1, rfl, hx⟩ : ∃ y, (some (.inl x.1) : Option zV) = some (.inl y) ∧ P y x.2))
  skip
  refine E_iload_n (pc := 0) (zDk zD_319_ok 0 rfl) rfl ?_
  obtain ⟨v1, e1, h⟩ := zS_bind h
  refine E_staI (pc := 1) (c := 316) (as := [.inl x1]) (rest := []) (zDk zD_319_ok 1 rfl) zc_319 (by decide +kernel) (by decide +kernel) zk_316 ⟨(Nat.le_of_ble_eq_true rfl), rfl, rfl⟩ (Nat.le_of_ble_eq_true rfl) (zr_316 _) (Nat.lt_of_lt_of_le (by decide) hq) (by rw [zm_316]; exact (Nat.le_of_ble_eq_true rfl)) (ok_lm_isSlot ⟨v1, e1, ?_⟩)
  refine E_if (pc := 4) (t := 10) (zDk zD_319_ok 2 rfl) rfl (fun hz => ?_) (fun hz => ?_)
  · have h := zS_f h (T_ne hz)
    refine E_aload_n (pc := 10) (zDk zD_319_ok 5 rfl) rfl ?_
    refine E_getR (pc := 11) (ci := 8) (f := 36) (r := 126) (zDk zD_319_ok 6 rfl) zc_319 (by decide +kernel) (by decide) zis_8_106 (by decide +kernel) (by decide) ?_
    refine E_iload_n (pc := 14) (zDk zD_319_ok 7 rfl) rfl ?_
    obtain ⟨v15, e15, h⟩ := zS_bind h
    refine E_iaload (pc := 15) (zDk zD_319_ok 8 rfl) e15 ?_
    refine E_iconst (pc := 16) (zDk zD_319_ok 9 rfl) (by decide +kernel) ?_
    refine E_icmp (pc := 17) (t := 23) (zDk zD_319_ok 10 rfl) rfl (fun hz => ?_) (fun hz => ?_)
    · have h := zS_f h (T_ne hz)
      refine E_iload_n (pc := 23) (zDk zD_319_ok 13 rfl) rfl ?_
      refine E_i2l (pc := 24) (zDk zD_319_ok 14 rfl) ?_
      refine E_lconst (pc := 25) (v := 0) (zDk zD_319_ok 15 rfl) (by decide +kernel) ?_
      refine E_aload_n (pc := 26) (zDk zD_319_ok 16 rfl) rfl ?_
      refine E_getR (pc := 27) (ci := 8) (f := 36) (r := 126) (zDk zD_319_ok 17 rfl) zc_319 (by decide +kernel) (by decide) zis_8_106 (by decide +kernel) (by decide) ?_
      refine E_iload_n (pc := 30) (zDk zD_319_ok 18 rfl) rfl ?_
      obtain ⟨v31, e31, h⟩ := zS_bind h
      refine E_iaload (pc := 31) (zDk zD_319_ok 19 rfl) e31 ?_
      refine E_iconst (pc := 32) (zDk zD_319_ok 20 rfl) (by decide +kernel) ?_
      refine W_isub (pc := 33) (zDk zD_319_ok 21 rfl) ?_
      refine E_i2l (pc := 34) (zDk zD_319_ok 22 rfl) ?_
      obtain ⟨v35, e35, h⟩ := zS_bind h
      refine E_staI (pc := 35) (c := 176) (as := [.inr (.inl x2), .inr (.inl (0 : Int)), .inr (.inl (w32 (v31 - (1 : Int))))]) (rest := []) (zDk zD_319_ok 23 rfl) zc_319 (by decide +kernel) (by decide +kernel) zk_176 ⟨(Nat.le_of_ble_eq_true rfl), rfl, rfl⟩ (Nat.le_of_ble_eq_true rfl) (zr_176 _) (Nat.lt_of_lt_of_le (by decide) hq) (by rw [zm_176]; exact (Nat.le_of_ble_eq_true rfl)) (ok_lm_in ⟨v35, e35, ?_⟩)
      refine E_if (pc := 38) (t := 44) (zDk zD_319_ok 24 rfl) rfl (fun hz => ?_) (fun hz => ?_)
      · have h := zS_f h (T_ne hz)
        refine E_aload_n (pc := 44) (zDk zD_319_ok 27 rfl) rfl ?_
        refine E_getR (pc := 45) (ci := 8) (f := 38) (r := 128) (zDk zD_319_ok 28 rfl) zc_319 (by decide +kernel) (by decide) zis_8_106 (by decide +kernel) (by decide) ?_
        refine E_bipush (pc := 48) (zDk zD_319_ok 29 rfl) (by decide +kernel) ?_
        refine E_iload_n (pc := 50) (zDk zD_319_ok 30 rfl) rfl ?_
        refine W_imul (pc := 51) (zDk zD_319_ok 31 rfl) ?_
        refine E_iload_n (pc := 52) (zDk zD_319_ok 32 rfl) rfl ?_
        refine W_iadd (pc := 53) (zDk zD_319_ok 33 rfl) ?_
        refine E_lload_n (pc := 54) (zDk zD_319_ok 34 rfl) rfl ?_
        refine E_aload_n (pc := 55) (zDk zD_319_ok 35 rfl) rfl ?_
        refine E_getR (pc := 56) (ci := 8) (f := 37) (r := 127) (zDk zD_319_ok 36 rfl) zc_319 (by decide +kernel) (by decide) zis_8_106 (by decide +kernel) (by decide) ?_
        refine E_iload_n (pc := 59) (zDk zD_319_ok 37 rfl) rfl ?_
        obtain ⟨v60, e60, h⟩ := zS_bind h
        refine E_iaload (pc := 60) (zDk zD_319_ok 38 rfl) e60 ?_
        obtain ⟨v61, e61, h⟩ := zS_bind h
        refine E_staL (pc := 61) (c := 317) (as := [.inr (.inl x3), .inl v60]) (rest := [.inl (w32 ((w32 ((60 : Int) * x1)) + x2)), .inr (.inr 128)]) (zDk zD_319_ok 39 rfl) zc_319 (by decide +kernel) (by decide +kernel) zk_317 ⟨(Nat.le_of_ble_eq_true rfl), rfl, rfl⟩ (Nat.le_of_ble_eq_true rfl) (zr_317 _) (Nat.lt_of_lt_of_le (by decide) hq) (by rw [zm_317]; exact (Nat.le_of_ble_eq_true rfl)) (ok_lm_cut_317 ⟨v61, e61, ?_⟩)
        obtain ⟨M64, e64, h⟩ := zS_bind h
        refine E_lastore (pc := 64) (zDk zD_319_ok 40 rfl) e64 ?_
        refine E_iconst (pc := 65) (zDk zD_319_ok 41 rfl) (by decide +kernel) ?_
        have h := zS_some h
        exact E_ireturn (pc := 66) (zDk zD_319_ok 42 rfl) zt_319 h
      · have h := zS_t h (F_ne hz)
        refine E_bipush (pc := 41) (zDk zD_319_ok 25 rfl) (by decide +kernel) ?_
        have h := zS_some h
        exact E_ireturn (pc := 43) (zDk zD_319_ok 26 rfl) zt_319 h
    · have h := zS_t h (F_ne hz)
      refine E_bipush (pc := 20) (zDk zD_319_ok 11 rfl) (by decide +kernel) ?_
      have h := zS_some h
      exact E_ireturn (pc := 22) (zDk zD_319_ok 12 rfl) zt_319 h
  · have h := zS_t h (F_ne hz)
    refine E_bipush (pc := 7) (zDk zD_319_ok 3 rfl) (by decide +kernel) ?_
    have h := zS_some h
    exact E_ireturn (pc := 9) (zDk zD_319_ok 4 rfl) zt_319 h
def zD_320 : List (Nat × Instr × Nat) := [(0, .iload_n (1), 1), (1, .invokestatic (375), 3), (4, .ifCond .eq (10), 3), (7, .iload_n (3), 1), (8, .invokestatic (375), 3), (11, .ifCond .ne (6), 3), (14, .bipush (-2), 2), (16, .ireturn, 1), (17, .aload_n (0), 1), (18, .getfield (73), 3), (21, .iload_n (1), 1), (22, .iaload, 1), (23, .iconst (-1), 1), (24, .if_icmp .eq (13), 3), (27, .aload_n (0), 1), (28, .getfield (73), 3), (31, .iload_n (3), 1), (32, .iaload, 1), (33, .iconst (-1), 1), (34, .if_icmp .ne (6), 3), (37, .bipush (-6), 2), (39, .ireturn, 1), (40, .aload_n (0), 1), (41, .getfield (76), 3), (44, .iload_n (1), 1), (45, .iaload, 1), (46, .aload_n (0), 1), (47, .getfield (76), 3), (50, .iload_n (3), 1), (51, .iaload, 1), (52, .if_icmp .eq (6), 3), (55, .bipush (-8), 2), (57, .ireturn, 1), (58, .iload_n (2), 1), (59, .ifCond .lt (48), 3), (62, .iload (4), 2), (64, .ifCond .lt (43), 3), (67, .iload (5), 2), (69, .ifCond .lt (38), 3), (72, .iload_n (2), 1), (73, .i2l, 1), (74, .iload (5), 2), (76, .i2l, 1), (77, .ladd, 1), (78, .aload_n (0), 1), (79, .getfield (73), 3), (82, .iload_n (1), 1), (83, .iaload, 1), (84, .i2l, 1), (85, .lcmp, 1), (86, .ifCond .gt (21), 3), (89, .iload (4), 2), (91, .i2l, 1), (92, .iload (5), 2), (94, .i2l, 1), (95, .ladd, 1), (96, .aload_n (0), 1), (97, .getfield (73), 3), (100, .iload_n (3), 1), (101, .iaload, 1), (102, .i2l, 1), (103, .lcmp, 1), (104, .ifCond .le (6), 3), (107, .bipush (-7), 2), (109, .ireturn, 1), (110, .iconst (0), 1), (111, .istore (6), 2), (113, .iload (6), 2), (115, .iload (5), 2), (117, .if_icmp .ge (30), 3), (120, .aload_n (0), 1), (121, .getfield (83), 3), (124, .iload (6), 2), (126, .aload_n (0), 1), (127, .getfield (79), 3), (130, .bipush (60), 2), (132, .iload_n (1), 1), (133, .imul, 1), (134, .iload_n (2), 1), (135, .iadd, 1), (136, .iload (6), 2), (138, .iadd, 1), (139, .laload, 1), (140, .lastore, 1), (141, .iinc (6) (1), 3), (144, .goto (-31), 3), (147, .iconst (0), 1), (148, .istore (6), 2), (150, .iload (6), 2), (152, .iload (5), 2), (154, .if_icmp .ge (31), 3), (157, .aload_n (0), 1), (158, .getfield (79), 3), (161, .bipush (60), 2), (163, .iload_n (3), 1), (164, .imul, 1), (165, .iload (4), 2), (167, .iadd, 1), (168, .iload (6), 2), (170, .iadd, 1), (171, .aload_n (0), 1), (172, .getfield (83), 3), (175, .iload (6), 2), (177, .laload, 1), (178, .lastore, 1), (179, .iinc (6) (1), 3), (182, .goto (-32), 3), (185, .iconst (0), 1), (186, .ireturn, 1)]
set_option maxRecDepth 100000 in
theorem zD_320_ok : zDo 320 zD_320 = true := by decide +kernel
theorem zc_320 : zcls 320 = 8 := by decide +kernel
theorem zm_320 : zml 320 = 7 := by decide +kernel
theorem zt_320 : zrt 320 = (some (.int)) := by decide +kernel
theorem zk_320 : zkd 320 = 1 ∧ znp 320 + 1 = 6 := by decide +kernel
theorem zr_320 (as : List zV) : zrk 320 as = 2 := by unfold zrk; rw [if_neg (by decide)]; decide +kernel
def lm_paste_c150 (x1 : Int) (x2 : Int) (x3 : Int) (x4 : Int) (x5 : Int) : Nat → Int → (Nat → Nat → Int) → Option (Int × (Nat → Nat → Int))
  | 0, _, _ => none
  | n + 1, y6, M =>
    (if y6 < x5 then
    ((rdL 129 y6 M).bind (fun v177 =>
    ((wrL 128 (w32 ((w32 ((w32 ((60 : Int) * x3)) + x4)) + y6)) v177 M).bind (fun M178 =>
    ((lm_paste_c150 x1 x2 x3 x4 x5 n) (w32 (y6 + 1)) M178)))))
    else
    (some ((0 : Int), M)))
set_option maxRecDepth 100000 in
theorem ok_lm_paste_c150 {sc : zSc} {q : Nat} {P : Option zV → (Nat → Nat → Int) → Prop} (hq : 2 ≤ q) (x1 : Int) (x2 : Int) (x3 : Int) (x4 : Int) (x5 : Int) : ∀ (n : Nat) (y6 : Int) (M : Nat → Nat → Int), zS (lm_paste_c150 x1 x2 x3 x4 x5 n y6 M) (fun r => P (some (.inl r.1)) r.2) → zWp sc q 320 150 [some (.inr (.inr 106)), some (.inl x1), some (.inl x2), some (.inl x3), some (.inl x4), some (.inl x5), some (.inl y6)] [] M P := by
  intro n
  induction n with
  | zero => intro y6 M h; exact (zS_none h).elim
  | succ n ih =>
    intro y6 M h
    rw [lm_paste_c150] at h
    refine E_iload (pc := 150) (zDk zD_320_ok 88 rfl) rfl ?_
    refine E_iload (pc := 152) (zDk zD_320_ok 89 rfl) rfl ?_
    refine E_icmp (pc := 154) (t := 185) (zDk zD_320_ok 90 rfl) rfl (fun hz => ?_) (fun hz => ?_)
    · have h := zS_f h (Int.not_lt.mpr (T_ge hz))
      refine E_iconst (pc := 185) (zDk zD_320_ok 107 rfl) (by decide +kernel) ?_
      have h := zS_some h
      exact E_ireturn (pc := 186) (zDk zD_320_ok 108 rfl) zt_320 h
    · have h := zS_t h (F_ge hz)
      refine E_aload_n (pc := 157) (zDk zD_320_ok 91 rfl) rfl ?_
      refine E_getR (pc := 158) (ci := 8) (f := 38) (r := 128) (zDk zD_320_ok 92 rfl) zc_320 (by decide +kernel) (by decide) zis_8_106 (by decide +kernel) (by decide) ?_
      refine E_bipush (pc := 161) (zDk zD_320_ok 93 rfl) (by decide +kernel) ?_
      refine E_iload_n (pc := 163) (zDk zD_320_ok 94 rfl) rfl ?_
      refine W_imul (pc := 164) (zDk zD_320_ok 95 rfl) ?_
      refine E_iload (pc := 165) (zDk zD_320_ok 96 rfl) rfl ?_
      refine W_iadd (pc := 167) (zDk zD_320_ok 97 rfl) ?_
      refine E_iload (pc := 168) (zDk zD_320_ok 98 rfl) rfl ?_
      refine W_iadd (pc := 170) (zDk zD_320_ok 99 rfl) ?_
      refine E_aload_n (pc := 171) (zDk zD_320_ok 100 rfl) rfl ?_
      refine E_getR (pc := 172) (ci := 8) (f := 39) (r := 129) (zDk zD_320_ok 101 rfl) zc_320 (by decide +kernel) (by decide) zis_8_106 (by decide +kernel) (by decide) ?_
      refine E_iload (pc := 175) (zDk zD_320_ok 102 rfl) rfl ?_
      obtain ⟨v177, e177, h⟩ := zS_bind h
      refine E_laload (pc := 177) (zDk zD_320_ok 103 rfl) e177 ?_
      obtain ⟨M178, e178, h⟩ := zS_bind h
      refine E_lastore (pc := 178) (zDk zD_320_ok 104 rfl) e178 ?_
      refine W_iinc (pc := 179) (L' := [some (.inr (.inr 106)), some (.inl x1), some (.inl x2), some (.inl x3), some (.inl x4), some (.inl x5), some (.inl (w32 (y6 + 1)))]) (zDk zD_320_ok 105 rfl) rfl zm_320 (by decide) rfl ?_
      refine E_goto (pc := 182) (t := 150) (zDk zD_320_ok 106 rfl) rfl ?_
      exact (ih) (w32 (y6 + 1)) M178 h
def lm_paste_c113 (x1 : Int) (x2 : Int) (x3 : Int) (x4 : Int) (x5 : Int) : Nat → Int → (Nat → Nat → Int) → Option (Int × (Nat → Nat → Int))
  | 0, _, _ => none
  | n + 1, y6, M =>
    (if y6 < x5 then
    ((rdL 128 (w32 ((w32 ((w32 ((60 : Int) * x1)) + x2)) + y6)) M).bind (fun v139 =>
    ((wrL 129 y6 v139 M).bind (fun M140 =>
    ((lm_paste_c113 x1 x2 x3 x4 x5 n) (w32 (y6 + 1)) M140)))))
    else
    (lm_paste_c150 x1 x2 x3 x4 x5 zN (0 : Int) M))
set_option maxRecDepth 100000 in
theorem ok_lm_paste_c113 {sc : zSc} {q : Nat} {P : Option zV → (Nat → Nat → Int) → Prop} (hq : 2 ≤ q) (x1 : Int) (x2 : Int) (x3 : Int) (x4 : Int) (x5 : Int) : ∀ (n : Nat) (y6 : Int) (M : Nat → Nat → Int), zS (lm_paste_c113 x1 x2 x3 x4 x5 n y6 M) (fun r => P (some (.inl r.1)) r.2) → zWp sc q 320 113 [some (.inr (.inr 106)), some (.inl x1), some (.inl x2), some (.inl x3), some (.inl x4), some (.inl x5), some (.inl y6)] [] M P := by
  intro n
  induction n with
  | zero => intro y6 M h; exact (zS_none h).elim
  | succ n ih =>
    intro y6 M h
    rw [lm_paste_c113] at h
    refine E_iload (pc := 113) (zDk zD_320_ok 67 rfl) rfl ?_
    refine E_iload (pc := 115) (zDk zD_320_ok 68 rfl) rfl ?_
    refine E_icmp (pc := 117) (t := 147) (zDk zD_320_ok 69 rfl) rfl (fun hz => ?_) (fun hz => ?_)
    · have h := zS_f h (Int.not_lt.mpr (T_ge hz))
      refine E_iconst (pc := 147) (zDk zD_320_ok 86 rfl) (by decide +kernel) ?_
      refine W_istore (pc := 148) (L' := [some (.inr (.inr 106)), some (.inl x1), some (.inl x2), some (.inl x3), some (.inl x4), some (.inl x5), some (.inl (0 : Int))]) (zDk zD_320_ok 87 rfl) zm_320 (by decide) rfl ?_
      exact ok_lm_paste_c150 hq x1 x2 x3 x4 x5 zN (0 : Int) M h
    · have h := zS_t h (F_ge hz)
      refine E_aload_n (pc := 120) (zDk zD_320_ok 70 rfl) rfl ?_
      refine E_getR (pc := 121) (ci := 8) (f := 39) (r := 129) (zDk zD_320_ok 71 rfl) zc_320 (by decide +kernel) (by decide) zis_8_106 (by decide +kernel) (by decide) ?_
      refine E_iload (pc := 124) (zDk zD_320_ok 72 rfl) rfl ?_
      refine E_aload_n (pc := 126) (zDk zD_320_ok 73 rfl) rfl ?_
      refine E_getR (pc := 127) (ci := 8) (f := 38) (r := 128) (zDk zD_320_ok 74 rfl) zc_320 (by decide +kernel) (by decide) zis_8_106 (by decide +kernel) (by decide) ?_
      refine E_bipush (pc := 130) (zDk zD_320_ok 75 rfl) (by decide +kernel) ?_
      refine E_iload_n (pc := 132) (zDk zD_320_ok 76 rfl) rfl ?_
      refine W_imul (pc := 133) (zDk zD_320_ok 77 rfl) ?_
      refine E_iload_n (pc := 134) (zDk zD_320_ok 78 rfl) rfl ?_
      refine W_iadd (pc := 135) (zDk zD_320_ok 79 rfl) ?_
      refine E_iload (pc := 136) (zDk zD_320_ok 80 rfl) rfl ?_
      refine W_iadd (pc := 138) (zDk zD_320_ok 81 rfl) ?_
      obtain ⟨v139, e139, h⟩ := zS_bind h
      refine E_laload (pc := 139) (zDk zD_320_ok 82 rfl) e139 ?_
      obtain ⟨M140, e140, h⟩ := zS_bind h
      refine E_lastore (pc := 140) (zDk zD_320_ok 83 rfl) e140 ?_
      refine W_iinc (pc := 141) (L' := [some (.inr (.inr 106)), some (.inl x1), some (.inl x2), some (.inl x3), some (.inl x4), some (.inl x5), some (.inl (w32 (y6 + 1)))]) (zDk zD_320_ok 84 rfl) rfl zm_320 (by decide) rfl ?_
      refine E_goto (pc := 144) (t := 113) (zDk zD_320_ok 85 rfl) rfl ?_
      exact (ih) (w32 (y6 + 1)) M140 h
def lm_paste (x1 : Int) (x2 : Int) (x3 : Int) (x4 : Int) (x5 : Int) (M : Nat → Nat → Int) : Option (Int × (Nat → Nat → Int)) :=
    ((lm_isSlot x1 M).bind (fun v1 =>
    (if v1 = 0 then
    (some ((-2 : Int), M))
    else
    ((lm_isSlot x3 M).bind (fun v8 =>
    (if v8 = 0 then
    (some ((-2 : Int), M))
    else
    ((rdI 126 x1 M).bind (fun v22 =>
    (if v22 = (-1 : Int) then
    (some ((-6 : Int), M))
    else
    ((rdI 126 x3 M).bind (fun v32 =>
    (if v32 = (-1 : Int) then
    (some ((-6 : Int), M))
    else
    ((rdI 127 x1 M).bind (fun v45 =>
    ((rdI 127 x3 M).bind (fun v51 =>
    (if v45 = v51 then
    (if x2 < 0 then
    (some ((-7 : Int), M))
    else
    (if x4 < 0 then
    (some ((-7 : Int), M))
    else
    (if x5 < 0 then
    (some ((-7 : Int), M))
    else
    ((rdI 126 x1 M).bind (fun v83 =>
    (if v83 < (w64 (x2 + x5)) then
    (some ((-7 : Int), M))
    else
    ((rdI 126 x3 M).bind (fun v101 =>
    (if v101 < (w64 (x4 + x5)) then
    (some ((-7 : Int), M))
    else
    (lm_paste_c113 x1 x2 x3 x4 x5 zN (0 : Int) M))))))))))
    else
    (some ((-8 : Int), M)))))))))))))))))))
set_option maxRecDepth 100000 in
theorem ok_lm_paste {sc : zSc} {x1 : Int} {x2 : Int} {x3 : Int} {x4 : Int} {x5 : Int} {M : Nat → Nat → Int} {P : Int → (Nat → Nat → Int) → Prop} (h : zS (lm_paste x1 x2 x3 x4 x5 M) (fun r => P r.1 r.2)) : zCi sc 320 [.inr (.inr 106), .inl x1, .inl x2, .inl x3, .inl x4, .inl x5] M P := by
  have ea : zarg (zml 320) [.inr (.inr 106), .inl x1, .inl x2, .inl x3, .inl x4, .inl x5] = [some (.inr (.inr 106)), some (.inl x1), some (.inl x2), some (.inl x3), some (.inl x4), some (.inl x5), none] := by rw [zm_320]; rfl
  unfold zCi zCw
  rw [ea, zr_320]
  have hq : 2 ≤ 2 := Nat.le_refl _
  unfold lm_paste at h
  have h := zS_mono h (fun x hx => (⟨x.1, rfl, hx⟩ : ∃ y, (some (.inl x.1) : Option zV) = some (.inl y) ∧ P y x.2))
  skip
  refine E_iload_n (pc := 0) (zDk zD_320_ok 0 rfl) rfl ?_
  obtain ⟨v1, e1, h⟩ := zS_bind h
  refine E_staI (pc := 1) (c := 316) (as := [.inl x1]) (rest := []) (zDk zD_320_ok 1 rfl) zc_320 (by decide +kernel) (by decide +kernel) zk_316 ⟨(Nat.le_of_ble_eq_true rfl), rfl, rfl⟩ (Nat.le_of_ble_eq_true rfl) (zr_316 _) (Nat.lt_of_lt_of_le (by decide) hq) (by rw [zm_316]; exact (Nat.le_of_ble_eq_true rfl)) (ok_lm_isSlot ⟨v1, e1, ?_⟩)
  refine E_if (pc := 4) (t := 14) (zDk zD_320_ok 2 rfl) rfl (fun hz => ?_) (fun hz => ?_)
  · have h := zS_t h (T_eq hz)
    refine E_bipush (pc := 14) (zDk zD_320_ok 6 rfl) (by decide +kernel) ?_
    have h := zS_some h
    exact E_ireturn (pc := 16) (zDk zD_320_ok 7 rfl) zt_320 h
  · have h := zS_f h (F_eq hz)
    refine E_iload_n (pc := 7) (zDk zD_320_ok 3 rfl) rfl ?_
    obtain ⟨v8, e8, h⟩ := zS_bind h
    refine E_staI (pc := 8) (c := 316) (as := [.inl x3]) (rest := []) (zDk zD_320_ok 4 rfl) zc_320 (by decide +kernel) (by decide +kernel) zk_316 ⟨(Nat.le_of_ble_eq_true rfl), rfl, rfl⟩ (Nat.le_of_ble_eq_true rfl) (zr_316 _) (Nat.lt_of_lt_of_le (by decide) hq) (by rw [zm_316]; exact (Nat.le_of_ble_eq_true rfl)) (ok_lm_isSlot ⟨v8, e8, ?_⟩)
    refine E_if (pc := 11) (t := 17) (zDk zD_320_ok 5 rfl) rfl (fun hz => ?_) (fun hz => ?_)
    · have h := zS_f h (T_ne hz)
      refine E_aload_n (pc := 17) (zDk zD_320_ok 8 rfl) rfl ?_
      refine E_getR (pc := 18) (ci := 8) (f := 36) (r := 126) (zDk zD_320_ok 9 rfl) zc_320 (by decide +kernel) (by decide) zis_8_106 (by decide +kernel) (by decide) ?_
      refine E_iload_n (pc := 21) (zDk zD_320_ok 10 rfl) rfl ?_
      obtain ⟨v22, e22, h⟩ := zS_bind h
      refine E_iaload (pc := 22) (zDk zD_320_ok 11 rfl) e22 ?_
      refine E_iconst (pc := 23) (zDk zD_320_ok 12 rfl) (by decide +kernel) ?_
      refine E_icmp (pc := 24) (t := 37) (zDk zD_320_ok 13 rfl) rfl (fun hz => ?_) (fun hz => ?_)
      · have h := zS_t h (T_eq hz)
        refine E_bipush (pc := 37) (zDk zD_320_ok 20 rfl) (by decide +kernel) ?_
        have h := zS_some h
        exact E_ireturn (pc := 39) (zDk zD_320_ok 21 rfl) zt_320 h
      · have h := zS_f h (F_eq hz)
        refine E_aload_n (pc := 27) (zDk zD_320_ok 14 rfl) rfl ?_
        refine E_getR (pc := 28) (ci := 8) (f := 36) (r := 126) (zDk zD_320_ok 15 rfl) zc_320 (by decide +kernel) (by decide) zis_8_106 (by decide +kernel) (by decide) ?_
        refine E_iload_n (pc := 31) (zDk zD_320_ok 16 rfl) rfl ?_
        obtain ⟨v32, e32, h⟩ := zS_bind h
        refine E_iaload (pc := 32) (zDk zD_320_ok 17 rfl) e32 ?_
        refine E_iconst (pc := 33) (zDk zD_320_ok 18 rfl) (by decide +kernel) ?_
        refine E_icmp (pc := 34) (t := 40) (zDk zD_320_ok 19 rfl) rfl (fun hz => ?_) (fun hz => ?_)
        · have h := zS_f h (T_ne hz)
          refine E_aload_n (pc := 40) (zDk zD_320_ok 22 rfl) rfl ?_
          refine E_getR (pc := 41) (ci := 8) (f := 37) (r := 127) (zDk zD_320_ok 23 rfl) zc_320 (by decide +kernel) (by decide) zis_8_106 (by decide +kernel) (by decide) ?_
          refine E_iload_n (pc := 44) (zDk zD_320_ok 24 rfl) rfl ?_
          obtain ⟨v45, e45, h⟩ := zS_bind h
          refine E_iaload (pc := 45) (zDk zD_320_ok 25 rfl) e45 ?_
          refine E_aload_n (pc := 46) (zDk zD_320_ok 26 rfl) rfl ?_
          refine E_getR (pc := 47) (ci := 8) (f := 37) (r := 127) (zDk zD_320_ok 27 rfl) zc_320 (by decide +kernel) (by decide) zis_8_106 (by decide +kernel) (by decide) ?_
          refine E_iload_n (pc := 50) (zDk zD_320_ok 28 rfl) rfl ?_
          obtain ⟨v51, e51, h⟩ := zS_bind h
          refine E_iaload (pc := 51) (zDk zD_320_ok 29 rfl) e51 ?_
          refine E_icmp (pc := 52) (t := 58) (zDk zD_320_ok 30 rfl) rfl (fun hz => ?_) (fun hz => ?_)
          · have h := zS_t h (T_eq hz)
            refine E_iload_n (pc := 58) (zDk zD_320_ok 33 rfl) rfl ?_
            refine E_if (pc := 59) (t := 107) (zDk zD_320_ok 34 rfl) rfl (fun hz => ?_) (fun hz => ?_)
            · have h := zS_t h (T_lt hz)
              refine E_bipush (pc := 107) (zDk zD_320_ok 63 rfl) (by decide +kernel) ?_
              have h := zS_some h
              exact E_ireturn (pc := 109) (zDk zD_320_ok 64 rfl) zt_320 h
            · have h := zS_f h (Int.not_lt.mpr (F_lt hz))
              refine E_iload (pc := 62) (zDk zD_320_ok 35 rfl) rfl ?_
              refine E_if (pc := 64) (t := 107) (zDk zD_320_ok 36 rfl) rfl (fun hz => ?_) (fun hz => ?_)
              · have h := zS_t h (T_lt hz)
                refine E_bipush (pc := 107) (zDk zD_320_ok 63 rfl) (by decide +kernel) ?_
                have h := zS_some h
                exact E_ireturn (pc := 109) (zDk zD_320_ok 64 rfl) zt_320 h
              · have h := zS_f h (Int.not_lt.mpr (F_lt hz))
                refine E_iload (pc := 67) (zDk zD_320_ok 37 rfl) rfl ?_
                refine E_if (pc := 69) (t := 107) (zDk zD_320_ok 38 rfl) rfl (fun hz => ?_) (fun hz => ?_)
                · have h := zS_t h (T_lt hz)
                  refine E_bipush (pc := 107) (zDk zD_320_ok 63 rfl) (by decide +kernel) ?_
                  have h := zS_some h
                  exact E_ireturn (pc := 109) (zDk zD_320_ok 64 rfl) zt_320 h
                · have h := zS_f h (Int.not_lt.mpr (F_lt hz))
                  refine E_iload_n (pc := 72) (zDk zD_320_ok 39 rfl) rfl ?_
                  refine E_i2l (pc := 73) (zDk zD_320_ok 40 rfl) ?_
                  refine E_iload (pc := 74) (zDk zD_320_ok 41 rfl) rfl ?_
                  refine E_i2l (pc := 76) (zDk zD_320_ok 42 rfl) ?_
                  refine W_ladd (pc := 77) (zDk zD_320_ok 43 rfl) ?_
                  refine E_aload_n (pc := 78) (zDk zD_320_ok 44 rfl) rfl ?_
                  refine E_getR (pc := 79) (ci := 8) (f := 36) (r := 126) (zDk zD_320_ok 45 rfl) zc_320 (by decide +kernel) (by decide) zis_8_106 (by decide +kernel) (by decide) ?_
                  refine E_iload_n (pc := 82) (zDk zD_320_ok 46 rfl) rfl ?_
                  obtain ⟨v83, e83, h⟩ := zS_bind h
                  refine E_iaload (pc := 83) (zDk zD_320_ok 47 rfl) e83 ?_
                  refine E_i2l (pc := 84) (zDk zD_320_ok 48 rfl) ?_
                  refine W_lcmp (pc := 85) (zDk zD_320_ok 49 rfl) ?_
                  refine E_if (pc := 86) (t := 107) (zDk zD_320_ok 50 rfl) rfl (fun hz => ?_) (fun hz => ?_)
                  · have h := zS_t h (zlc_gt (T_gt hz))
                    refine E_bipush (pc := 107) (zDk zD_320_ok 63 rfl) (by decide +kernel) ?_
                    have h := zS_some h
                    exact E_ireturn (pc := 109) (zDk zD_320_ok 64 rfl) zt_320 h
                  · have h := zS_f h (Int.not_lt.mpr (zlc_le (F_gt hz)))
                    refine E_iload (pc := 89) (zDk zD_320_ok 51 rfl) rfl ?_
                    refine E_i2l (pc := 91) (zDk zD_320_ok 52 rfl) ?_
                    refine E_iload (pc := 92) (zDk zD_320_ok 53 rfl) rfl ?_
                    refine E_i2l (pc := 94) (zDk zD_320_ok 54 rfl) ?_
                    refine W_ladd (pc := 95) (zDk zD_320_ok 55 rfl) ?_
                    refine E_aload_n (pc := 96) (zDk zD_320_ok 56 rfl) rfl ?_
                    refine E_getR (pc := 97) (ci := 8) (f := 36) (r := 126) (zDk zD_320_ok 57 rfl) zc_320 (by decide +kernel) (by decide) zis_8_106 (by decide +kernel) (by decide) ?_
                    refine E_iload_n (pc := 100) (zDk zD_320_ok 58 rfl) rfl ?_
                    obtain ⟨v101, e101, h⟩ := zS_bind h
                    refine E_iaload (pc := 101) (zDk zD_320_ok 59 rfl) e101 ?_
                    refine E_i2l (pc := 102) (zDk zD_320_ok 60 rfl) ?_
                    refine W_lcmp (pc := 103) (zDk zD_320_ok 61 rfl) ?_
                    refine E_if (pc := 104) (t := 110) (zDk zD_320_ok 62 rfl) rfl (fun hz => ?_) (fun hz => ?_)
                    · have h := zS_f h (Int.not_lt.mpr (zlc_le (T_le hz)))
                      refine E_iconst (pc := 110) (zDk zD_320_ok 65 rfl) (by decide +kernel) ?_
                      refine W_istore (pc := 111) (L' := [some (.inr (.inr 106)), some (.inl x1), some (.inl x2), some (.inl x3), some (.inl x4), some (.inl x5), some (.inl (0 : Int))]) (zDk zD_320_ok 66 rfl) zm_320 (by decide) rfl ?_
                      exact ok_lm_paste_c113 hq x1 x2 x3 x4 x5 zN (0 : Int) M h
                    · have h := zS_t h (zlc_gt (F_le hz))
                      refine E_bipush (pc := 107) (zDk zD_320_ok 63 rfl) (by decide +kernel) ?_
                      have h := zS_some h
                      exact E_ireturn (pc := 109) (zDk zD_320_ok 64 rfl) zt_320 h
          · have h := zS_f h (F_eq hz)
            refine E_bipush (pc := 55) (zDk zD_320_ok 31 rfl) (by decide +kernel) ?_
            have h := zS_some h
            exact E_ireturn (pc := 57) (zDk zD_320_ok 32 rfl) zt_320 h
        · have h := zS_t h (F_ne hz)
          refine E_bipush (pc := 37) (zDk zD_320_ok 20 rfl) (by decide +kernel) ?_
          have h := zS_some h
          exact E_ireturn (pc := 39) (zDk zD_320_ok 21 rfl) zt_320 h
    · have h := zS_t h (F_ne hz)
      refine E_bipush (pc := 14) (zDk zD_320_ok 6 rfl) (by decide +kernel) ?_
      have h := zS_some h
      exact E_ireturn (pc := 16) (zDk zD_320_ok 7 rfl) zt_320 h
