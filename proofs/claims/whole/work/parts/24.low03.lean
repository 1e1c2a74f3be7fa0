/-! Lifted methods 3 (written by wip/whole/lift.py): decode rows, functions, proofs. -/
def zD_164 : List (Nat × Instr × Nat) := [(0, .iconst (0), 1), (1, .istore_n (3), 1), (2, .iconst (0), 1), (3, .istore (4), 2), (5, .iload (4), 2), (7, .iload_n (2), 1), (8, .if_icmp .ge (69), 3), (11, .iconst (0), 1), (12, .istore (5), 2), (14, .iconst (0), 1), (15, .istore (6), 2), (17, .iload (6), 2), (19, .aload_n (0), 1), (20, .getfield (19), 3), (23, .getfield (281), 3), (26, .if_icmp .ge (38), 3), (29, .iload_n (1), 1), (30, .iload (6), 2), (32, .ishr, 1), (33, .iconst (1), 1), (34, .iand, 1), (35, .ifCond .eq (23), 3), (38, .aload_n (0), 1), (39, .getfield (19), 3), (42, .getfield (121), 3), (45, .iload (6), 2), (47, .iaload, 1), (48, .iload_n (2), 1), (49, .irem, 1), (50, .iload (4), 2), (52, .if_icmp .ne (6), 3), (55, .iinc (5) (1), 3), (58, .iinc (6) (1), 3), (61, .goto (-44), 3), (64, .iload_n (3), 1), (65, .iload (5), 2), (67, .invokestatic (417), 3), (70, .istore_n (3), 1), (71, .iinc (4) (1), 3), (74, .goto (-69), 3), (77, .iload_n (3), 1), (78, .ireturn, 1)]
set_option maxRecDepth 100000 in
theorem zD_164_ok : zDo 164 zD_164 = true := by decide +kernel
theorem zc_164 : zcls 164 = 7 := by decide +kernel
theorem zm_164 : zml 164 = 7 := by decide +kernel
theorem zt_164 : zrt 164 = (some (.int)) := by decide +kernel
theorem zk_164 : zkd 164 = 1 ∧ znp 164 + 1 = 3 := by decide +kernel
theorem zr_164 (as : List zV) : zrk 164 as = 1 := by unfold zrk; rw [if_neg (by decide)]; decide +kernel
def lX_forgedLeft_c17 (x1 : Int) (x2 : Int) (M : Nat → Nat → Int) (h5 : Int → Int → Option Int) : Nat → Int → Int → Int → Int → Option Int
  | 0, _, _, _, _ => none
  | n + 1, y3, y4, y5, y6 =>
    (if y6 < (M 3 7) then
    (if (zand (zshr x1 y6) (1 : Int)) = 0 then
    ((lX_forgedLeft_c17 x1 x2 M h5 n) y3 y4 y5 (w32 (y6 + 1)))
    else
    ((rdI 9 y6 M).bind (fun v47 =>
    (if x2 = 0 then none else (if (zrem v47 x2) = y4 then
    ((lX_forgedLeft_c17 x1 x2 M h5 n) y3 y4 (w32 (y5 + 1)) (w32 (y6 + 1)))
    else
    ((lX_forgedLeft_c17 x1 x2 M h5 n) y3 y4 y5 (w32 (y6 + 1))))))))
    else
    (h5 (zmax y3 y5) (w32 (y4 + 1))))
set_option maxRecDepth 100000 in
theorem ok_lX_forgedLeft_c17 {sc : zSc} {q : Nat} {P : Option zV → (Nat → Nat → Int) → Prop} (hq : 1 ≤ q) (x1 : Int) (x2 : Int) (M : Nat → Nat → Int) (h5 : Int → Int → Option Int) (H5 : ∀ (y3 : Int) (y4 : Int) (d5 d6 : Option zV), zS (h5 y3 y4) (fun x => P (some (.inl x)) M) → zWp sc q 164 5 [some (.inr (.inr 0)), some (.inl x1), some (.inl x2), some (.inl y3), some (.inl y4), d5, d6] [] M P) : ∀ (n : Nat) (y3 : Int) (y4 : Int) (y5 : Int) (y6 : Int), zS (lX_forgedLeft_c17 x1 x2 M h5 n y3 y4 y5 y6) (fun x => P (some (.inl x)) M) → zWp sc q 164 17 [some (.inr (.inr 0)), some (.inl x1), some (.inl x2), some (.inl y3), some (.inl y4), some (.inl y5), some (.inl y6)] [] M P := by
  intro n
  induction n with
  | zero => intro y3 y4 y5 y6 h; exact (zS_none h).elim
  | succ n ih =>
    intro y3 y4 y5 y6 h
    rw [lX_forgedLeft_c17] at h
    refine E_iload (pc := 17) (zDk zD_164_ok 11 rfl) rfl ?_
    refine E_aload_n (pc := 19) (zDk zD_164_ok 12 rfl) rfl ?_
    refine E_getR (pc := 20) (ci := 7) (f := 1) (r := 3) (zDk zD_164_ok 13 rfl) zc_164 (by decide +kernel) (by decide) zis_7_0 (by decide +kernel) (by decide) ?_
    refine E_getI (pc := 23) (ci := 6) (f := 7) (zDk zD_164_ok 14 rfl) zc_164 (by decide +kernel) (by decide) zis_6_3 ?_
    refine E_icmp (pc := 26) (t := 64) (zDk zD_164_ok 15 rfl) rfl (fun hz => ?_) (fun hz => ?_)
    · have h := zS_f h (Int.not_lt.mpr (T_ge hz))
      refine E_iload_n (pc := 64) (zDk zD_164_ok 34 rfl) rfl ?_
      refine E_iload (pc := 65) (zDk zD_164_ok 35 rfl) rfl ?_
      refine W_max (pc := 67) (zDk zD_164_ok 36 rfl) zc_164 (by decide +kernel) (Nat.le_of_ble_eq_true rfl) (Nat.lt_of_lt_of_le (by decide) hq) ?_
      refine W_istore_n (pc := 70) (L' := [some (.inr (.inr 0)), some (.inl x1), some (.inl x2), some (.inl (zmax y3 y5)), some (.inl y4), some (.inl y5), some (.inl y6)]) (zDk zD_164_ok 37 rfl) zm_164 (by decide) rfl ?_
      refine W_iinc (pc := 71) (L' := [some (.inr (.inr 0)), some (.inl x1), some (.inl x2), some (.inl (zmax y3 y5)), some (.inl (w32 (y4 + 1))), some (.inl y5), some (.inl y6)]) (zDk zD_164_ok 38 rfl) rfl zm_164 (by decide) rfl ?_
      refine E_goto (pc := 74) (t := 5) (zDk zD_164_ok 39 rfl) rfl ?_
      exact H5 (zmax y3 y5) (w32 (y4 + 1)) (some (.inl y5)) (some (.inl y6)) h
    · have h := zS_t h (F_ge hz)
      refine E_iload_n (pc := 29) (zDk zD_164_ok 16 rfl) rfl ?_
      refine E_iload (pc := 30) (zDk zD_164_ok 17 rfl) rfl ?_
      refine E_ishr (pc := 32) (zDk zD_164_ok 18 rfl) ?_
      refine E_iconst (pc := 33) (zDk zD_164_ok 19 rfl) (by decide +kernel) ?_
      refine E_iand (pc := 34) (zDk zD_164_ok 20 rfl) ?_
      refine E_if (pc := 35) (t := 58) (zDk zD_164_ok 21 rfl) rfl (fun hz => ?_) (fun hz => ?_)
      · have h := zS_t h (T_eq hz)
        refine W_iinc (pc := 58) (L' := [some (.inr (.inr 0)), some (.inl x1), some (.inl x2), some (.inl y3), some (.inl y4), some (.inl y5), some (.inl (w32 (y6 + 1)))]) (zDk zD_164_ok 32 rfl) rfl zm_164 (by decide) rfl ?_
        refine E_goto (pc := 61) (t := 17) (zDk zD_164_ok 33 rfl) rfl ?_
        exact (ih) y3 y4 y5 (w32 (y6 + 1)) h
      · have h := zS_f h (F_eq hz)
        refine E_aload_n (pc := 38) (zDk zD_164_ok 22 rfl) rfl ?_
        refine E_getR (pc := 39) (ci := 7) (f := 1) (r := 3) (zDk zD_164_ok 23 rfl) zc_164 (by decide +kernel) (by decide) zis_7_0 (by decide +kernel) (by decide) ?_
        refine E_getR (pc := 42) (ci := 6) (f := 14) (r := 9) (zDk zD_164_ok 24 rfl) zc_164 (by decide +kernel) (by decide) zis_6_3 (by decide +kernel) (by decide) ?_
        refine E_iload (pc := 45) (zDk zD_164_ok 25 rfl) rfl ?_
        obtain ⟨v47, e47, h⟩ := zS_bind h
        refine E_iaload (pc := 47) (zDk zD_164_ok 26 rfl) e47 ?_
        refine E_iload_n (pc := 48) (zDk zD_164_ok 27 rfl) rfl ?_
        have hn49 : ¬ (x2 = 0) := fun e => by rw [if_pos e] at h; exact zS_none h
        have h := zS_f h hn49
        refine E_irem (pc := 49) (zDk zD_164_ok 28 rfl) hn49 ?_
        refine E_iload (pc := 50) (zDk zD_164_ok 29 rfl) rfl ?_
        refine E_icmp (pc := 52) (t := 58) (zDk zD_164_ok 30 rfl) rfl (fun hz => ?_) (fun hz => ?_)
        · have h := zS_f h (T_ne hz)
          refine W_iinc (pc := 58) (L' := [some (.inr (.inr 0)), some (.inl x1), some (.inl x2), some (.inl y3), some (.inl y4), some (.inl y5), some (.inl (w32 (y6 + 1)))]) (zDk zD_164_ok 32 rfl) rfl zm_164 (by decide) rfl ?_
          refine E_goto (pc := 61) (t := 17) (zDk zD_164_ok 33 rfl) rfl ?_
          exact (ih) y3 y4 y5 (w32 (y6 + 1)) h
        · have h := zS_t h (F_ne hz)
          refine W_iinc (pc := 55) (L' := [some (.inr (.inr 0)), some (.inl x1), some (.inl x2), some (.inl y3), some (.inl y4), some (.inl (w32 (y5 + 1))), some (.inl y6)]) (zDk zD_164_ok 31 rfl) rfl zm_164 (by decide) rfl ?_
          refine W_iinc (pc := 58) (L' := [some (.inr (.inr 0)), some (.inl x1), some (.inl x2), some (.inl y3), some (.inl y4), some (.inl (w32 (y5 + 1))), some (.inl (w32 (y6 + 1)))]) (zDk zD_164_ok 32 rfl) rfl zm_164 (by decide) rfl ?_
          refine E_goto (pc := 61) (t := 17) (zDk zD_164_ok 33 rfl) rfl ?_
          exact (ih) y3 y4 (w32 (y5 + 1)) (w32 (y6 + 1)) h
def lX_forgedLeft_c5 (x1 : Int) (x2 : Int) (M : Nat → Nat → Int) : Nat → Int → Int → Option Int
  | 0, _, _ => none
  | n + 1, y3, y4 =>
    (if y4 < x2 then
    (lX_forgedLeft_c17 x1 x2 M (lX_forgedLeft_c5 x1 x2 M n) zN y3 y4 (0 : Int) (0 : Int))
    else
    (some y3))
set_option maxRecDepth 100000 in
theorem ok_lX_forgedLeft_c5 {sc : zSc} {q : Nat} {P : Option zV → (Nat → Nat → Int) → Prop} (hq : 1 ≤ q) (x1 : Int) (x2 : Int) (M : Nat → Nat → Int) : ∀ (n : Nat) (y3 : Int) (y4 : Int) (d5 d6 : Option zV), zS (lX_forgedLeft_c5 x1 x2 M n y3 y4) (fun x => P (some (.inl x)) M) → zWp sc q 164 5 [some (.inr (.inr 0)), some (.inl x1), some (.inl x2), some (.inl y3), some (.inl y4), d5, d6] [] M P := by
  intro n
  induction n with
  | zero => intro y3 y4 d5 d6 h; exact (zS_none h).elim
  | succ n ih =>
    intro y3 y4 d5 d6 h
    rw [lX_forgedLeft_c5] at h
    refine E_iload (pc := 5) (zDk zD_164_ok 4 rfl) rfl ?_
    refine E_iload_n (pc := 7) (zDk zD_164_ok 5 rfl) rfl ?_
    refine E_icmp (pc := 8) (t := 77) (zDk zD_164_ok 6 rfl) rfl (fun hz => ?_) (fun hz => ?_)
    · have h := zS_f h (Int.not_lt.mpr (T_ge hz))
      refine E_iload_n (pc := 77) (zDk zD_164_ok 40 rfl) rfl ?_
      have h := zS_some h
      exact E_ireturn (pc := 78) (zDk zD_164_ok 41 rfl) zt_164 h
    · have h := zS_t h (F_ge hz)
      refine E_iconst (pc := 11) (zDk zD_164_ok 7 rfl) (by decide +kernel) ?_
      refine W_istore (pc := 12) (L' := [some (.inr (.inr 0)), some (.inl x1), some (.inl x2), some (.inl y3), some (.inl y4), some (.inl (0 : Int)), d6]) (zDk zD_164_ok 8 rfl) zm_164 (by decide) rfl ?_
      refine E_iconst (pc := 14) (zDk zD_164_ok 9 rfl) (by decide +kernel) ?_
      refine W_istore (pc := 15) (L' := [some (.inr (.inr 0)), some (.inl x1), some (.inl x2), some (.inl y3), some (.inl y4), some (.inl (0 : Int)), some (.inl (0 : Int))]) (zDk zD_164_ok 10 rfl) zm_164 (by decide) rfl ?_
      exact ok_lX_forgedLeft_c17 hq x1 x2 M (lX_forgedLeft_c5 x1 x2 M n) (ih) zN y3 y4 (0 : Int) (0 : Int) h
def lX_forgedLeft (x1 : Int) (x2 : Int) (M : Nat → Nat → Int) : Option Int :=
    (lX_forgedLeft_c5 x1 x2 M zN (0 : Int) (0 : Int))
set_option maxRecDepth 100000 in
theorem ok_lX_forgedLeft {sc : zSc} {x1 : Int} {x2 : Int} {M : Nat → Nat → Int} {P : Int → (Nat → Nat → Int) → Prop} (h : zS (lX_forgedLeft x1 x2 M) (fun x => P x M)) : zCi sc 164 [.inr (.inr 0), .inl x1, .inl x2] M P := by
  have ea : zarg (zml 164) [.inr (.inr 0), .inl x1, .inl x2] = [some (.inr (.inr 0)), some (.inl x1), some (.inl x2), none, none, none, none] := by rw [zm_164]; rfl
  unfold zCi zCw
  rw [ea, zr_164]
  have hq : 1 ≤ 1 := Nat.le_refl _
  unfold lX_forgedLeft at h
  have h := zS_mono h (fun x hx => (⟨x, rfl, hx⟩ : ∃ y, (some (.inl x) : Option zV) = some (.inl y) ∧ P y M))
  skip
  refine E_iconst (pc := 0) (zDk zD_164_ok 0 rfl) (by decide +kernel) ?_
  refine W_istore_n (pc := 1) (L' := [some (.inr (.inr 0)), some (.inl x1), some (.inl x2), some (.inl (0 : Int)), none, none, none]) (zDk zD_164_ok 1 rfl) zm_164 (by decide) rfl ?_
  refine E_iconst (pc := 2) (zDk zD_164_ok 2 rfl) (by decide +kernel) ?_
  refine W_istore (pc := 3) (L' := [some (.inr (.inr 0)), some (.inl x1), some (.inl x2), some (.inl (0 : Int)), some (.inl (0 : Int)), none, none]) (zDk zD_164_ok 3 rfl) zm_164 (by decide) rfl ?_
  exact ok_lX_forgedLeft_c5 hq x1 x2 M zN (0 : Int) (0 : Int) none none h
def zD_165 : List (Nat × Instr × Nat) := [(0, .iconst (0), 1), (1, .istore_n (2), 1), (2, .iconst (0), 1), (3, .istore_n (3), 1), (4, .iload_n (3), 1), (5, .aload_n (0), 1), (6, .getfield (19), 3), (9, .getfield (284), 3), (12, .if_icmp .ge (46), 3), (15, .aload_n (0), 1), (16, .getfield (19), 3), (19, .getfield (133), 3), (22, .iload_n (3), 1), (23, .iaload, 1), (24, .istore (4), 2), (26, .iload (4), 2), (28, .iload_n (1), 1), (29, .ishr, 1), (30, .iconst (1), 1), (31, .iand, 1), (32, .ifCond .eq (20), 3), (35, .iload_n (2), 1), (36, .iload (4), 2), (38, .invokestatic (183), 3), (41, .iconst (2), 1), (42, .if_icmp .ne (7), 3), (45, .iconst (3), 1), (46, .goto (4), 3), (49, .iconst (2), 1), (50, .iadd, 1), (51, .istore_n (2), 1), (52, .iinc (3) (1), 3), (55, .goto (-51), 3), (58, .iload_n (2), 1), (59, .ireturn, 1)]
set_option maxRecDepth 100000 in
theorem zD_165_ok : zDo 165 zD_165 = true := by decide +kernel
theorem zc_165 : zcls 165 = 7 := by decide +kernel
theorem zm_165 : zml 165 = 5 := by decide +kernel
theorem zt_165 : zrt 165 = (some (.int)) := by decide +kernel
theorem zk_165 : zkd 165 = 1 ∧ znp 165 + 1 = 2 := by decide +kernel
theorem zr_165 (as : List zV) : zrk 165 as = 1 := by unfold zrk; rw [if_neg (by decide)]; decide +kernel
def lX_sixthsOfShare_c4 (x1 : Int) (M : Nat → Nat → Int) : Nat → Int → Int → Option Int
  | 0, _, _ => none
  | n + 1, y2, y3 =>
    (if y3 < (M 3 8) then
    ((rdI 12 y3 M).bind (fun v23 =>
    (if (zand (zshr v23 x1) (1 : Int)) = 0 then
    ((lX_sixthsOfShare_c4 x1 M n) y2 (w32 (y3 + 1)))
    else
    ((lJ_bitCount v23 M).bind (fun v38 =>
    (if v38 = (2 : Int) then
    ((lX_sixthsOfShare_c4 x1 M n) (w32 (y2 + (3 : Int))) (w32 (y3 + 1)))
    else
    ((lX_sixthsOfShare_c4 x1 M n) (w32 (y2 + (2 : Int))) (w32 (y3 + 1)))))))))
    else
    (some y2))
set_option maxRecDepth 100000 in
theorem ok_lX_sixthsOfShare_c4 {sc : zSc} {q : Nat} {P : Option zV → (Nat → Nat → Int) → Prop} (hq : 1 ≤ q) (x1 : Int) (M : Nat → Nat → Int) : ∀ (n : Nat) (y2 : Int) (y3 : Int) (d4 : Option zV), zS (lX_sixthsOfShare_c4 x1 M n y2 y3) (fun x => P (some (.inl x)) M) → zWp sc q 165 4 [some (.inr (.inr 0)), some (.inl x1), some (.inl y2), some (.inl y3), d4] [] M P := by
  intro n
  induction n with
  | zero => intro y2 y3 d4 h; exact (zS_none h).elim
  | succ n ih =>
    intro y2 y3 d4 h
    rw [lX_sixthsOfShare_c4] at h
    refine E_iload_n (pc := 4) (zDk zD_165_ok 4 rfl) rfl ?_
    refine E_aload_n (pc := 5) (zDk zD_165_ok 5 rfl) rfl ?_
    refine E_getR (pc := 6) (ci := 7) (f := 1) (r := 3) (zDk zD_165_ok 6 rfl) zc_165 (by decide +kernel) (by decide) zis_7_0 (by decide +kernel) (by decide) ?_
    refine E_getI (pc := 9) (ci := 6) (f := 8) (zDk zD_165_ok 7 rfl) zc_165 (by decide +kernel) (by decide) zis_6_3 ?_
    refine E_icmp (pc := 12) (t := 58) (zDk zD_165_ok 8 rfl) rfl (fun hz => ?_) (fun hz => ?_)
    · have h := zS_f h (Int.not_lt.mpr (T_ge hz))
      refine E_iload_n (pc := 58) (zDk zD_165_ok 33 rfl) rfl ?_
      have h := zS_some h
      exact E_ireturn (pc := 59) (zDk zD_165_ok 34 rfl) zt_165 h
    · have h := zS_t h (F_ge hz)
      refine E_aload_n (pc := 15) (zDk zD_165_ok 9 rfl) rfl ?_
      refine E_getR (pc := 16) (ci := 7) (f := 1) (r := 3) (zDk zD_165_ok 10 rfl) zc_165 (by decide +kernel) (by decide) zis_7_0 (by decide +kernel) (by decide) ?_
      refine E_getR (pc := 19) (ci := 6) (f := 17) (r := 12) (zDk zD_165_ok 11 rfl) zc_165 (by decide +kernel) (by decide) zis_6_3 (by decide +kernel) (by decide) ?_
      refine E_iload_n (pc := 22) (zDk zD_165_ok 12 rfl) rfl ?_
      obtain ⟨v23, e23, h⟩ := zS_bind h
      refine E_iaload (pc := 23) (zDk zD_165_ok 13 rfl) e23 ?_
      refine W_istore (pc := 24) (L' := [some (.inr (.inr 0)), some (.inl x1), some (.inl y2), some (.inl y3), some (.inl v23)]) (zDk zD_165_ok 14 rfl) zm_165 (by decide) rfl ?_
      refine E_iload (pc := 26) (zDk zD_165_ok 15 rfl) rfl ?_
      refine E_iload_n (pc := 28) (zDk zD_165_ok 16 rfl) rfl ?_
      refine E_ishr (pc := 29) (zDk zD_165_ok 17 rfl) ?_
      refine E_iconst (pc := 30) (zDk zD_165_ok 18 rfl) (by decide +kernel) ?_
      refine E_iand (pc := 31) (zDk zD_165_ok 19 rfl) ?_
      refine E_if (pc := 32) (t := 52) (zDk zD_165_ok 20 rfl) rfl (fun hz => ?_) (fun hz => ?_)
      · have h := zS_t h (T_eq hz)
        refine W_iinc (pc := 52) (L' := [some (.inr (.inr 0)), some (.inl x1), some (.inl y2), some (.inl (w32 (y3 + 1))), some (.inl v23)]) (zDk zD_165_ok 31 rfl) rfl zm_165 (by decide) rfl ?_
        refine E_goto (pc := 55) (t := 4) (zDk zD_165_ok 32 rfl) rfl ?_
        exact (ih) y2 (w32 (y3 + 1)) (some (.inl v23)) h
      · have h := zS_f h (F_eq hz)
        refine E_iload_n (pc := 35) (zDk zD_165_ok 21 rfl) rfl ?_
        refine E_iload (pc := 36) (zDk zD_165_ok 22 rfl) rfl ?_
        obtain ⟨v38, e38, h⟩ := zS_bind h
        refine E_staI (pc := 38) (c := 321) (as := [.inl v23]) (rest := [.inl y2]) (zDk zD_165_ok 23 rfl) zc_165 (by decide +kernel) (by decide +kernel) zk_321 ⟨(Nat.le_of_ble_eq_true rfl), rfl, rfl⟩ (Nat.le_of_ble_eq_true rfl) (zr_321 _) (Nat.lt_of_lt_of_le (by decide) hq) (by rw [zm_321]; exact (Nat.le_of_ble_eq_true rfl)) (ok_lJ_bitCount ⟨v38, e38, ?_⟩)
        refine E_iconst (pc := 41) (zDk zD_165_ok 24 rfl) (by decide +kernel) ?_
        refine E_icmp (pc := 42) (t := 49) (zDk zD_165_ok 25 rfl) rfl (fun hz => ?_) (fun hz => ?_)
        · have h := zS_f h (T_ne hz)
          refine E_iconst (pc := 49) (zDk zD_165_ok 28 rfl) (by decide +kernel) ?_
          refine W_iadd (pc := 50) (zDk zD_165_ok 29 rfl) ?_
          refine W_istore_n (pc := 51) (L' := [some (.inr (.inr 0)), some (.inl x1), some (.inl (w32 (y2 + (2 : Int)))), some (.inl y3), some (.inl v23)]) (zDk zD_165_ok 30 rfl) zm_165 (by decide) rfl ?_
          refine W_iinc (pc := 52) (L' := [some (.inr (.inr 0)), some (.inl x1), some (.inl (w32 (y2 + (2 : Int)))), some (.inl (w32 (y3 + 1))), some (.inl v23)]) (zDk zD_165_ok 31 rfl) rfl zm_165 (by decide) rfl ?_
          refine E_goto (pc := 55) (t := 4) (zDk zD_165_ok 32 rfl) rfl ?_
          exact (ih) (w32 (y2 + (2 : Int))) (w32 (y3 + 1)) (some (.inl v23)) h
        · have h := zS_t h (F_ne hz)
          refine E_iconst (pc := 45) (zDk zD_165_ok 26 rfl) (by decide +kernel) ?_
          refine E_goto (pc := 46) (t := 50) (zDk zD_165_ok 27 rfl) rfl ?_
          refine W_iadd (pc := 50) (zDk zD_165_ok 29 rfl) ?_
          refine W_istore_n (pc := 51) (L' := [some (.inr (.inr 0)), some (.inl x1), some (.inl (w32 (y2 + (3 : Int)))), some (.inl y3), some (.inl v23)]) (zDk zD_165_ok 30 rfl) zm_165 (by decide) rfl ?_
          refine W_iinc (pc := 52) (L' := [some (.inr (.inr 0)), some (.inl x1), some (.inl (w32 (y2 + (3 : Int)))), some (.inl (w32 (y3 + 1))), some (.inl v23)]) (zDk zD_165_ok 31 rfl) rfl zm_165 (by decide) rfl ?_
          refine E_goto (pc := 55) (t := 4) (zDk zD_165_ok 32 rfl) rfl ?_
          exact (ih) (w32 (y2 + (3 : Int))) (w32 (y3 + 1)) (some (.inl v23)) h
def lX_sixthsOfShare (x1 : Int) (M : Nat → Nat → Int) : Option Int :=
    (lX_sixthsOfShare_c4 x1 M zN (0 : Int) (0 : Int))
set_option maxRecDepth 100000 in
theorem ok_lX_sixthsOfShare {sc : zSc} {x1 : Int} {M : Nat → Nat → Int} {P : Int → (Nat → Nat → Int) → Prop} (h : zS (lX_sixthsOfShare x1 M) (fun x => P x M)) : zCi sc 165 [.inr (.inr 0), .inl x1] M P := by
  have ea : zarg (zml 165) [.inr (.inr 0), .inl x1] = [some (.inr (.inr 0)), some (.inl x1), none, none, none] := by rw [zm_165]; rfl
  unfold zCi zCw
  rw [ea, zr_165]
  have hq : 1 ≤ 1 := Nat.le_refl _
  unfold lX_sixthsOfShare at h
  have h := zS_mono h (fun x hx => (⟨x, rfl, hx⟩ : ∃ y, (some (.inl x) : Option zV) = some (.inl y) ∧ P y M))
  skip
  refine E_iconst (pc := 0) (zDk zD_165_ok 0 rfl) (by decide +kernel) ?_
  refine W_istore_n (pc := 1) (L' := [some (.inr (.inr 0)), some (.inl x1), some (.inl (0 : Int)), none, none]) (zDk zD_165_ok 1 rfl) zm_165 (by decide) rfl ?_
  refine E_iconst (pc := 2) (zDk zD_165_ok 2 rfl) (by decide +kernel) ?_
  refine W_istore_n (pc := 3) (L' := [some (.inr (.inr 0)), some (.inl x1), some (.inl (0 : Int)), some (.inl (0 : Int)), none]) (zDk zD_165_ok 3 rfl) zm_165 (by decide) rfl ?_
  exact ok_lX_sixthsOfShare_c4 hq x1 M zN (0 : Int) (0 : Int) none h
def zD_170 : List (Nat × Instr × Nat) := [(0, .lload_n (0), 1), (1, .lload_n (2), 1), (2, .invokestatic (442), 3), (5, .lstore (5), 2), (7, .lload (5), 2), (9, .lconst (0), 1), (10, .lcmp, 1), (11, .ifCond .gt (7), 3), (14, .ldc2_w (307), 3), (17, .lreturn, 1), (18, .iload (4), 2), (20, .ifCond .ne (7), 3), (23, .lload_n (0), 1), (24, .goto (4), 3), (27, .lload_n (2), 1), (28, .lload (5), 2), (30, .ldiv, 1), (31, .lreturn, 1)]
set_option maxRecDepth 100000 in
theorem zD_170_ok : zDo 170 zD_170 = true := by decide +kernel
theorem zc_170 : zcls 170 = 7 := by decide +kernel
theorem zm_170 : zml 170 = 7 := by decide +kernel
theorem zt_170 : zrt 170 = (some (.long)) := by decide +kernel
theorem zk_170 : zkd 170 = 0 ∧ znp 170 = 3 := by decide +kernel
theorem zr_170 (as : List zV) : zrk 170 as = 1 := by unfold zrk; rw [if_neg (by decide)]; decide +kernel
def lX_inLowestTerms (x0 : Int) (x2 : Int) (x4 : Int) (M : Nat → Nat → Int) : Option Int :=
    ((lX_commonMeasure x0 x2 M).bind (fun v2 =>
    (if (0 : Int) < v2 then
    (if x4 = 0 then
    (if v2 = 0 then none else (some (zdivL x0 v2)))
    else
    (if v2 = 0 then none else (some (zdivL x2 v2))))
    else
    (some (-2 : Int)))))
set_option maxRecDepth 100000 in
theorem ok_lX_inLowestTerms {sc : zSc} {x0 : Int} {x2 : Int} {x4 : Int} {M : Nat → Nat → Int} {P : Int → (Nat → Nat → Int) → Prop} (h : zS (lX_inLowestTerms x0 x2 x4 M) (fun x => P x M)) : zCl sc 170 [.inr (.inl x0), .inr (.inl x2), .inl x4] M P := by
  have ea : zarg (zml 170) [.inr (.inl x0), .inr (.inl x2), .inl x4] = [some (.inr (.inl x0)), none, some (.inr (.inl x2)), none, some (.inl x4), none, none] := by rw [zm_170]; rfl
  unfold zCl zCw
  rw [ea, zr_170]
  have hq : 1 ≤ 1 := Nat.le_refl _
  unfold lX_inLowestTerms at h
  have h := zS_mono h (fun x hx => (⟨x, rfl, hx⟩ : ∃ y, (some (.inr (.inl x)) : Option zV) = some (.inr (.inl y)) ∧ P y M))
  skip
  refine E_lload_n (pc := 0) (zDk zD_170_ok 0 rfl) rfl ?_
  refine E_lload_n (pc := 1) (zDk zD_170_ok 1 rfl) rfl ?_
  obtain ⟨v2, e2, h⟩ := zS_bind h
  refine E_staL (pc := 2) (c := 171) (as := [.inr (.inl x0), .inr (.inl x2)]) (rest := []) (zDk zD_170_ok 2 rfl) zc_170 (by decide +kernel) (by decide +kernel) zk_171 ⟨(Nat.le_of_ble_eq_true rfl), rfl, rfl⟩ (Nat.le_of_ble_eq_true rfl) (zr_171 _) (Nat.lt_of_lt_of_le (by decide) hq) (by rw [zm_171]; exact (Nat.le_of_ble_eq_true rfl)) (ok_lX_commonMeasure ⟨v2, e2, ?_⟩)
  refine W_lstore (pc := 5) (L' := [some (.inr (.inl x0)), none, some (.inr (.inl x2)), none, some (.inl x4), some (.inr (.inl v2)), none]) (zDk zD_170_ok 3 rfl) zm_170 (by decide) rfl ?_
  refine E_lload (pc := 7) (zDk zD_170_ok 4 rfl) rfl ?_
  refine E_lconst (pc := 9) (v := 0) (zDk zD_170_ok 5 rfl) (by decide +kernel) ?_
  refine W_lcmp (pc := 10) (zDk zD_170_ok 6 rfl) ?_
  refine E_if (pc := 11) (t := 18) (zDk zD_170_ok 7 rfl) rfl (fun hz => ?_) (fun hz => ?_)
  · have h := zS_t h (zlc_gt (T_gt hz))
    refine E_iload (pc := 18) (zDk zD_170_ok 10 rfl) rfl ?_
    refine E_if (pc := 20) (t := 27) (zDk zD_170_ok 11 rfl) rfl (fun hz => ?_) (fun hz => ?_)
    · have h := zS_f h (T_ne hz)
      refine E_lload_n (pc := 27) (zDk zD_170_ok 14 rfl) rfl ?_
      refine E_lload (pc := 28) (zDk zD_170_ok 15 rfl) rfl ?_
      have hn30 : ¬ (v2 = 0) := fun e => by rw [if_pos e] at h; exact zS_none h
      have h := zS_f h hn30
      refine E_ldiv (pc := 30) (zDk zD_170_ok 16 rfl) hn30 ?_
      have h := zS_some h
      exact E_lreturn (pc := 31) (zDk zD_170_ok 17 rfl) zt_170 h
    · have h := zS_t h (F_ne hz)
      refine E_lload_n (pc := 23) (zDk zD_170_ok 12 rfl) rfl ?_
      refine E_goto (pc := 24) (t := 28) (zDk zD_170_ok 13 rfl) rfl ?_
      refine E_lload (pc := 28) (zDk zD_170_ok 15 rfl) rfl ?_
      have hn30 : ¬ (v2 = 0) := fun e => by rw [if_pos e] at h; exact zS_none h
      have h := zS_f h hn30
      refine E_ldiv (pc := 30) (zDk zD_170_ok 16 rfl) hn30 ?_
      have h := zS_some h
      exact E_lreturn (pc := 31) (zDk zD_170_ok 17 rfl) zt_170 h
  · have h := zS_f h (Int.not_lt.mpr (zlc_le (F_gt hz)))
    refine E_ldc2_w (pc := 14) (v := .inr (.inl (-2 : Int))) (zDk zD_170_ok 8 rfl) zc_170 (by decide +kernel) ?_
    have h := zS_some h
    exact E_lreturn (pc := 17) (zDk zD_170_ok 9 rfl) zt_170 h
def zD_179 : List (Nat × Instr × Nat) := [(0, .iload_n (1), 1), (1, .i2l, 1), (2, .lconst (0), 1), (3, .ldc2_w (89), 3), (6, .invokestatic (91), 3), (9, .ifCond .ne (6), 3), (12, .bipush (-2), 2), (14, .ireturn, 1), (15, .iconst (0), 1), (16, .istore_n (2), 1), (17, .iload_n (2), 1), (18, .sipush (138), 3), (21, .if_icmp .ge (27), 3), (24, .aload_n (0), 1), (25, .getfield (13), 3), (28, .sipush (138), 3), (31, .iload_n (1), 1), (32, .imul, 1), (33, .iload_n (2), 1), (34, .iadd, 1), (35, .aload_n (0), 1), (36, .getfield (9), 3), (39, .iload_n (2), 1), (40, .iaload, 1), (41, .iastore, 1), (42, .iinc (2) (1), 3), (45, .goto (-28), 3), (48, .aload_n (0), 1), (49, .getfield (16), 3), (52, .iload_n (1), 1), (53, .iconst (1), 1), (54, .bastore, 1), (55, .iconst (0), 1), (56, .ireturn, 1)]
set_option maxRecDepth 100000 in
theorem zD_179_ok : zDo 179 zD_179 = true := by decide +kernel
theorem zc_179 : zcls 179 = 8 := by decide +kernel
theorem zm_179 : zml 179 = 3 := by decide +kernel
theorem zt_179 : zrt 179 = (some (.int)) := by decide +kernel
theorem zk_179 : zkd 179 = 1 ∧ znp 179 + 1 = 2 := by decide +kernel
theorem zr_179 (as : List zV) : zrk 179 as = 1 := by unfold zrk; rw [if_neg (by decide)]; decide +kernel
def lm_image_c17 (x1 : Int) : Nat → Int → (Nat → Nat → Int) → Option (Int × (Nat → Nat → Int))
  | 0, _, _ => none
  | n + 1, y2, M =>
    (if y2 < (138 : Int) then
    ((rdI 107 y2 M).bind (fun v40 =>
    ((wrI 108 (w32 ((w32 ((138 : Int) * x1)) + y2)) v40 M).bind (fun M41 =>
    ((lm_image_c17 x1 n) (w32 (y2 + 1)) M41)))))
    else
    ((wrB 109 x1 (1 : Int) M).bind (fun M54 =>
    (some ((0 : Int), M54)))))
set_option maxRecDepth 100000 in
theorem ok_lm_image_c17 {sc : zSc} {q : Nat} {P : Option zV → (Nat → Nat → Int) → Prop} (hq : 1 ≤ q) (x1 : Int) : ∀ (n : Nat) (y2 : Int) (M : Nat → Nat → Int), zS (lm_image_c17 x1 n y2 M) (fun r => P (some (.inl r.1)) r.2) → zWp sc q 179 17 [some (.inr (.inr 106)), some (.inl x1), some (.inl y2)] [] M P := by
  intro n
  induction n with
  | zero => intro y2 M h; exact (zS_none h).elim
  | succ n ih =>
    intro y2 M h
    rw [lm_image_c17] at h
    refine E_iload_n (pc := 17) (zDk zD_179_ok 10 rfl) rfl ?_
    refine E_sipush (pc := 18) (zDk zD_179_ok 11 rfl) (by decide +kernel) ?_
    refine E_icmp (pc := 21) (t := 48) (zDk zD_179_ok 12 rfl) rfl (fun hz => ?_) (fun hz => ?_)
    · have h := zS_f h (Int.not_lt.mpr (T_ge hz))
      refine E_aload_n (pc := 48) (zDk zD_179_ok 27 rfl) rfl ?_
      refine E_getR (pc := 49) (ci := 8) (f := 3) (r := 109) (zDk zD_179_ok 28 rfl) zc_179 (by decide +kernel) (by decide) zis_8_106 (by decide +kernel) (by decide) ?_
      refine E_iload_n (pc := 52) (zDk zD_179_ok 29 rfl) rfl ?_
      refine E_iconst (pc := 53) (zDk zD_179_ok 30 rfl) (by decide +kernel) ?_
      obtain ⟨M54, e54, h⟩ := zS_bind h
      refine E_bastore (pc := 54) (zDk zD_179_ok 31 rfl) e54 ?_
      refine E_iconst (pc := 55) (zDk zD_179_ok 32 rfl) (by decide +kernel) ?_
      have h := zS_some h
      exact E_ireturn (pc := 56) (zDk zD_179_ok 33 rfl) zt_179 h
    · have h := zS_t h (F_ge hz)
      refine E_aload_n (pc := 24) (zDk zD_179_ok 13 rfl) rfl ?_
      refine E_getR (pc := 25) (ci := 8) (f := 2) (r := 108) (zDk zD_179_ok 14 rfl) zc_179 (by decide +kernel) (by decide) zis_8_106 (by decide +kernel) (by decide) ?_
      refine E_sipush (pc := 28) (zDk zD_179_ok 15 rfl) (by decide +kernel) ?_
      refine E_iload_n (pc := 31) (zDk zD_179_ok 16 rfl) rfl ?_
      refine W_imul (pc := 32) (zDk zD_179_ok 17 rfl) ?_
      refine E_iload_n (pc := 33) (zDk zD_179_ok 18 rfl) rfl ?_
      refine W_iadd (pc := 34) (zDk zD_179_ok 19 rfl) ?_
      refine E_aload_n (pc := 35) (zDk zD_179_ok 20 rfl) rfl ?_
      refine E_getR (pc := 36) (ci := 8) (f := 1) (r := 107) (zDk zD_179_ok 21 rfl) zc_179 (by decide +kernel) (by decide) zis_8_106 (by decide +kernel) (by decide) ?_
      refine E_iload_n (pc := 39) (zDk zD_179_ok 22 rfl) rfl ?_
      obtain ⟨v40, e40, h⟩ := zS_bind h
      refine E_iaload (pc := 40) (zDk zD_179_ok 23 rfl) e40 ?_
      obtain ⟨M41, e41, h⟩ := zS_bind h
      refine E_iastore (pc := 41) (zDk zD_179_ok 24 rfl) e41 ?_
      refine W_iinc (pc := 42) (L' := [some (.inr (.inr 106)), some (.inl x1), some (.inl (w32 (y2 + 1)))]) (zDk zD_179_ok 25 rfl) rfl zm_179 (by decide) rfl ?_
      refine E_goto (pc := 45) (t := 17) (zDk zD_179_ok 26 rfl) rfl ?_
      exact (ih) (w32 (y2 + 1)) M41 h
def lm_image (x1 : Int) (M : Nat → Nat → Int) : Option (Int × (Nat → Nat → Int)) :=
    ((lm_in x1 (0 : Int) (2 : Int) M).bind (fun v6 =>
    (if v6 = 0 then
    (some ((-2 : Int), M))
    else
    (lm_image_c17 x1 zN (0 : Int) M))))
set_option maxRecDepth 100000 in
theorem ok_lm_image {sc : zSc} {x1 : Int} {M : Nat → Nat → Int} {P : Int → (Nat → Nat → Int) → Prop} (h : zS (lm_image x1 M) (fun r => P r.1 r.2)) : zCi sc 179 [.inr (.inr 106), .inl x1] M P := by
  have ea : zarg (zml 179) [.inr (.inr 106), .inl x1] = [some (.inr (.inr 106)), some (.inl x1), none] := by rw [zm_179]; rfl
  unfold zCi zCw
  rw [ea, zr_179]
  have hq : 1 ≤ 1 := Nat.le_refl _
  unfold lm_image at h
  have h := zS_mono h (fun x hx => (⟨x.1, rfl, hx⟩ : ∃ y, (some (.inl x.1) : Option zV) = some (.inl y) ∧ P y x.2))
  skip
  refine E_iload_n (pc := 0) (zDk zD_179_ok 0 rfl) rfl ?_
  refine E_i2l (pc := 1) (zDk zD_179_ok 1 rfl) ?_
  refine E_lconst (pc := 2) (v := 0) (zDk zD_179_ok 2 rfl) (by decide +kernel) ?_
  refine E_ldc2_w (pc := 3) (v := .inr (.inl (2 : Int))) (zDk zD_179_ok 3 rfl) zc_179 (by decide +kernel) ?_
  obtain ⟨v6, e6, h⟩ := zS_bind h
  refine E_staI (pc := 6) (c := 176) (as := [.inr (.inl x1), .inr (.inl (0 : Int)), .inr (.inl (2 : Int))]) (rest := []) (zDk zD_179_ok 4 rfl) zc_179 (by decide +kernel) (by decide +kernel) zk_176 ⟨(Nat.le_of_ble_eq_true rfl), rfl, rfl⟩ (Nat.le_of_ble_eq_true rfl) (zr_176 _) (Nat.lt_of_lt_of_le (by decide) hq) (by rw [zm_176]; exact (Nat.le_of_ble_eq_true rfl)) (ok_lm_in ⟨v6, e6, ?_⟩)
  refine E_if (pc := 9) (t := 15) (zDk zD_179_ok 5 rfl) rfl (fun hz => ?_) (fun hz => ?_)
  · have h := zS_f h (T_ne hz)
    refine E_iconst (pc := 15) (zDk zD_179_ok 8 rfl) (by decide +kernel) ?_
    refine W_istore_n (pc := 16) (L' := [some (.inr (.inr 106)), some (.inl x1), some (.inl (0 : Int))]) (zDk zD_179_ok 9 rfl) zm_179 (by decide) rfl ?_
    exact ok_lm_image_c17 hq x1 zN (0 : Int) M h
  · have h := zS_t h (F_ne hz)
    refine E_bipush (pc := 12) (zDk zD_179_ok 6 rfl) (by decide +kernel) ?_
    have h := zS_some h
    exact E_ireturn (pc := 14) (zDk zD_179_ok 7 rfl) zt_179 h
def zD_180 : List (Nat × Instr × Nat) := [(0, .iload_n (1), 1), (1, .i2l, 1), (2, .lconst (0), 1), (3, .ldc2_w (89), 3), (6, .invokestatic (91), 3), (9, .ifCond .ne (6), 3), (12, .bipush (-2), 2), (14, .ireturn, 1), (15, .aload_n (0), 1), (16, .getfield (16), 3), (19, .iload_n (1), 1), (20, .baload, 1), (21, .ifCond .ne (6), 3), (24, .bipush (-6), 2), (26, .ireturn, 1), (27, .iconst (0), 1), (28, .istore_n (2), 1), (29, .iload_n (2), 1), (30, .sipush (138), 3), (33, .if_icmp .ge (27), 3), (36, .aload_n (0), 1), (37, .getfield (9), 3), (40, .iload_n (2), 1), (41, .aload_n (0), 1), (42, .getfield (13), 3), (45, .sipush (138), 3), (48, .iload_n (1), 1), (49, .imul, 1), (50, .iload_n (2), 1), (51, .iadd, 1), (52, .iaload, 1), (53, .iastore, 1), (54, .iinc (2) (1), 3), (57, .goto (-28), 3), (60, .iconst (0), 1), (61, .ireturn, 1)]
set_option maxRecDepth 100000 in
theorem zD_180_ok : zDo 180 zD_180 = true := by decide +kernel
theorem zc_180 : zcls 180 = 8 := by decide +kernel
theorem zm_180 : zml 180 = 3 := by decide +kernel
theorem zt_180 : zrt 180 = (some (.int)) := by decide +kernel
theorem zk_180 : zkd 180 = 1 ∧ znp 180 + 1 = 2 := by decide +kernel
theorem zr_180 (as : List zV) : zrk 180 as = 1 := by unfold zrk; rw [if_neg (by decide)]; decide +kernel
def lm_back_c29 (x1 : Int) : Nat → Int → (Nat → Nat → Int) → Option (Int × (Nat → Nat → Int))
  | 0, _, _ => none
  | n + 1, y2, M =>
    (if y2 < (138 : Int) then
    ((rdI 108 (w32 ((w32 ((138 : Int) * x1)) + y2)) M).bind (fun v52 =>
    ((wrI 107 y2 v52 M).bind (fun M53 =>
    ((lm_back_c29 x1 n) (w32 (y2 + 1)) M53)))))
    else
    (some ((0 : Int), M)))
set_option maxRecDepth 100000 in
theorem ok_lm_back_c29 {sc : zSc} {q : Nat} {P : Option zV → (Nat → Nat → Int) → Prop} (hq : 1 ≤ q) (x1 : Int) : ∀ (n : Nat) (y2 : Int) (M : Nat → Nat → Int), zS (lm_back_c29 x1 n y2 M) (fun r => P (some (.inl r.1)) r.2) → zWp sc q 180 29 [some (.inr (.inr 106)), some (.inl x1), some (.inl y2)] [] M P := by
  intro n
  induction n with
  | zero => intro y2 M h; exact (zS_none h).elim
  | succ n ih =>
    intro y2 M h
    rw [lm_back_c29] at h
    refine E_iload_n (pc := 29) (zDk zD_180_ok 17 rfl) rfl ?_
    refine E_sipush (pc := 30) (zDk zD_180_ok 18 rfl) (by decide +kernel) ?_
    refine E_icmp (pc := 33) (t := 60) (zDk zD_180_ok 19 rfl) rfl (fun hz => ?_) (fun hz => ?_)
    · have h := zS_f h (Int.not_lt.mpr (T_ge hz))
      refine E_iconst (pc := 60) (zDk zD_180_ok 34 rfl) (by decide +kernel) ?_
      have h := zS_some h
      exact E_ireturn (pc := 61) (zDk zD_180_ok 35 rfl) zt_180 h
    · have h := zS_t h (F_ge hz)
      refine E_aload_n (pc := 36) (zDk zD_180_ok 20 rfl) rfl ?_
      refine E_getR (pc := 37) (ci := 8) (f := 1) (r := 107) (zDk zD_180_ok 21 rfl) zc_180 (by decide +kernel) (by decide) zis_8_106 (by decide +kernel) (by decide) ?_
      refine E_iload_n (pc := 40) (zDk zD_180_ok 22 rfl) rfl ?_
      refine E_aload_n (pc := 41) (zDk zD_180_ok 23 rfl) rfl ?_
      refine E_getR (pc := 42) (ci := 8) (f := 2) (r := 108) (zDk zD_180_ok 24 rfl) zc_180 (by decide +kernel) (by decide) zis_8_106 (by decide +kernel) (by decide) ?_
      refine E_sipush (pc := 45) (zDk zD_180_ok 25 rfl) (by decide +kernel) ?_
      refine E_iload_n (pc := 48) (zDk zD_180_ok 26 rfl) rfl ?_
      refine W_imul (pc := 49) (zDk zD_180_ok 27 rfl) ?_
      refine E_iload_n (pc := 50) (zDk zD_180_ok 28 rfl) rfl ?_
      refine W_iadd (pc := 51) (zDk zD_180_ok 29 rfl) ?_
      obtain ⟨v52, e52, h⟩ := zS_bind h
      refine E_iaload (pc := 52) (zDk zD_180_ok 30 rfl) e52 ?_
      obtain ⟨M53, e53, h⟩ := zS_bind h
      refine E_iastore (pc := 53) (zDk zD_180_ok 31 rfl) e53 ?_
      refine W_iinc (pc := 54) (L' := [some (.inr (.inr 106)), some (.inl x1), some (.inl (w32 (y2 + 1)))]) (zDk zD_180_ok 32 rfl) rfl zm_180 (by decide) rfl ?_
      refine E_goto (pc := 57) (t := 29) (zDk zD_180_ok 33 rfl) rfl ?_
      exact (ih) (w32 (y2 + 1)) M53 h
def lm_back (x1 : Int) (M : Nat → Nat → Int) : Option (Int × (Nat → Nat → Int)) :=
    ((lm_in x1 (0 : Int) (2 : Int) M).bind (fun v6 =>
    (if v6 = 0 then
    (some ((-2 : Int), M))
    else
    ((rdB 109 x1 M).bind (fun v20 =>
    (if v20 = 0 then
    (some ((-6 : Int), M))
    else
    (lm_back_c29 x1 zN (0 : Int) M)))))))
set_option maxRecDepth 100000 in
theorem ok_lm_back {sc : zSc} {x1 : Int} {M : Nat → Nat → Int} {P : Int → (Nat → Nat → Int) → Prop} (h : zS (lm_back x1 M) (fun r => P r.1 r.2)) : zCi sc 180 [.inr (.inr 106), .inl x1] M P := by
  have ea : zarg (zml 180) [.inr (.inr 106), .inl x1] = [some (.inr (.inr 106)), some (.inl x1), none] := by rw [zm_180]; rfl
  unfold zCi zCw
  rw [ea, zr_180]
  have hq : 1 ≤ 1 := Nat.le_refl _
  unfold lm_back at h
  have h := zS_mono h (fun x hx => (⟨x.1, rfl, hx⟩ : ∃ y, (some (.inl x.1) : Option zV) = some (.inl y) ∧ P y x.2))
  skip
  refine E_iload_n (pc := 0) (zDk zD_180_ok 0 rfl) rfl ?_
  refine E_i2l (pc := 1) (zDk zD_180_ok 1 rfl) ?_
  refine E_lconst (pc := 2) (v := 0) (zDk zD_180_ok 2 rfl) (by decide +kernel) ?_
  refine E_ldc2_w (pc := 3) (v := .inr (.inl (2 : Int))) (zDk zD_180_ok 3 rfl) zc_180 (by decide +kernel) ?_
  obtain ⟨v6, e6, h⟩ := zS_bind h
  refine E_staI (pc := 6) (c := 176) (as := [.inr (.inl x1), .inr (.inl (0 : Int)), .inr (.inl (2 : Int))]) (rest := []) (zDk zD_180_ok 4 rfl) zc_180 (by decide +kernel) (by decide +kernel) zk_176 ⟨(Nat.le_of_ble_eq_true rfl), rfl, rfl⟩ (Nat.le_of_ble_eq_true rfl) (zr_176 _) (Nat.lt_of_lt_of_le (by decide) hq) (by rw [zm_176]; exact (Nat.le_of_ble_eq_true rfl)) (ok_lm_in ⟨v6, e6, ?_⟩)
  refine E_if (pc := 9) (t := 15) (zDk zD_180_ok 5 rfl) rfl (fun hz => ?_) (fun hz => ?_)
  · have h := zS_f h (T_ne hz)
    refine E_aload_n (pc := 15) (zDk zD_180_ok 8 rfl) rfl ?_
    refine E_getR (pc := 16) (ci := 8) (f := 3) (r := 109) (zDk zD_180_ok 9 rfl) zc_180 (by decide +kernel) (by decide) zis_8_106 (by decide +kernel) (by decide) ?_
    refine E_iload_n (pc := 19) (zDk zD_180_ok 10 rfl) rfl ?_
    obtain ⟨v20, e20, h⟩ := zS_bind h
    refine E_baload (pc := 20) (zDk zD_180_ok 11 rfl) e20 ?_
    refine E_if (pc := 21) (t := 27) (zDk zD_180_ok 12 rfl) rfl (fun hz => ?_) (fun hz => ?_)
    · have h := zS_f h (T_ne hz)
      refine E_iconst (pc := 27) (zDk zD_180_ok 15 rfl) (by decide +kernel) ?_
      refine W_istore_n (pc := 28) (L' := [some (.inr (.inr 106)), some (.inl x1), some (.inl (0 : Int))]) (zDk zD_180_ok 16 rfl) zm_180 (by decide) rfl ?_
      exact ok_lm_back_c29 hq x1 zN (0 : Int) M h
    · have h := zS_t h (F_ne hz)
      refine E_bipush (pc := 24) (zDk zD_180_ok 13 rfl) (by decide +kernel) ?_
      have h := zS_some h
      exact E_ireturn (pc := 26) (zDk zD_180_ok 14 rfl) zt_180 h
  · have h := zS_t h (F_ne hz)
    refine E_bipush (pc := 12) (zDk zD_180_ok 6 rfl) (by decide +kernel) ?_
    have h := zS_some h
    exact E_ireturn (pc := 14) (zDk zD_180_ok 7 rfl) zt_180 h
def zD_183 : List (Nat × Instr × Nat) := [(0, .aload_n (0), 1), (1, .invokevirtual (95), 3), (4, .ifCond .eq (20), 3), (7, .lload_n (1), 1), (8, .lconst (0), 1), (9, .aload_n (0), 1), (10, .invokevirtual (99), 3), (13, .i2l, 1), (14, .invokestatic (91), 3), (17, .ifCond .eq (7), 3), (20, .iconst (1), 1), (21, .goto (4), 3), (24, .iconst (0), 1), (25, .ireturn, 1)]
set_option maxRecDepth 100000 in
theorem zD_183_ok : zDo 183 zD_183 = true := by decide +kernel
theorem zc_183 : zcls 183 = 8 := by decide +kernel
theorem zm_183 : zml 183 = 3 := by decide +kernel
theorem zt_183 : zrt 183 = (some (.boolean)) := by decide +kernel
theorem zk_183 : zkd 183 = 1 ∧ znp 183 + 1 = 2 := by decide +kernel
theorem zr_183 (as : List zV) : zrk 183 as = 1 := by unfold zrk; rw [if_neg (by decide)]; decide +kernel
def lm_isStep (x1 : Int) (M : Nat → Nat → Int) : Option Int :=
    ((lm_isState M).bind (fun v1 =>
    (if v1 = 0 then
    (some (0 : Int))
    else
    ((lm_last M).bind (fun v10 =>
    ((lm_in x1 (0 : Int) v10 M).bind (fun v14 =>
    (if v14 = 0 then
    (some (0 : Int))
    else
    (some (1 : Int))))))))))
set_option maxRecDepth 100000 in
theorem ok_lm_isStep {sc : zSc} {x1 : Int} {M : Nat → Nat → Int} {P : Int → (Nat → Nat → Int) → Prop} (h : zS (lm_isStep x1 M) (fun x => P x M)) : zCi sc 183 [.inr (.inr 106), .inr (.inl x1)] M P := by
  have ea : zarg (zml 183) [.inr (.inr 106), .inr (.inl x1)] = [some (.inr (.inr 106)), some (.inr (.inl x1)), none] := by rw [zm_183]; rfl
  unfold zCi zCw
  rw [ea, zr_183]
  have hq : 1 ≤ 1 := Nat.le_refl _
  unfold lm_isStep at h
  have h := zS_mono h (fun x hx => (⟨x, rfl, hx⟩ : ∃ y, (some (.inl x) : Option zV) = some (.inl y) ∧ P y M))
  skip
  refine E_aload_n (pc := 0) (zDk zD_183_ok 0 rfl) rfl ?_
  obtain ⟨v1, e1, h⟩ := zS_bind h
  refine E_virI (pc := 1) (c := 181) (r := 106) (as := []) (rest := []) (zDk zD_183_ok 1 rfl) zc_183 (by decide +kernel) zk_181 ⟨(Nat.le_of_ble_eq_true rfl), rfl, rfl⟩ (Nat.le_of_ble_eq_true rfl) (zr_181 _) (Nat.lt_of_lt_of_le (by decide) hq) (by rw [zm_181]; exact (Nat.le_of_ble_eq_true rfl)) ⟨zc_181, by decide⟩ zis_8_106 (ok_lm_isState ⟨v1, e1, ?_⟩)
  refine E_if (pc := 4) (t := 24) (zDk zD_183_ok 2 rfl) rfl (fun hz => ?_) (fun hz => ?_)
  · have h := zS_t h (T_eq hz)
    refine E_iconst (pc := 24) (zDk zD_183_ok 12 rfl) (by decide +kernel) ?_
    have h := zS_some h
    exact E_ireturnZ (pc := 25) (zDk zD_183_ok 13 rfl) zt_183 (by decide) h
  · have h := zS_f h (F_eq hz)
    refine E_lload_n (pc := 7) (zDk zD_183_ok 3 rfl) rfl ?_
    refine E_lconst (pc := 8) (v := 0) (zDk zD_183_ok 4 rfl) (by decide +kernel) ?_
    refine E_aload_n (pc := 9) (zDk zD_183_ok 5 rfl) rfl ?_
    obtain ⟨v10, e10, h⟩ := zS_bind h
    refine E_virI (pc := 10) (c := 182) (r := 106) (as := []) (rest := [.inr (.inl (0 : Int)), .inr (.inl x1)]) (zDk zD_183_ok 6 rfl) zc_183 (by decide +kernel) zk_182 ⟨(Nat.le_of_ble_eq_true rfl), rfl, rfl⟩ (Nat.le_of_ble_eq_true rfl) (zr_182 _) (Nat.lt_of_lt_of_le (by decide) hq) (by rw [zm_182]; exact (Nat.le_of_ble_eq_true rfl)) ⟨zc_182, by decide⟩ zis_8_106 (ok_lm_last ⟨v10, e10, ?_⟩)
    refine E_i2l (pc := 13) (zDk zD_183_ok 7 rfl) ?_
    obtain ⟨v14, e14, h⟩ := zS_bind h
    refine E_staI (pc := 14) (c := 176) (as := [.inr (.inl x1), .inr (.inl (0 : Int)), .inr (.inl v10)]) (rest := []) (zDk zD_183_ok 8 rfl) zc_183 (by decide +kernel) (by decide +kernel) zk_176 ⟨(Nat.le_of_ble_eq_true rfl), rfl, rfl⟩ (Nat.le_of_ble_eq_true rfl) (zr_176 _) (Nat.lt_of_lt_of_le (by decide) hq) (by rw [zm_176]; exact (Nat.le_of_ble_eq_true rfl)) (ok_lm_in ⟨v14, e14, ?_⟩)
    refine E_if (pc := 17) (t := 24) (zDk zD_183_ok 9 rfl) rfl (fun hz => ?_) (fun hz => ?_)
    · have h := zS_t h (T_eq hz)
      refine E_iconst (pc := 24) (zDk zD_183_ok 12 rfl) (by decide +kernel) ?_
      have h := zS_some h
      exact E_ireturnZ (pc := 25) (zDk zD_183_ok 13 rfl) zt_183 (by decide) h
    · have h := zS_f h (F_eq hz)
      refine E_iconst (pc := 20) (zDk zD_183_ok 10 rfl) (by decide +kernel) ?_
      refine E_goto (pc := 21) (t := 25) (zDk zD_183_ok 11 rfl) rfl ?_
      have h := zS_some h
      exact E_ireturnZ (pc := 25) (zDk zD_183_ok 13 rfl) zt_183 (by decide) h
def zD_184 : List (Nat × Instr × Nat) := [(0, .aload_n (0), 1), (1, .invokevirtual (95), 3), (4, .ifCond .eq (23), 3), (7, .iload_n (1), 1), (8, .i2l, 1), (9, .lconst (0), 1), (10, .aload_n (0), 1), (11, .invokevirtual (99), 3), (14, .iconst (1), 1), (15, .isub, 1), (16, .i2l, 1), (17, .invokestatic (91), 3), (20, .ifCond .eq (7), 3), (23, .iconst (1), 1), (24, .goto (4), 3), (27, .iconst (0), 1), (28, .ireturn, 1)]
set_option maxRecDepth 100000 in
theorem zD_184_ok : zDo 184 zD_184 = true := by decide +kernel
theorem zc_184 : zcls 184 = 8 := by decide +kernel
theorem zm_184 : zml 184 = 2 := by decide +kernel
theorem zt_184 : zrt 184 = (some (.boolean)) := by decide +kernel
theorem zk_184 : zkd 184 = 1 ∧ znp 184 + 1 = 2 := by decide +kernel
theorem zr_184 (as : List zV) : zrk 184 as = 1 := by unfold zrk; rw [if_neg (by decide)]; decide +kernel
def lm_isAhead (x1 : Int) (M : Nat → Nat → Int) : Option Int :=
    ((lm_isState M).bind (fun v1 =>
    (if v1 = 0 then
    (some (0 : Int))
    else
    ((lm_last M).bind (fun v11 =>
    ((lm_in x1 (0 : Int) (w32 (v11 - (1 : Int))) M).bind (fun v17 =>
    (if v17 = 0 then
    (some (0 : Int))
    else
    (some (1 : Int))))))))))
set_option maxRecDepth 100000 in
theorem ok_lm_isAhead {sc : zSc} {x1 : Int} {M : Nat → Nat → Int} {P : Int → (Nat → Nat → Int) → Prop} (h : zS (lm_isAhead x1 M) (fun x => P x M)) : zCi sc 184 [.inr (.inr 106), .inl x1] M P := by
  have ea : zarg (zml 184) [.inr (.inr 106), .inl x1] = [some (.inr (.inr 106)), some (.inl x1)] := by rw [zm_184]; rfl
  unfold zCi zCw
  rw [ea, zr_184]
  have hq : 1 ≤ 1 := Nat.le_refl _
  unfold lm_isAhead at h
  have h := zS_mono h (fun x hx => (⟨x, rfl, hx⟩ : ∃ y, (some (.inl x) : Option zV) = some (.inl y) ∧ P y M))
  skip
  refine E_aload_n (pc := 0) (zDk zD_184_ok 0 rfl) rfl ?_
  obtain ⟨v1, e1, h⟩ := zS_bind h
  refine E_virI (pc := 1) (c := 181) (r := 106) (as := []) (rest := []) (zDk zD_184_ok 1 rfl) zc_184 (by decide +kernel) zk_181 ⟨(Nat.le_of_ble_eq_true rfl), rfl, rfl⟩ (Nat.le_of_ble_eq_true rfl) (zr_181 _) (Nat.lt_of_lt_of_le (by decide) hq) (by rw [zm_181]; exact (Nat.le_of_ble_eq_true rfl)) ⟨zc_181, by decide⟩ zis_8_106 (ok_lm_isState ⟨v1, e1, ?_⟩)
  refine E_if (pc := 4) (t := 27) (zDk zD_184_ok 2 rfl) rfl (fun hz => ?_) (fun hz => ?_)
  · have h := zS_t h (T_eq hz)
    refine E_iconst (pc := 27) (zDk zD_184_ok 15 rfl) (by decide +kernel) ?_
    have h := zS_some h
    exact E_ireturnZ (pc := 28) (zDk zD_184_ok 16 rfl) zt_184 (by decide) h
  · have h := zS_f h (F_eq hz)
    refine E_iload_n (pc := 7) (zDk zD_184_ok 3 rfl) rfl ?_
    refine E_i2l (pc := 8) (zDk zD_184_ok 4 rfl) ?_
    refine E_lconst (pc := 9) (v := 0) (zDk zD_184_ok 5 rfl) (by decide +kernel) ?_
    refine E_aload_n (pc := 10) (zDk zD_184_ok 6 rfl) rfl ?_
    obtain ⟨v11, e11, h⟩ := zS_bind h
    refine E_virI (pc := 11) (c := 182) (r := 106) (as := []) (rest := [.inr (.inl (0 : Int)), .inr (.inl x1)]) (zDk zD_184_ok 7 rfl) zc_184 (by decide +kernel) zk_182 ⟨(Nat.le_of_ble_eq_true rfl), rfl, rfl⟩ (Nat.le_of_ble_eq_true rfl) (zr_182 _) (Nat.lt_of_lt_of_le (by decide) hq) (by rw [zm_182]; exact (Nat.le_of_ble_eq_true rfl)) ⟨zc_182, by decide⟩ zis_8_106 (ok_lm_last ⟨v11, e11, ?_⟩)
    refine E_iconst (pc := 14) (zDk zD_184_ok 8 rfl) (by decide +kernel) ?_
    refine W_isub (pc := 15) (zDk zD_184_ok 9 rfl) ?_
    refine E_i2l (pc := 16) (zDk zD_184_ok 10 rfl) ?_
    obtain ⟨v17, e17, h⟩ := zS_bind h
    refine E_staI (pc := 17) (c := 176) (as := [.inr (.inl x1), .inr (.inl (0 : Int)), .inr (.inl (w32 (v11 - (1 : Int))))]) (rest := []) (zDk zD_184_ok 11 rfl) zc_184 (by decide +kernel) (by decide +kernel) zk_176 ⟨(Nat.le_of_ble_eq_true rfl), rfl, rfl⟩ (Nat.le_of_ble_eq_true rfl) (zr_176 _) (Nat.lt_of_lt_of_le (by decide) hq) (by rw [zm_176]; exact (Nat.le_of_ble_eq_true rfl)) (ok_lm_in ⟨v17, e17, ?_⟩)
    refine E_if (pc := 20) (t := 27) (zDk zD_184_ok 12 rfl) rfl (fun hz => ?_) (fun hz => ?_)
    · have h := zS_t h (T_eq hz)
      refine E_iconst (pc := 27) (zDk zD_184_ok 15 rfl) (by decide +kernel) ?_
      have h := zS_some h
      exact E_ireturnZ (pc := 28) (zDk zD_184_ok 16 rfl) zt_184 (by decide) h
    · have h := zS_f h (F_eq hz)
      refine E_iconst (pc := 23) (zDk zD_184_ok 13 rfl) (by decide +kernel) ?_
      refine E_goto (pc := 24) (t := 28) (zDk zD_184_ok 14 rfl) rfl ?_
      have h := zS_some h
      exact E_ireturnZ (pc := 28) (zDk zD_184_ok 16 rfl) zt_184 (by decide) h
def zD_185 : List (Nat × Instr × Nat) := [(0, .lload_n (1), 1), (1, .lconst (0), 1), (2, .aload_n (0), 1), (3, .getfield (9), 3), (6, .iconst (0), 1), (7, .iaload, 1), (8, .iconst (1), 1), (9, .isub, 1), (10, .i2l, 1), (11, .invokestatic (91), 3), (14, .ireturn, 1)]
set_option maxRecDepth 100000 in
theorem zD_185_ok : zDo 185 zD_185 = true := by decide +kernel
theorem zc_185 : zcls 185 = 8 := by decide +kernel
theorem zm_185 : zml 185 = 3 := by decide +kernel
theorem zt_185 : zrt 185 = (some (.boolean)) := by decide +kernel
theorem zk_185 : zkd 185 = 1 ∧ znp 185 + 1 = 2 := by decide +kernel
theorem zr_185 (as : List zV) : zrk 185 as = 1 := by unfold zrk; rw [if_neg (by decide)]; decide +kernel
def lm_isCorner (x1 : Int) (M : Nat → Nat → Int) : Option Int :=
    ((rdI 107 (0 : Int) M).bind (fun v7 =>
    ((lm_in x1 (0 : Int) (w32 (v7 - (1 : Int))) M).bind (fun v11 =>
    (if v11 = 0 ∨ v11 = 1 then some v11 else none)))))
set_option maxRecDepth 100000 in
theorem ok_lm_isCorner {sc : zSc} {x1 : Int} {M : Nat → Nat → Int} {P : Int → (Nat → Nat → Int) → Prop} (h : zS (lm_isCorner x1 M) (fun x => P x M)) : zCi sc 185 [.inr (.inr 106), .inr (.inl x1)] M P := by
  have ea : zarg (zml 185) [.inr (.inr 106), .inr (.inl x1)] = [some (.inr (.inr 106)), some (.inr (.inl x1)), none] := by rw [zm_185]; rfl
  unfold zCi zCw
  rw [ea, zr_185]
  have hq : 1 ≤ 1 := Nat.le_refl _
  unfold lm_isCorner at h
  have h := zS_mono h (fun x hx => (⟨x, rfl, hx⟩ : ∃ y, (some (.inl x) : Option zV) = some (.inl y) ∧ P y M))
  skip
  refine E_lload_n (pc := 0) (zDk zD_185_ok 0 rfl) rfl ?_
  refine E_lconst (pc := 1) (v := 0) (zDk zD_185_ok 1 rfl) (by decide +kernel) ?_
  refine E_aload_n (pc := 2) (zDk zD_185_ok 2 rfl) rfl ?_
  refine E_getR (pc := 3) (ci := 8) (f := 1) (r := 107) (zDk zD_185_ok 3 rfl) zc_185 (by decide +kernel) (by decide) zis_8_106 (by decide +kernel) (by decide) ?_
  refine E_iconst (pc := 6) (zDk zD_185_ok 4 rfl) (by decide +kernel) ?_
  obtain ⟨v7, e7, h⟩ := zS_bind h
  refine E_iaload (pc := 7) (zDk zD_185_ok 5 rfl) e7 ?_
  refine E_iconst (pc := 8) (zDk zD_185_ok 6 rfl) (by decide +kernel) ?_
  refine W_isub (pc := 9) (zDk zD_185_ok 7 rfl) ?_
  refine E_i2l (pc := 10) (zDk zD_185_ok 8 rfl) ?_
  obtain ⟨v11, e11, h⟩ := zS_bind h
  refine E_staI (pc := 11) (c := 176) (as := [.inr (.inl x1), .inr (.inl (0 : Int)), .inr (.inl (w32 (v7 - (1 : Int))))]) (rest := []) (zDk zD_185_ok 9 rfl) zc_185 (by decide +kernel) (by decide +kernel) zk_176 ⟨(Nat.le_of_ble_eq_true rfl), rfl, rfl⟩ (Nat.le_of_ble_eq_true rfl) (zr_176 _) (Nat.lt_of_lt_of_le (by decide) hq) (by rw [zm_176]; exact (Nat.le_of_ble_eq_true rfl)) (ok_lm_in ⟨v11, e11, ?_⟩)
  obtain ⟨hx, h⟩ := zS_c h
  have h := zS_some h
  exact E_ireturnZ (pc := 14) (zDk zD_185_ok 10 rfl) zt_185 hx h
def zD_186 : List (Nat × Instr × Nat) := [(0, .iload_n (1), 1), (1, .i2l, 1), (2, .lconst (0), 1), (3, .aload_n (0), 1), (4, .getfield (9), 3), (7, .bipush (6), 2), (9, .iaload, 1), (10, .iconst (1), 1), (11, .isub, 1), (12, .i2l, 1), (13, .invokestatic (91), 3), (16, .ireturn, 1)]
set_option maxRecDepth 100000 in
theorem zD_186_ok : zDo 186 zD_186 = true := by decide +kernel
theorem zc_186 : zcls 186 = 8 := by decide +kernel
theorem zm_186 : zml 186 = 2 := by decide +kernel
theorem zt_186 : zrt 186 = (some (.boolean)) := by decide +kernel
theorem zk_186 : zkd 186 = 1 ∧ znp 186 + 1 = 2 := by decide +kernel
theorem zr_186 (as : List zV) : zrk 186 as = 1 := by unfold zrk; rw [if_neg (by decide)]; decide +kernel
def lm_isName (x1 : Int) (M : Nat → Nat → Int) : Option Int :=
    ((rdI 107 (6 : Int) M).bind (fun v9 =>
    ((lm_in x1 (0 : Int) (w32 (v9 - (1 : Int))) M).bind (fun v13 =>
    (if v13 = 0 ∨ v13 = 1 then some v13 else none)))))
set_option maxRecDepth 100000 in
theorem ok_lm_isName {sc : zSc} {x1 : Int} {M : Nat → Nat → Int} {P : Int → (Nat → Nat → Int) → Prop} (h : zS (lm_isName x1 M) (fun x => P x M)) : zCi sc 186 [.inr (.inr 106), .inl x1] M P := by
  have ea : zarg (zml 186) [.inr (.inr 106), .inl x1] = [some (.inr (.inr 106)), some (.inl x1)] := by rw [zm_186]; rfl
  unfold zCi zCw
  rw [ea, zr_186]
  have hq : 1 ≤ 1 := Nat.le_refl _
  unfold lm_isName at h
  have h := zS_mono h (fun x hx => (⟨x, rfl, hx⟩ : ∃ y, (some (.inl x) : Option zV) = some (.inl y) ∧ P y M))
  skip
  refine E_iload_n (pc := 0) (zDk zD_186_ok 0 rfl) rfl ?_
  refine E_i2l (pc := 1) (zDk zD_186_ok 1 rfl) ?_
  refine E_lconst (pc := 2) (v := 0) (zDk zD_186_ok 2 rfl) (by decide +kernel) ?_
  refine E_aload_n (pc := 3) (zDk zD_186_ok 3 rfl) rfl ?_
  refine E_getR (pc := 4) (ci := 8) (f := 1) (r := 107) (zDk zD_186_ok 4 rfl) zc_186 (by decide +kernel) (by decide) zis_8_106 (by decide +kernel) (by decide) ?_
  refine E_bipush (pc := 7) (zDk zD_186_ok 5 rfl) (by decide +kernel) ?_
  obtain ⟨v9, e9, h⟩ := zS_bind h
  refine E_iaload (pc := 9) (zDk zD_186_ok 6 rfl) e9 ?_
  refine E_iconst (pc := 10) (zDk zD_186_ok 7 rfl) (by decide +kernel) ?_
  refine W_isub (pc := 11) (zDk zD_186_ok 8 rfl) ?_
  refine E_i2l (pc := 12) (zDk zD_186_ok 9 rfl) ?_
  obtain ⟨v13, e13, h⟩ := zS_bind h
  refine E_staI (pc := 13) (c := 176) (as := [.inr (.inl x1), .inr (.inl (0 : Int)), .inr (.inl (w32 (v9 - (1 : Int))))]) (rest := []) (zDk zD_186_ok 10 rfl) zc_186 (by decide +kernel) (by decide +kernel) zk_176 ⟨(Nat.le_of_ble_eq_true rfl), rfl, rfl⟩ (Nat.le_of_ble_eq_true rfl) (zr_176 _) (Nat.lt_of_lt_of_le (by decide) hq) (by rw [zm_176]; exact (Nat.le_of_ble_eq_true rfl)) (ok_lm_in ⟨v13, e13, ?_⟩)
  obtain ⟨hx, h⟩ := zS_c h
  have h := zS_some h
  exact E_ireturnZ (pc := 16) (zDk zD_186_ok 11 rfl) zt_186 hx h
def zD_187 : List (Nat × Instr × Nat) := [(0, .iload_n (1), 1), (1, .i2l, 1), (2, .lconst (0), 1), (3, .aload_n (0), 1), (4, .getfield (9), 3), (7, .bipush (7), 2), (9, .iaload, 1), (10, .iconst (1), 1), (11, .isub, 1), (12, .i2l, 1), (13, .invokestatic (91), 3), (16, .ireturn, 1)]
set_option maxRecDepth 100000 in
theorem zD_187_ok : zDo 187 zD_187 = true := by decide +kernel
theorem zc_187 : zcls 187 = 8 := by decide +kernel
theorem zm_187 : zml 187 = 2 := by decide +kernel
theorem zt_187 : zrt 187 = (some (.boolean)) := by decide +kernel
theorem zk_187 : zkd 187 = 1 ∧ znp 187 + 1 = 2 := by decide +kernel
theorem zr_187 (as : List zV) : zrk 187 as = 1 := by unfold zrk; rw [if_neg (by decide)]; decide +kernel
def lm_isContract (x1 : Int) (M : Nat → Nat → Int) : Option Int :=
    ((rdI 107 (7 : Int) M).bind (fun v9 =>
    ((lm_in x1 (0 : Int) (w32 (v9 - (1 : Int))) M).bind (fun v13 =>
    (if v13 = 0 ∨ v13 = 1 then some v13 else none)))))
set_option maxRecDepth 100000 in
theorem ok_lm_isContract {sc : zSc} {x1 : Int} {M : Nat → Nat → Int} {P : Int → (Nat → Nat → Int) → Prop} (h : zS (lm_isContract x1 M) (fun x => P x M)) : zCi sc 187 [.inr (.inr 106), .inl x1] M P := by
  have ea : zarg (zml 187) [.inr (.inr 106), .inl x1] = [some (.inr (.inr 106)), some (.inl x1)] := by rw [zm_187]; rfl
  unfold zCi zCw
  rw [ea, zr_187]
  have hq : 1 ≤ 1 := Nat.le_refl _
  unfold lm_isContract at h
  have h := zS_mono h (fun x hx => (⟨x, rfl, hx⟩ : ∃ y, (some (.inl x) : Option zV) = some (.inl y) ∧ P y M))
  skip
  refine E_iload_n (pc := 0) (zDk zD_187_ok 0 rfl) rfl ?_
  refine E_i2l (pc := 1) (zDk zD_187_ok 1 rfl) ?_
  refine E_lconst (pc := 2) (v := 0) (zDk zD_187_ok 2 rfl) (by decide +kernel) ?_
  refine E_aload_n (pc := 3) (zDk zD_187_ok 3 rfl) rfl ?_
  refine E_getR (pc := 4) (ci := 8) (f := 1) (r := 107) (zDk zD_187_ok 4 rfl) zc_187 (by decide +kernel) (by decide) zis_8_106 (by decide +kernel) (by decide) ?_
  refine E_bipush (pc := 7) (zDk zD_187_ok 5 rfl) (by decide +kernel) ?_
  obtain ⟨v9, e9, h⟩ := zS_bind h
  refine E_iaload (pc := 9) (zDk zD_187_ok 6 rfl) e9 ?_
  refine E_iconst (pc := 10) (zDk zD_187_ok 7 rfl) (by decide +kernel) ?_
  refine W_isub (pc := 11) (zDk zD_187_ok 8 rfl) ?_
  refine E_i2l (pc := 12) (zDk zD_187_ok 9 rfl) ?_
  obtain ⟨v13, e13, h⟩ := zS_bind h
  refine E_staI (pc := 13) (c := 176) (as := [.inr (.inl x1), .inr (.inl (0 : Int)), .inr (.inl (w32 (v9 - (1 : Int))))]) (rest := []) (zDk zD_187_ok 10 rfl) zc_187 (by decide +kernel) (by decide +kernel) zk_176 ⟨(Nat.le_of_ble_eq_true rfl), rfl, rfl⟩ (Nat.le_of_ble_eq_true rfl) (zr_176 _) (Nat.lt_of_lt_of_le (by decide) hq) (by rw [zm_176]; exact (Nat.le_of_ble_eq_true rfl)) (ok_lm_in ⟨v13, e13, ?_⟩)
  obtain ⟨hx, h⟩ := zS_c h
  have h := zS_some h
  exact E_ireturnZ (pc := 16) (zDk zD_187_ok 11 rfl) zt_187 hx h
def zD_188 : List (Nat × Instr × Nat) := [(0, .iload_n (1), 1), (1, .i2l, 1), (2, .lconst (0), 1), (3, .aload_n (0), 1), (4, .getfield (9), 3), (7, .iconst (4), 1), (8, .iaload, 1), (9, .iconst (1), 1), (10, .isub, 1), (11, .i2l, 1), (12, .invokestatic (91), 3), (15, .ireturn, 1)]
set_option maxRecDepth 100000 in
theorem zD_188_ok : zDo 188 zD_188 = true := by decide +kernel
theorem zc_188 : zcls 188 = 8 := by decide +kernel
theorem zm_188 : zml 188 = 2 := by decide +kernel
theorem zt_188 : zrt 188 = (some (.boolean)) := by decide +kernel
theorem zk_188 : zkd 188 = 1 ∧ znp 188 + 1 = 2 := by decide +kernel
theorem zr_188 (as : List zV) : zrk 188 as = 1 := by unfold zrk; rw [if_neg (by decide)]; decide +kernel
def lm_isStreet (x1 : Int) (M : Nat → Nat → Int) : Option Int :=
    ((rdI 107 (4 : Int) M).bind (fun v8 =>
    ((lm_in x1 (0 : Int) (w32 (v8 - (1 : Int))) M).bind (fun v12 =>
    (if v12 = 0 ∨ v12 = 1 then some v12 else none)))))
set_option maxRecDepth 100000 in
theorem ok_lm_isStreet {sc : zSc} {x1 : Int} {M : Nat → Nat → Int} {P : Int → (Nat → Nat → Int) → Prop} (h : zS (lm_isStreet x1 M) (fun x => P x M)) : zCi sc 188 [.inr (.inr 106), .inl x1] M P := by
  have ea : zarg (zml 188) [.inr (.inr 106), .inl x1] = [some (.inr (.inr 106)), some (.inl x1)] := by rw [zm_188]; rfl
  unfold zCi zCw
  rw [ea, zr_188]
  have hq : 1 ≤ 1 := Nat.le_refl _
  unfold lm_isStreet at h
  have h := zS_mono h (fun x hx => (⟨x, rfl, hx⟩ : ∃ y, (some (.inl x) : Option zV) = some (.inl y) ∧ P y M))
  skip
  refine E_iload_n (pc := 0) (zDk zD_188_ok 0 rfl) rfl ?_
  refine E_i2l (pc := 1) (zDk zD_188_ok 1 rfl) ?_
  refine E_lconst (pc := 2) (v := 0) (zDk zD_188_ok 2 rfl) (by decide +kernel) ?_
  refine E_aload_n (pc := 3) (zDk zD_188_ok 3 rfl) rfl ?_
  refine E_getR (pc := 4) (ci := 8) (f := 1) (r := 107) (zDk zD_188_ok 4 rfl) zc_188 (by decide +kernel) (by decide) zis_8_106 (by decide +kernel) (by decide) ?_
  refine E_iconst (pc := 7) (zDk zD_188_ok 5 rfl) (by decide +kernel) ?_
  obtain ⟨v8, e8, h⟩ := zS_bind h
  refine E_iaload (pc := 8) (zDk zD_188_ok 6 rfl) e8 ?_
  refine E_iconst (pc := 9) (zDk zD_188_ok 7 rfl) (by decide +kernel) ?_
  refine W_isub (pc := 10) (zDk zD_188_ok 8 rfl) ?_
  refine E_i2l (pc := 11) (zDk zD_188_ok 9 rfl) ?_
  obtain ⟨v12, e12, h⟩ := zS_bind h
  refine E_staI (pc := 12) (c := 176) (as := [.inr (.inl x1), .inr (.inl (0 : Int)), .inr (.inl (w32 (v8 - (1 : Int))))]) (rest := []) (zDk zD_188_ok 10 rfl) zc_188 (by decide +kernel) (by decide +kernel) zk_176 ⟨(Nat.le_of_ble_eq_true rfl), rfl, rfl⟩ (Nat.le_of_ble_eq_true rfl) (zr_176 _) (Nat.lt_of_lt_of_le (by decide) hq) (by rw [zm_176]; exact (Nat.le_of_ble_eq_true rfl)) (ok_lm_in ⟨v12, e12, ?_⟩)
  obtain ⟨hx, h⟩ := zS_c h
  have h := zS_some h
  exact E_ireturnZ (pc := 15) (zDk zD_188_ok 11 rfl) zt_188 hx h
def zD_193 : List (Nat × Instr × Nat) := [(0, .iload_n (1), 1), (1, .i2l, 1), (2, .lconst (0), 1), (3, .aload_n (0), 1), (4, .getfield (103), 3), (7, .i2l, 1), (8, .invokestatic (91), 3), (11, .ifCond .ne (5), 3), (14, .iconst (-1), 1), (15, .ireturn, 1), (16, .aload_n (0), 1), (17, .iload_n (1), 1), (18, .putfield (103), 3), (21, .iload_n (1), 1), (22, .ireturn, 1)]
set_option maxRecDepth 100000 in
theorem zD_193_ok : zDo 193 zD_193 = true := by decide +kernel
theorem zc_193 : zcls 193 = 8 := by decide +kernel
theorem zm_193 : zml 193 = 2 := by decide +kernel
theorem zt_193 : zrt 193 = (some (.int)) := by decide +kernel
theorem zk_193 : zkd 193 = 1 ∧ znp 193 + 1 = 2 := by decide +kernel
theorem zr_193 (as : List zV) : zrk 193 as = 1 := by unfold zrk; rw [if_neg (by decide)]; decide +kernel
def lm_end (x1 : Int) (M : Nat → Nat → Int) : Option (Int × (Nat → Nat → Int)) :=
    ((lm_in x1 (0 : Int) (M 106 5) M).bind (fun v8 =>
    (if v8 = 0 then
    (some ((-1 : Int), M))
    else
    ((some (zup M 106 5 x1)).bind (fun M18 =>
    (some (x1, M18)))))))
set_option maxRecDepth 100000 in
theorem ok_lm_end {sc : zSc} {x1 : Int} {M : Nat → Nat → Int} {P : Int → (Nat → Nat → Int) → Prop} (h : zS (lm_end x1 M) (fun r => P r.1 r.2)) : zCi sc 193 [.inr (.inr 106), .inl x1] M P := by
  have ea : zarg (zml 193) [.inr (.inr 106), .inl x1] = [some (.inr (.inr 106)), some (.inl x1)] := by rw [zm_193]; rfl
  unfold zCi zCw
  rw [ea, zr_193]
  have hq : 1 ≤ 1 := Nat.le_refl _
  unfold lm_end at h
  have h := zS_mono h (fun x hx => (⟨x.1, rfl, hx⟩ : ∃ y, (some (.inl x.1) : Option zV) = some (.inl y) ∧ P y x.2))
  skip
  refine E_iload_n (pc := 0) (zDk zD_193_ok 0 rfl) rfl ?_
  refine E_i2l (pc := 1) (zDk zD_193_ok 1 rfl) ?_
  refine E_lconst (pc := 2) (v := 0) (zDk zD_193_ok 2 rfl) (by decide +kernel) ?_
  refine E_aload_n (pc := 3) (zDk zD_193_ok 3 rfl) rfl ?_
  refine E_getI (pc := 4) (ci := 8) (f := 5) (zDk zD_193_ok 4 rfl) zc_193 (by decide +kernel) (by decide) zis_8_106 ?_
  refine E_i2l (pc := 7) (zDk zD_193_ok 5 rfl) ?_
  obtain ⟨v8, e8, h⟩ := zS_bind h
  refine E_staI (pc := 8) (c := 176) (as := [.inr (.inl x1), .inr (.inl (0 : Int)), .inr (.inl (M 106 5))]) (rest := []) (zDk zD_193_ok 6 rfl) zc_193 (by decide +kernel) (by decide +kernel) zk_176 ⟨(Nat.le_of_ble_eq_true rfl), rfl, rfl⟩ (Nat.le_of_ble_eq_true rfl) (zr_176 _) (Nat.lt_of_lt_of_le (by decide) hq) (by rw [zm_176]; exact (Nat.le_of_ble_eq_true rfl)) (ok_lm_in ⟨v8, e8, ?_⟩)
  refine E_if (pc := 11) (t := 16) (zDk zD_193_ok 7 rfl) rfl (fun hz => ?_) (fun hz => ?_)
  · have h := zS_f h (T_ne hz)
    refine E_aload_n (pc := 16) (zDk zD_193_ok 10 rfl) rfl ?_
    refine E_iload_n (pc := 17) (zDk zD_193_ok 11 rfl) rfl ?_
    obtain ⟨M18, e18, h⟩ := zS_bind h
    refine W_putI (pc := 18) (ci := 8) (f := 5) (zDk zD_193_ok 12 rfl) zc_193 (by decide +kernel) (by decide) zis_8_106 (Option.some.inj e18) ?_
    refine E_iload_n (pc := 21) (zDk zD_193_ok 13 rfl) rfl ?_
    have h := zS_some h
    exact E_ireturn (pc := 22) (zDk zD_193_ok 14 rfl) zt_193 h
  · have h := zS_t h (F_ne hz)
    refine E_iconst (pc := 14) (zDk zD_193_ok 8 rfl) (by decide +kernel) ?_
    have h := zS_some h
    exact E_ireturn (pc := 15) (zDk zD_193_ok 9 rfl) zt_193 h
def zD_195 : List (Nat × Instr × Nat) := [(0, .aload_n (0), 1), (1, .aload_n (0), 1), (2, .getfield (109), 3), (5, .invokevirtual (112), 3), (8, .bipush (32), 2), (10, .if_icmp .eq (16), 3), (13, .aload_n (0), 1), (14, .aload_n (0), 1), (15, .getfield (109), 3), (18, .invokevirtual (112), 3), (21, .bipush (10), 2), (23, .if_icmp .ne (16), 3), (26, .aload_n (0), 1), (27, .dup, 1), (28, .getfield (109), 3), (31, .iconst (1), 1), (32, .iadd, 1), (33, .putfield (109), 3), (36, .goto (-36), 3), (39, .aload_n (0), 1), (40, .aload_n (0), 1), (41, .getfield (109), 3), (44, .putfield (116), 3), (47, .aload_n (0), 1), (48, .aload_n (0), 1), (49, .getfield (109), 3), (52, .invokevirtual (112), 3), (55, .istore_n (1), 1), (56, .iload_n (1), 1), (57, .iconst (-1), 1), (58, .if_icmp .ne (11), 3), (61, .aload_n (0), 1), (62, .iconst (0), 1), (63, .putfield (119), 3), (66, .goto (173), 3), (69, .iload_n (1), 1), (70, .i2l, 1), (71, .ldc2_w (122), 3), (74, .ldc2_w (124), 3), (77, .invokestatic (91), 3), (80, .ifCond .eq (45), 3), (83, .aload_n (0), 1), (84, .aload_n (0), 1), (85, .getfield (109), 3), (88, .invokevirtual (112), 3), (91, .i2l, 1), (92, .ldc2_w (122), 3), (95, .ldc2_w (124), 3), (98, .invokestatic (91), 3), (101, .ifCond .eq (16), 3), (104, .aload_n (0), 1), (105, .dup, 1), (106, .getfield (109), 3), (109, .iconst (1), 1), (110, .iadd, 1), (111, .putfield (109), 3), (114, .goto (-31), 3), (117, .aload_n (0), 1), (118, .iconst (1), 1), (119, .putfield (119), 3), (122, .goto (117), 3), (125, .iload_n (1), 1), (126, .i2l, 1), (127, .ldc2_w (126), 3), (130, .ldc2_w (128), 3), (133, .invokestatic (91), 3), (136, .ifCond .eq (78), 3), (139, .aload_n (0), 1), (140, .iconst (0), 1), (141, .putfield (130), 3), (144, .aload_n (0), 1), (145, .aload_n (0), 1), (146, .getfield (109), 3), (149, .invokevirtual (112), 3), (152, .i2l, 1), (153, .ldc2_w (126), 3), (156, .ldc2_w (128), 3), (159, .invokestatic (91), 3), (162, .ifCond .eq (44), 3), (165, .aload_n (0), 1), (166, .ldc (133), 2), (168, .bipush (10), 2), (170, .aload_n (0), 1), (171, .getfield (130), 3), (174, .imul, 1), (175, .aload_n (0), 1), (176, .aload_n (0), 1), (177, .getfield (109), 3), (180, .invokevirtual (112), 3), (183, .iadd, 1), (184, .bipush (48), 2), (186, .isub, 1), (187, .invokestatic (134), 3), (190, .putfield (130), 3), (193, .aload_n (0), 1), (194, .dup, 1), (195, .getfield (109), 3), (198, .iconst (1), 1), (199, .iadd, 1), (200, .putfield (109), 3), (203, .goto (-59), 3), (206, .aload_n (0), 1), (207, .iconst (2), 1), (208, .putfield (119), 3), (211, .goto (28), 3), (214, .aload_n (0), 1), (215, .iload_n (1), 1), (216, .bipush (59), 2), (218, .if_icmp .ne (7), 3), (221, .iconst (3), 1), (222, .goto (4), 3), (225, .iconst (4), 1), (226, .putfield (119), 3), (229, .aload_n (0), 1), (230, .dup, 1), (231, .getfield (109), 3), (234, .iconst (1), 1), (235, .iadd, 1), (236, .putfield (109), 3), (239, .return_, 1)]
set_option maxRecDepth 100000 in
theorem zD_195_ok : zDo 195 zD_195 = true := by decide +kernel
theorem zc_195 : zcls 195 = 8 := by decide +kernel
theorem zm_195 : zml 195 = 2 := by decide +kernel
theorem zt_195 : zrt 195 = none := by decide +kernel
theorem zk_195 : zkd 195 = 1 ∧ znp 195 + 1 = 1 := by decide +kernel
theorem zr_195 (as : List zV) : zrk 195 as = 1 := by unfold zrk; rw [if_neg (by decide)]; decide +kernel
def lm_advance_c83 : Nat → (Nat → Nat → Int) → Option (Nat → Nat → Int)
  | 0, _ => none
  | n + 1, M =>
    ((lm_see (M 106 8) M).bind (fun v88 =>
    ((lm_in v88 (97 : Int) (122 : Int) M).bind (fun v98 =>
    (if v98 = 0 then
    ((some (zup M 106 10 (1 : Int))).bind (fun M119 =>
    (some M119)))
    else
    ((some (zup M 106 8 (w32 ((M 106 8) + (1 : Int))))).bind (fun M111 =>
    ((lm_advance_c83 n) M111))))))))
set_option maxRecDepth 100000 in
theorem ok_lm_advance_c83 {sc : zSc} {q : Nat} {P : Option zV → (Nat → Nat → Int) → Prop} (hq : 1 ≤ q) : ∀ (n : Nat) (M : Nat → Nat → Int) (d1 : Option zV), zS (lm_advance_c83 n M) (fun M0 => P none M0) → zWp sc q 195 83 [some (.inr (.inr 106)), d1] [] M P := by
  intro n
  induction n with
  | zero => intro M d1 h; exact (zS_none h).elim
  | succ n ih =>
    intro M d1 h
    rw [lm_advance_c83] at h
    refine E_aload_n (pc := 83) (zDk zD_195_ok 41 rfl) rfl ?_
    refine E_aload_n (pc := 84) (zDk zD_195_ok 42 rfl) rfl ?_
    refine E_getI (pc := 85) (ci := 8) (f := 8) (zDk zD_195_ok 43 rfl) zc_195 (by decide +kernel) (by decide) zis_8_106 ?_
    obtain ⟨v88, e88, h⟩ := zS_bind h
    refine E_virI (pc := 88) (c := 194) (r := 106) (as := [.inl (M 106 8)]) (rest := []) (zDk zD_195_ok 44 rfl) zc_195 (by decide +kernel) zk_194 ⟨(Nat.le_of_ble_eq_true rfl), rfl, rfl⟩ (Nat.le_of_ble_eq_true rfl) (zr_194 _) (Nat.lt_of_lt_of_le (by decide) hq) (by rw [zm_194]; exact (Nat.le_of_ble_eq_true rfl)) ⟨zc_194, by decide⟩ zis_8_106 (ok_lm_see ⟨v88, e88, ?_⟩)
    refine E_i2l (pc := 91) (zDk zD_195_ok 45 rfl) ?_
    refine E_ldc2_w (pc := 92) (v := .inr (.inl (97 : Int))) (zDk zD_195_ok 46 rfl) zc_195 (by decide +kernel) ?_
    refine E_ldc2_w (pc := 95) (v := .inr (.inl (122 : Int))) (zDk zD_195_ok 47 rfl) zc_195 (by decide +kernel) ?_
    obtain ⟨v98, e98, h⟩ := zS_bind h
    refine E_staI (pc := 98) (c := 176) (as := [.inr (.inl v88), .inr (.inl (97 : Int)), .inr (.inl (122 : Int))]) (rest := []) (zDk zD_195_ok 48 rfl) zc_195 (by decide +kernel) (by decide +kernel) zk_176 ⟨(Nat.le_of_ble_eq_true rfl), rfl, rfl⟩ (Nat.le_of_ble_eq_true rfl) (zr_176 _) (Nat.lt_of_lt_of_le (by decide) hq) (by rw [zm_176]; exact (Nat.le_of_ble_eq_true rfl)) (ok_lm_in ⟨v98, e98, ?_⟩)
    refine E_if (pc := 101) (t := 117) (zDk zD_195_ok 49 rfl) rfl (fun hz => ?_) (fun hz => ?_)
    · have h := zS_t h (T_eq hz)
      refine E_aload_n (pc := 117) (zDk zD_195_ok 57 rfl) rfl ?_
      refine E_iconst (pc := 118) (zDk zD_195_ok 58 rfl) (by decide +kernel) ?_
      obtain ⟨M119, e119, h⟩ := zS_bind h
      refine W_putI (pc := 119) (ci := 8) (f := 10) (zDk zD_195_ok 59 rfl) zc_195 (by decide +kernel) (by decide) zis_8_106 (Option.some.inj e119) ?_
      refine E_goto (pc := 122) (t := 239) (zDk zD_195_ok 60 rfl) rfl ?_
      have h := zS_some h
      exact E_return (x := ()) (pc := 239) (zDk zD_195_ok 119 rfl) zt_195 h
    · have h := zS_f h (F_eq hz)
      refine E_aload_n (pc := 104) (zDk zD_195_ok 50 rfl) rfl ?_
      refine E_dup (pc := 105) (zDk zD_195_ok 51 rfl) rfl ?_
      refine E_getI (pc := 106) (ci := 8) (f := 8) (zDk zD_195_ok 52 rfl) zc_195 (by decide +kernel) (by decide) zis_8_106 ?_
      refine E_iconst (pc := 109) (zDk zD_195_ok 53 rfl) (by decide +kernel) ?_
      refine W_iadd (pc := 110) (zDk zD_195_ok 54 rfl) ?_
      obtain ⟨M111, e111, h⟩ := zS_bind h
      refine W_putI (pc := 111) (ci := 8) (f := 8) (zDk zD_195_ok 55 rfl) zc_195 (by decide +kernel) (by decide) zis_8_106 (Option.some.inj e111) ?_
      refine E_goto (pc := 114) (t := 83) (zDk zD_195_ok 56 rfl) rfl ?_
      exact (ih) M111 d1 h
def lm_advance_c144 : Nat → (Nat → Nat → Int) → Option (Nat → Nat → Int)
  | 0, _ => none
  | n + 1, M =>
    ((lm_see (M 106 8) M).bind (fun v149 =>
    ((lm_in v149 (48 : Int) (57 : Int) M).bind (fun v159 =>
    (if v159 = 0 then
    ((some (zup M 106 10 (2 : Int))).bind (fun M208 =>
    (some M208)))
    else
    ((lm_see (M 106 8) M).bind (fun v180 =>
    ((some (zup M 106 11 (zmin (99999 : Int) (w32 ((w32 ((w32 ((10 : Int) * (M 106 11))) + v180)) - (48 : Int)))))).bind (fun M190 =>
    ((some (zup M190 106 8 (w32 ((M190 106 8) + (1 : Int))))).bind (fun M200 =>
    ((lm_advance_c144 n) M200))))))))))))
set_option maxRecDepth 100000 in
theorem ok_lm_advance_c144 {sc : zSc} {q : Nat} {P : Option zV → (Nat → Nat → Int) → Prop} (hq : 1 ≤ q) : ∀ (n : Nat) (M : Nat → Nat → Int) (d1 : Option zV), zS (lm_advance_c144 n M) (fun M0 => P none M0) → zWp sc q 195 144 [some (.inr (.inr 106)), d1] [] M P := by
  intro n
  induction n with
  | zero => intro M d1 h; exact (zS_none h).elim
  | succ n ih =>
    intro M d1 h
    rw [lm_advance_c144] at h
    refine E_aload_n (pc := 144) (zDk zD_195_ok 70 rfl) rfl ?_
    refine E_aload_n (pc := 145) (zDk zD_195_ok 71 rfl) rfl ?_
    refine E_getI (pc := 146) (ci := 8) (f := 8) (zDk zD_195_ok 72 rfl) zc_195 (by decide +kernel) (by decide) zis_8_106 ?_
    obtain ⟨v149, e149, h⟩ := zS_bind h
    refine E_virI (pc := 149) (c := 194) (r := 106) (as := [.inl (M 106 8)]) (rest := []) (zDk zD_195_ok 73 rfl) zc_195 (by decide +kernel) zk_194 ⟨(Nat.le_of_ble_eq_true rfl), rfl, rfl⟩ (Nat.le_of_ble_eq_true rfl) (zr_194 _) (Nat.lt_of_lt_of_le (by decide) hq) (by rw [zm_194]; exact (Nat.le_of_ble_eq_true rfl)) ⟨zc_194, by decide⟩ zis_8_106 (ok_lm_see ⟨v149, e149, ?_⟩)
    refine E_i2l (pc := 152) (zDk zD_195_ok 74 rfl) ?_
    refine E_ldc2_w (pc := 153) (v := .inr (.inl (48 : Int))) (zDk zD_195_ok 75 rfl) zc_195 (by decide +kernel) ?_
    refine E_ldc2_w (pc := 156) (v := .inr (.inl (57 : Int))) (zDk zD_195_ok 76 rfl) zc_195 (by decide +kernel) ?_
    obtain ⟨v159, e159, h⟩ := zS_bind h
    refine E_staI (pc := 159) (c := 176) (as := [.inr (.inl v149), .inr (.inl (48 : Int)), .inr (.inl (57 : Int))]) (rest := []) (zDk zD_195_ok 77 rfl) zc_195 (by decide +kernel) (by decide +kernel) zk_176 ⟨(Nat.le_of_ble_eq_true rfl), rfl, rfl⟩ (Nat.le_of_ble_eq_true rfl) (zr_176 _) (Nat.lt_of_lt_of_le (by decide) hq) (by rw [zm_176]; exact (Nat.le_of_ble_eq_true rfl)) (ok_lm_in ⟨v159, e159, ?_⟩)
    refine E_if (pc := 162) (t := 206) (zDk zD_195_ok 78 rfl) rfl (fun hz => ?_) (fun hz => ?_)
    · have h := zS_t h (T_eq hz)
      refine E_aload_n (pc := 206) (zDk zD_195_ok 101 rfl) rfl ?_
      refine E_iconst (pc := 207) (zDk zD_195_ok 102 rfl) (by decide +kernel) ?_
      obtain ⟨M208, e208, h⟩ := zS_bind h
      refine W_putI (pc := 208) (ci := 8) (f := 10) (zDk zD_195_ok 103 rfl) zc_195 (by decide +kernel) (by decide) zis_8_106 (Option.some.inj e208) ?_
      refine E_goto (pc := 211) (t := 239) (zDk zD_195_ok 104 rfl) rfl ?_
      have h := zS_some h
      exact E_return (x := ()) (pc := 239) (zDk zD_195_ok 119 rfl) zt_195 h
    · have h := zS_f h (F_eq hz)
      refine E_aload_n (pc := 165) (zDk zD_195_ok 79 rfl) rfl ?_
      refine E_ldc (pc := 166) (v := .inl (99999 : Int)) (zDk zD_195_ok 80 rfl) zc_195 (by decide +kernel) ?_
      refine E_bipush (pc := 168) (zDk zD_195_ok 81 rfl) (by decide +kernel) ?_
      refine E_aload_n (pc := 170) (zDk zD_195_ok 82 rfl) rfl ?_
      refine E_getI (pc := 171) (ci := 8) (f := 11) (zDk zD_195_ok 83 rfl) zc_195 (by decide +kernel) (by decide) zis_8_106 ?_
      refine W_imul (pc := 174) (zDk zD_195_ok 84 rfl) ?_
      refine E_aload_n (pc := 175) (zDk zD_195_ok 85 rfl) rfl ?_
      refine E_aload_n (pc := 176) (zDk zD_195_ok 86 rfl) rfl ?_
      refine E_getI (pc := 177) (ci := 8) (f := 8) (zDk zD_195_ok 87 rfl) zc_195 (by decide +kernel) (by decide) zis_8_106 ?_
      obtain ⟨v180, e180, h⟩ := zS_bind h
      refine E_virI (pc := 180) (c := 194) (r := 106) (as := [.inl (M 106 8)]) (rest := [.inl (w32 ((10 : Int) * (M 106 11))), .inl (99999 : Int), .inr (.inr 106)]) (zDk zD_195_ok 88 rfl) zc_195 (by decide +kernel) zk_194 ⟨(Nat.le_of_ble_eq_true rfl), rfl, rfl⟩ (Nat.le_of_ble_eq_true rfl) (zr_194 _) (Nat.lt_of_lt_of_le (by decide) hq) (by rw [zm_194]; exact (Nat.le_of_ble_eq_true rfl)) ⟨zc_194, by decide⟩ zis_8_106 (ok_lm_see ⟨v180, e180, ?_⟩)
      refine W_iadd (pc := 183) (zDk zD_195_ok 89 rfl) ?_
      refine E_bipush (pc := 184) (zDk zD_195_ok 90 rfl) (by decide +kernel) ?_
      refine W_isub (pc := 186) (zDk zD_195_ok 91 rfl) ?_
      refine W_min (pc := 187) (zDk zD_195_ok 92 rfl) zc_195 (by decide +kernel) (Nat.le_of_ble_eq_true rfl) (Nat.lt_of_lt_of_le (by decide) hq) ?_
      obtain ⟨M190, e190, h⟩ := zS_bind h
      refine W_putI (pc := 190) (ci := 8) (f := 11) (zDk zD_195_ok 93 rfl) zc_195 (by decide +kernel) (by decide) zis_8_106 (Option.some.inj e190) ?_
      refine E_aload_n (pc := 193) (zDk zD_195_ok 94 rfl) rfl ?_
      refine E_dup (pc := 194) (zDk zD_195_ok 95 rfl) rfl ?_
      refine E_getI (pc := 195) (ci := 8) (f := 8) (zDk zD_195_ok 96 rfl) zc_195 (by decide +kernel) (by decide) zis_8_106 ?_
      refine E_iconst (pc := 198) (zDk zD_195_ok 97 rfl) (by decide +kernel) ?_
      refine W_iadd (pc := 199) (zDk zD_195_ok 98 rfl) ?_
      obtain ⟨M200, e200, h⟩ := zS_bind h
      refine W_putI (pc := 200) (ci := 8) (f := 8) (zDk zD_195_ok 99 rfl) zc_195 (by decide +kernel) (by decide) zis_8_106 (Option.some.inj e200) ?_
      refine E_goto (pc := 203) (t := 144) (zDk zD_195_ok 100 rfl) rfl ?_
      exact (ih) M200 d1 h
def lm_advance_c0 : Nat → (Nat → Nat → Int) → Option (Nat → Nat → Int)
  | 0, _ => none
  | n + 1, M =>
    ((lm_see (M 106 8) M).bind (fun v5 =>
    (if v5 = (32 : Int) then
    ((some (zup M 106 8 (w32 ((M 106 8) + (1 : Int))))).bind (fun M33 =>
    ((lm_advance_c0 n) M33)))
    else
    ((lm_see (M 106 8) M).bind (fun v18 =>
    (if v18 = (10 : Int) then
    ((some (zup M 106 8 (w32 ((M 106 8) + (1 : Int))))).bind (fun M33 =>
    ((lm_advance_c0 n) M33)))
    else
    ((some (zup M 106 9 (M 106 8))).bind (fun M44 =>
    ((lm_see (M44 106 8) M44).bind (fun v52 =>
    (if v52 = (-1 : Int) then
    ((some (zup M44 106 10 (0 : Int))).bind (fun M63 =>
    (some M63)))
    else
    ((lm_in v52 (97 : Int) (122 : Int) M44).bind (fun v77 =>
    (if v77 = 0 then
    ((lm_in v52 (48 : Int) (57 : Int) M44).bind (fun v133 =>
    (if v133 = 0 then
    (if v52 = (59 : Int) then
    ((some (zup M44 106 10 (3 : Int))).bind (fun M226 =>
    ((some (zup M226 106 8 (w32 ((M226 106 8) + (1 : Int))))).bind (fun M236 =>
    (some M236)))))
    else
    ((some (zup M44 106 10 (4 : Int))).bind (fun M226 =>
    ((some (zup M226 106 8 (w32 ((M226 106 8) + (1 : Int))))).bind (fun M236 =>
    (some M236))))))
    else
    ((some (zup M44 106 11 (0 : Int))).bind (fun M141 =>
    (lm_advance_c144 zN M141))))))
    else
    (lm_advance_c83 zN M44)))))))))))))))
set_option maxRecDepth 100000 in
theorem ok_lm_advance_c0 {sc : zSc} {q : Nat} {P : Option zV → (Nat → Nat → Int) → Prop} (hq : 1 ≤ q) : ∀ (n : Nat) (M : Nat → Nat → Int) (d1 : Option zV), zS (lm_advance_c0 n M) (fun M0 => P none M0) → zWp sc q 195 0 [some (.inr (.inr 106)), d1] [] M P := by
  intro n
  induction n with
  | zero => intro M d1 h; exact (zS_none h).elim
  | succ n ih =>
    intro M d1 h
    rw [lm_advance_c0] at h
    refine E_aload_n (pc := 0) (zDk zD_195_ok 0 rfl) rfl ?_
    refine E_aload_n (pc := 1) (zDk zD_195_ok 1 rfl) rfl ?_
    refine E_getI (pc := 2) (ci := 8) (f := 8) (zDk zD_195_ok 2 rfl) zc_195 (by decide +kernel) (by decide) zis_8_106 ?_
    obtain ⟨v5, e5, h⟩ := zS_bind h
    refine E_virI (pc := 5) (c := 194) (r := 106) (as := [.inl (M 106 8)]) (rest := []) (zDk zD_195_ok 3 rfl) zc_195 (by decide +kernel) zk_194 ⟨(Nat.le_of_ble_eq_true rfl), rfl, rfl⟩ (Nat.le_of_ble_eq_true rfl) (zr_194 _) (Nat.lt_of_lt_of_le (by decide) hq) (by rw [zm_194]; exact (Nat.le_of_ble_eq_true rfl)) ⟨zc_194, by decide⟩ zis_8_106 (ok_lm_see ⟨v5, e5, ?_⟩)
    refine E_bipush (pc := 8) (zDk zD_195_ok 4 rfl) (by decide +kernel) ?_
    refine E_icmp (pc := 10) (t := 26) (zDk zD_195_ok 5 rfl) rfl (fun hz => ?_) (fun hz => ?_)
    · have h := zS_t h (T_eq hz)
      refine E_aload_n (pc := 26) (zDk zD_195_ok 12 rfl) rfl ?_
      refine E_dup (pc := 27) (zDk zD_195_ok 13 rfl) rfl ?_
      refine E_getI (pc := 28) (ci := 8) (f := 8) (zDk zD_195_ok 14 rfl) zc_195 (by decide +kernel) (by decide) zis_8_106 ?_
      refine E_iconst (pc := 31) (zDk zD_195_ok 15 rfl) (by decide +kernel) ?_
      refine W_iadd (pc := 32) (zDk zD_195_ok 16 rfl) ?_
      obtain ⟨M33, e33, h⟩ := zS_bind h
      refine W_putI (pc := 33) (ci := 8) (f := 8) (zDk zD_195_ok 17 rfl) zc_195 (by decide +kernel) (by decide) zis_8_106 (Option.some.inj e33) ?_
      refine E_goto (pc := 36) (t := 0) (zDk zD_195_ok 18 rfl) rfl ?_
      exact (ih) M33 d1 h
    · have h := zS_f h (F_eq hz)
      refine E_aload_n (pc := 13) (zDk zD_195_ok 6 rfl) rfl ?_
      refine E_aload_n (pc := 14) (zDk zD_195_ok 7 rfl) rfl ?_
      refine E_getI (pc := 15) (ci := 8) (f := 8) (zDk zD_195_ok 8 rfl) zc_195 (by decide +kernel) (by decide) zis_8_106 ?_
      obtain ⟨v18, e18, h⟩ := zS_bind h
      refine E_virI (pc := 18) (c := 194) (r := 106) (as := [.inl (M 106 8)]) (rest := []) (zDk zD_195_ok 9 rfl) zc_195 (by decide +kernel) zk_194 ⟨(Nat.le_of_ble_eq_true rfl), rfl, rfl⟩ (Nat.le_of_ble_eq_true rfl) (zr_194 _) (Nat.lt_of_lt_of_le (by decide) hq) (by rw [zm_194]; exact (Nat.le_of_ble_eq_true rfl)) ⟨zc_194, by decide⟩ zis_8_106 (ok_lm_see ⟨v18, e18, ?_⟩)
      refine E_bipush (pc := 21) (zDk zD_195_ok 10 rfl) (by decide +kernel) ?_
      refine E_icmp (pc := 23) (t := 39) (zDk zD_195_ok 11 rfl) rfl (fun hz => ?_) (fun hz => ?_)
      · have h := zS_f h (T_ne hz)
        refine E_aload_n (pc := 39) (zDk zD_195_ok 19 rfl) rfl ?_
        refine E_aload_n (pc := 40) (zDk zD_195_ok 20 rfl) rfl ?_
        refine E_getI (pc := 41) (ci := 8) (f := 8) (zDk zD_195_ok 21 rfl) zc_195 (by decide +kernel) (by decide) zis_8_106 ?_
        obtain ⟨M44, e44, h⟩ := zS_bind h
        refine W_putI (pc := 44) (ci := 8) (f := 9) (zDk zD_195_ok 22 rfl) zc_195 (by decide +kernel) (by decide) zis_8_106 (Option.some.inj e44) ?_
        refine E_aload_n (pc := 47) (zDk zD_195_ok 23 rfl) rfl ?_
        refine E_aload_n (pc := 48) (zDk zD_195_ok 24 rfl) rfl ?_
        refine E_getI (pc := 49) (ci := 8) (f := 8) (zDk zD_195_ok 25 rfl) zc_195 (by decide +kernel) (by decide) zis_8_106 ?_
        obtain ⟨v52, e52, h⟩ := zS_bind h
        refine E_virI (pc := 52) (c := 194) (r := 106) (as := [.inl (M44 106 8)]) (rest := []) (zDk zD_195_ok 26 rfl) zc_195 (by decide +kernel) zk_194 ⟨(Nat.le_of_ble_eq_true rfl), rfl, rfl⟩ (Nat.le_of_ble_eq_true rfl) (zr_194 _) (Nat.lt_of_lt_of_le (by decide) hq) (by rw [zm_194]; exact (Nat.le_of_ble_eq_true rfl)) ⟨zc_194, by decide⟩ zis_8_106 (ok_lm_see ⟨v52, e52, ?_⟩)
        refine W_istore_n (pc := 55) (L' := [some (.inr (.inr 106)), some (.inl v52)]) (zDk zD_195_ok 27 rfl) zm_195 (by decide) rfl ?_
        refine E_iload_n (pc := 56) (zDk zD_195_ok 28 rfl) rfl ?_
        refine E_iconst (pc := 57) (zDk zD_195_ok 29 rfl) (by decide +kernel) ?_
        refine E_icmp (pc := 58) (t := 69) (zDk zD_195_ok 30 rfl) rfl (fun hz => ?_) (fun hz => ?_)
        · have h := zS_f h (T_ne hz)
          refine E_iload_n (pc := 69) (zDk zD_195_ok 35 rfl) rfl ?_
          refine E_i2l (pc := 70) (zDk zD_195_ok 36 rfl) ?_
          refine E_ldc2_w (pc := 71) (v := .inr (.inl (97 : Int))) (zDk zD_195_ok 37 rfl) zc_195 (by decide +kernel) ?_
          refine E_ldc2_w (pc := 74) (v := .inr (.inl (122 : Int))) (zDk zD_195_ok 38 rfl) zc_195 (by decide +kernel) ?_
          obtain ⟨v77, e77, h⟩ := zS_bind h
          refine E_staI (pc := 77) (c := 176) (as := [.inr (.inl v52), .inr (.inl (97 : Int)), .inr (.inl (122 : Int))]) (rest := []) (zDk zD_195_ok 39 rfl) zc_195 (by decide +kernel) (by decide +kernel) zk_176 ⟨(Nat.le_of_ble_eq_true rfl), rfl, rfl⟩ (Nat.le_of_ble_eq_true rfl) (zr_176 _) (Nat.lt_of_lt_of_le (by decide) hq) (by rw [zm_176]; exact (Nat.le_of_ble_eq_true rfl)) (ok_lm_in ⟨v77, e77, ?_⟩)
          refine E_if (pc := 80) (t := 125) (zDk zD_195_ok 40 rfl) rfl (fun hz => ?_) (fun hz => ?_)
          · have h := zS_t h (T_eq hz)
            refine E_iload_n (pc := 125) (zDk zD_195_ok 61 rfl) rfl ?_
            refine E_i2l (pc := 126) (zDk zD_195_ok 62 rfl) ?_
            refine E_ldc2_w (pc := 127) (v := .inr (.inl (48 : Int))) (zDk zD_195_ok 63 rfl) zc_195 (by decide +kernel) ?_
            refine E_ldc2_w (pc := 130) (v := .inr (.inl (57 : Int))) (zDk zD_195_ok 64 rfl) zc_195 (by decide +kernel) ?_
            obtain ⟨v133, e133, h⟩ := zS_bind h
            refine E_staI (pc := 133) (c := 176) (as := [.inr (.inl v52), .inr (.inl (48 : Int)), .inr (.inl (57 : Int))]) (rest := []) (zDk zD_195_ok 65 rfl) zc_195 (by decide +kernel) (by decide +kernel) zk_176 ⟨(Nat.le_of_ble_eq_true rfl), rfl, rfl⟩ (Nat.le_of_ble_eq_true rfl) (zr_176 _) (Nat.lt_of_lt_of_le (by decide) hq) (by rw [zm_176]; exact (Nat.le_of_ble_eq_true rfl)) (ok_lm_in ⟨v133, e133, ?_⟩)
            refine E_if (pc := 136) (t := 214) (zDk zD_195_ok 66 rfl) rfl (fun hz => ?_) (fun hz => ?_)
            · have h := zS_t h (T_eq hz)
              refine E_aload_n (pc := 214) (zDk zD_195_ok 105 rfl) rfl ?_
              refine E_iload_n (pc := 215) (zDk zD_195_ok 106 rfl) rfl ?_
              refine E_bipush (pc := 216) (zDk zD_195_ok 107 rfl) (by decide +kernel) ?_
              refine E_icmp (pc := 218) (t := 225) (zDk zD_195_ok 108 rfl) rfl (fun hz => ?_) (fun hz => ?_)
              · have h := zS_f h (T_ne hz)
                refine E_iconst (pc := 225) (zDk zD_195_ok 111 rfl) (by decide +kernel) ?_
                obtain ⟨M226, e226, h⟩ := zS_bind h
                refine W_putI (pc := 226) (ci := 8) (f := 10) (zDk zD_195_ok 112 rfl) zc_195 (by decide +kernel) (by decide) zis_8_106 (Option.some.inj e226) ?_
                refine E_aload_n (pc := 229) (zDk zD_195_ok 113 rfl) rfl ?_
                refine E_dup (pc := 230) (zDk zD_195_ok 114 rfl) rfl ?_
                refine E_getI (pc := 231) (ci := 8) (f := 8) (zDk zD_195_ok 115 rfl) zc_195 (by decide +kernel) (by decide) zis_8_106 ?_
                refine E_iconst (pc := 234) (zDk zD_195_ok 116 rfl) (by decide +kernel) ?_
                refine W_iadd (pc := 235) (zDk zD_195_ok 117 rfl) ?_
                obtain ⟨M236, e236, h⟩ := zS_bind h
                refine W_putI (pc := 236) (ci := 8) (f := 8) (zDk zD_195_ok 118 rfl) zc_195 (by decide +kernel) (by decide) zis_8_106 (Option.some.inj e236) ?_
                have h := zS_some h
                exact E_return (x := ()) (pc := 239) (zDk zD_195_ok 119 rfl) zt_195 h
              · have h := zS_t h (F_ne hz)
                refine E_iconst (pc := 221) (zDk zD_195_ok 109 rfl) (by decide +kernel) ?_
                refine E_goto (pc := 222) (t := 226) (zDk zD_195_ok 110 rfl) rfl ?_
                obtain ⟨M226, e226, h⟩ := zS_bind h
                refine W_putI (pc := 226) (ci := 8) (f := 10) (zDk zD_195_ok 112 rfl) zc_195 (by decide +kernel) (by decide) zis_8_106 (Option.some.inj e226) ?_
                refine E_aload_n (pc := 229) (zDk zD_195_ok 113 rfl) rfl ?_
                refine E_dup (pc := 230) (zDk zD_195_ok 114 rfl) rfl ?_
                refine E_getI (pc := 231) (ci := 8) (f := 8) (zDk zD_195_ok 115 rfl) zc_195 (by decide +kernel) (by decide) zis_8_106 ?_
                refine E_iconst (pc := 234) (zDk zD_195_ok 116 rfl) (by decide +kernel) ?_
                refine W_iadd (pc := 235) (zDk zD_195_ok 117 rfl) ?_
                obtain ⟨M236, e236, h⟩ := zS_bind h
                refine W_putI (pc := 236) (ci := 8) (f := 8) (zDk zD_195_ok 118 rfl) zc_195 (by decide +kernel) (by decide) zis_8_106 (Option.some.inj e236) ?_
                have h := zS_some h
                exact E_return (x := ()) (pc := 239) (zDk zD_195_ok 119 rfl) zt_195 h
            · have h := zS_f h (F_eq hz)
              refine E_aload_n (pc := 139) (zDk zD_195_ok 67 rfl) rfl ?_
              refine E_iconst (pc := 140) (zDk zD_195_ok 68 rfl) (by decide +kernel) ?_
              obtain ⟨M141, e141, h⟩ := zS_bind h
              refine W_putI (pc := 141) (ci := 8) (f := 11) (zDk zD_195_ok 69 rfl) zc_195 (by decide +kernel) (by decide) zis_8_106 (Option.some.inj e141) ?_
              exact ok_lm_advance_c144 hq zN M141 (some (.inl v52)) h
          · have h := zS_f h (F_eq hz)
            exact ok_lm_advance_c83 hq zN M44 (some (.inl v52)) h
        · have h := zS_t h (F_ne hz)
          refine E_aload_n (pc := 61) (zDk zD_195_ok 31 rfl) rfl ?_
          refine E_iconst (pc := 62) (zDk zD_195_ok 32 rfl) (by decide +kernel) ?_
          obtain ⟨M63, e63, h⟩ := zS_bind h
          refine W_putI (pc := 63) (ci := 8) (f := 10) (zDk zD_195_ok 33 rfl) zc_195 (by decide +kernel) (by decide) zis_8_106 (Option.some.inj e63) ?_
          refine E_goto (pc := 66) (t := 239) (zDk zD_195_ok 34 rfl) rfl ?_
          have h := zS_some h
          exact E_return (x := ()) (pc := 239) (zDk zD_195_ok 119 rfl) zt_195 h
      · have h := zS_t h (F_ne hz)
        refine E_aload_n (pc := 26) (zDk zD_195_ok 12 rfl) rfl ?_
        refine E_dup (pc := 27) (zDk zD_195_ok 13 rfl) rfl ?_
        refine E_getI (pc := 28) (ci := 8) (f := 8) (zDk zD_195_ok 14 rfl) zc_195 (by decide +kernel) (by decide) zis_8_106 ?_
        refine E_iconst (pc := 31) (zDk zD_195_ok 15 rfl) (by decide +kernel) ?_
        refine W_iadd (pc := 32) (zDk zD_195_ok 16 rfl) ?_
        obtain ⟨M33, e33, h⟩ := zS_bind h
        refine W_putI (pc := 33) (ci := 8) (f := 8) (zDk zD_195_ok 17 rfl) zc_195 (by decide +kernel) (by decide) zis_8_106 (Option.some.inj e33) ?_
        refine E_goto (pc := 36) (t := 0) (zDk zD_195_ok 18 rfl) rfl ?_
        exact (ih) M33 d1 h
def lm_advance (M : Nat → Nat → Int) : Option (Nat → Nat → Int) :=
    (lm_advance_c0 zN M)
set_option maxRecDepth 100000 in
theorem ok_lm_advance {sc : zSc} {M : Nat → Nat → Int} {P : (Nat → Nat → Int) → Prop} (h : zS (lm_advance M) P) : zCv sc 195 [.inr (.inr 106)] M P := by
  have ea : zarg (zml 195) [.inr (.inr 106)] = [some (.inr (.inr 106)), none] := by rw [zm_195]; rfl
  unfold zCv zCw
  rw [ea, zr_195]
  have hq : 1 ≤ 1 := Nat.le_refl _
  unfold lm_advance at h
  have h := zS_mono h (fun x hx => (⟨rfl, hx⟩ : (none : Option zV) = none ∧ P x))
  skip
  exact ok_lm_advance_c0 hq zN M none h
def zD_197 : List (Nat × Instr × Nat) := [(0, .aload_n (0), 1), (1, .invokevirtual (143), 3), (4, .ifCond .ne (4), 3), (7, .return_, 1), (8, .aload_n (0), 1), (9, .iload_n (1), 1), (10, .putfield (140), 3), (13, .aload_n (0), 1), (14, .aload_n (0), 1), (15, .getfield (116), 3), (18, .putfield (27), 3), (21, .return_, 1)]
set_option maxRecDepth 100000 in
theorem zD_197_ok : zDo 197 zD_197 = true := by decide +kernel
theorem zc_197 : zcls 197 = 8 := by decide +kernel
theorem zm_197 : zml 197 = 2 := by decide +kernel
theorem zt_197 : zrt 197 = none := by decide +kernel
theorem zk_197 : zkd 197 = 1 ∧ znp 197 + 1 = 2 := by decide +kernel
theorem zr_197 (as : List zV) : zrk 197 as = 1 := by unfold zrk; rw [if_neg (by decide)]; decide +kernel
def lm_errs (x1 : Int) (M : Nat → Nat → Int) : Option (Nat → Nat → Int) :=
    ((lm_good M).bind (fun v1 =>
    (if v1 = 0 then
    (some M)
    else
    ((some (zup M 106 12 x1)).bind (fun M10 =>
    ((some (zup M10 106 13 (M10 106 9))).bind (fun M18 =>
    (some M18))))))))
set_option maxRecDepth 100000 in
theorem ok_lm_errs {sc : zSc} {x1 : Int} {M : Nat → Nat → Int} {P : (Nat → Nat → Int) → Prop} (h : zS (lm_errs x1 M) P) : zCv sc 197 [.inr (.inr 106), .inl x1] M P := by
  have ea : zarg (zml 197) [.inr (.inr 106), .inl x1] = [some (.inr (.inr 106)), some (.inl x1)] := by rw [zm_197]; rfl
  unfold zCv zCw
  rw [ea, zr_197]
  have hq : 1 ≤ 1 := Nat.le_refl _
  unfold lm_errs at h
  have h := zS_mono h (fun x hx => (⟨rfl, hx⟩ : (none : Option zV) = none ∧ P x))
  skip
  refine E_aload_n (pc := 0) (zDk zD_197_ok 0 rfl) rfl ?_
  obtain ⟨v1, e1, h⟩ := zS_bind h
  refine E_virI (pc := 1) (c := 196) (r := 106) (as := []) (rest := []) (zDk zD_197_ok 1 rfl) zc_197 (by decide +kernel) zk_196 ⟨(Nat.le_of_ble_eq_true rfl), rfl, rfl⟩ (Nat.le_of_ble_eq_true rfl) (zr_196 _) (Nat.lt_of_lt_of_le (by decide) hq) (by rw [zm_196]; exact (Nat.le_of_ble_eq_true rfl)) ⟨zc_196, by decide⟩ zis_8_106 (ok_lm_good ⟨v1, e1, ?_⟩)
  refine E_if (pc := 4) (t := 8) (zDk zD_197_ok 2 rfl) rfl (fun hz => ?_) (fun hz => ?_)
  · have h := zS_f h (T_ne hz)
    refine E_aload_n (pc := 8) (zDk zD_197_ok 4 rfl) rfl ?_
    refine E_iload_n (pc := 9) (zDk zD_197_ok 5 rfl) rfl ?_
    obtain ⟨M10, e10, h⟩ := zS_bind h
    refine W_putI (pc := 10) (ci := 8) (f := 12) (zDk zD_197_ok 6 rfl) zc_197 (by decide +kernel) (by decide) zis_8_106 (Option.some.inj e10) ?_
    refine E_aload_n (pc := 13) (zDk zD_197_ok 7 rfl) rfl ?_
    refine E_aload_n (pc := 14) (zDk zD_197_ok 8 rfl) rfl ?_
    refine E_getI (pc := 15) (ci := 8) (f := 9) (zDk zD_197_ok 9 rfl) zc_197 (by decide +kernel) (by decide) zis_8_106 ?_
    obtain ⟨M18, e18, h⟩ := zS_bind h
    refine W_putI (pc := 18) (ci := 8) (f := 13) (zDk zD_197_ok 10 rfl) zc_197 (by decide +kernel) (by decide) zis_8_106 (Option.some.inj e18) ?_
    have h := zS_some h
    exact E_return (x := ()) (pc := 21) (zDk zD_197_ok 11 rfl) zt_197 h
  · have h := zS_t h (F_ne hz)
    have h := zS_some h
    exact E_return (x := ()) (pc := 7) (zDk zD_197_ok 3 rfl) zt_197 h
def zD_214 : List (Nat × Instr × Nat) := [(0, .aload_n (0), 1), (1, .iconst (0), 1), (2, .putfield (239), 3), (5, .aload_n (0), 1), (6, .aload_n (0), 1), (7, .getfield (9), 3), (10, .iconst (2), 1), (11, .iaload, 1), (12, .putfield (242), 3), (15, .aload_n (0), 1), (16, .iconst (0), 1), (17, .putfield (245), 3), (20, .aload_n (0), 1), (21, .iconst (0), 1), (22, .putfield (248), 3), (25, .iconst (0), 1), (26, .istore_n (1), 1), (27, .iload_n (1), 1), (28, .bipush (8), 2), (30, .if_icmp .ge (16), 3), (33, .aload_n (0), 1), (34, .getfield (40), 3), (37, .iload_n (1), 1), (38, .iconst (0), 1), (39, .iastore, 1), (40, .iinc (1) (1), 3), (43, .goto (-16), 3), (46, .iconst (0), 1), (47, .istore_n (1), 1), (48, .iload_n (1), 1), (49, .aload_n (0), 1), (50, .getfield (9), 3), (53, .iconst (5), 1), (54, .iaload, 1), (55, .if_icmp .ge (41), 3), (58, .aload_n (0), 1), (59, .getfield (40), 3), (62, .aload_n (0), 1), (63, .getfield (9), 3), (66, .bipush (34), 2), (68, .iconst (2), 1), (69, .iload_n (1), 1), (70, .imul, 1), (71, .iadd, 1), (72, .iaload, 1), (73, .dup2, 1), (74, .iaload, 1), (75, .aload_n (0), 1), (76, .getfield (9), 3), (79, .bipush (34), 2), (81, .iconst (2), 1), (82, .iload_n (1), 1), (83, .imul, 1), (84, .iadd, 1), (85, .iconst (1), 1), (86, .iadd, 1), (87, .iaload, 1), (88, .iadd, 1), (89, .iastore, 1), (90, .iinc (1) (1), 3), (93, .goto (-45), 3), (96, .iconst (0), 1), (97, .istore_n (1), 1), (98, .iload_n (1), 1), (99, .iconst (5), 1), (100, .if_icmp .ge (59), 3), (103, .aload_n (0), 1), (104, .getfield (34), 3), (107, .iload_n (1), 1), (108, .aload_n (0), 1), (109, .iload_n (1), 1), (110, .iconst (0), 1), (111, .invokevirtual (251), 3), (114, .iastore, 1), (115, .aload_n (0), 1), (116, .getfield (37), 3), (119, .iload_n (1), 1), (120, .aload_n (0), 1), (121, .iload_n (1), 1), (122, .iconst (1), 1), (123, .invokevirtual (251), 3), (126, .iastore, 1), (127, .iconst (0), 1), (128, .istore_n (2), 1), (129, .iload_n (2), 1), (130, .bipush (20), 2), (132, .if_icmp .ge (21), 3), (135, .aload_n (0), 1), (136, .getfield (43), 3), (139, .bipush (20), 2), (141, .iload_n (1), 1), (142, .imul, 1), (143, .iload_n (2), 1), (144, .iadd, 1), (145, .iconst (-1), 1), (146, .iastore, 1), (147, .iinc (2) (1), 3), (150, .goto (-21), 3), (153, .iinc (1) (1), 3), (156, .goto (-58), 3), (159, .iconst (0), 1), (160, .istore_n (1), 1), (161, .iload_n (1), 1), (162, .aload_n (0), 1), (163, .getfield (9), 3), (166, .bipush (8), 2), (168, .iaload, 1), (169, .if_icmp .ge (92), 3), (172, .aload_n (0), 1), (173, .getfield (9), 3), (176, .bipush (108), 2), (178, .iload_n (1), 1), (179, .iadd, 1), (180, .iaload, 1), (181, .istore_n (2), 1), (182, .iload_n (2), 1), (183, .sipush (10000), 3), (186, .if_icmp .lt (33), 3), (189, .aload_n (0), 1), (190, .getfield (43), 3), (193, .bipush (20), 2), (195, .iload_n (2), 1), (196, .sipush (10000), 3), (199, .idiv, 1), (200, .iconst (1), 1), (201, .isub, 1), (202, .imul, 1), (203, .iload_n (2), 1), (204, .bipush (100), 2), (206, .irem, 1), (207, .iadd, 1), (208, .iload_n (2), 1), (209, .bipush (100), 2), (211, .idiv, 1), (212, .bipush (100), 2), (214, .irem, 1), (215, .iastore, 1), (216, .goto (39), 3), (219, .aload_n (0), 1), (220, .iload_n (2), 1), (221, .iconst (2), 1), (222, .irem, 1), (223, .iconst (1), 1), (224, .if_icmp .ne (16), 3), (227, .aload_n (0), 1), (228, .getfield (239), 3), (231, .iconst (1), 1), (232, .iload_n (2), 1), (233, .iconst (2), 1), (234, .idiv, 1), (235, .ishl, 1), (236, .ior, 1), (237, .goto (15), 3), (240, .aload_n (0), 1), (241, .getfield (239), 3), (244, .iconst (1), 1), (245, .iload_n (2), 1), (246, .iconst (2), 1), (247, .idiv, 1), (248, .ishl, 1), (249, .iconst (-1), 1), (250, .ixor, 1), (251, .iand, 1), (252, .putfield (239), 3), (255, .iinc (1) (1), 3), (258, .goto (-97), 3), (261, .return_, 1)]
set_option maxRecDepth 100000 in
theorem zD_214_ok : zDo 214 zD_214 = true := by decide +kernel
theorem zc_214 : zcls 214 = 8 := by decide +kernel
theorem zm_214 : zml 214 = 3 := by decide +kernel
theorem zt_214 : zrt 214 = none := by decide +kernel
theorem zk_214 : zkd 214 = 1 ∧ znp 214 + 1 = 1 := by decide +kernel
theorem zr_214 (as : List zV) : zrk 214 as = 1 := by unfold zrk; rw [if_neg (by decide)]; decide +kernel
def lm_asItIs_c129 (h98 : Int → (Nat → Nat → Int) → Option (Nat → Nat → Int)) : Nat → Int → Int → (Nat → Nat → Int) → Option (Nat → Nat → Int)
  | 0, _, _, _ => none
  | n + 1, y1, y2, M =>
    (if y2 < (20 : Int) then
    ((wrI 116 (w32 ((w32 ((20 : Int) * y1)) + y2)) (-1 : Int) M).bind (fun M146 =>
    ((lm_asItIs_c129 h98 n) y1 (w32 (y2 + 1)) M146)))
    else
    (h98 (w32 (y1 + 1)) M))
set_option maxRecDepth 100000 in
theorem ok_lm_asItIs_c129 {sc : zSc} {q : Nat} {P : Option zV → (Nat → Nat → Int) → Prop} (hq : 1 ≤ q) (h98 : Int → (Nat → Nat → Int) → Option (Nat → Nat → Int)) (H98 : ∀ (y1 : Int) (M : Nat → Nat → Int) (d2 : Option zV), zS (h98 y1 M) (fun M0 => P none M0) → zWp sc q 214 98 [some (.inr (.inr 106)), some (.inl y1), d2] [] M P) : ∀ (n : Nat) (y1 : Int) (y2 : Int) (M : Nat → Nat → Int), zS (lm_asItIs_c129 h98 n y1 y2 M) (fun M0 => P none M0) → zWp sc q 214 129 [some (.inr (.inr 106)), some (.inl y1), some (.inl y2)] [] M P := by
  intro n
  induction n with
  | zero => intro y1 y2 M h; exact (zS_none h).elim
  | succ n ih =>
    intro y1 y2 M h
    rw [lm_asItIs_c129] at h
    refine E_iload_n (pc := 129) (zDk zD_214_ok 84 rfl) rfl ?_
    refine E_bipush (pc := 130) (zDk zD_214_ok 85 rfl) (by decide +kernel) ?_
    refine E_icmp (pc := 132) (t := 153) (zDk zD_214_ok 86 rfl) rfl (fun hz => ?_) (fun hz => ?_)
    · have h := zS_f h (Int.not_lt.mpr (T_ge hz))
      refine W_iinc (pc := 153) (L' := [some (.inr (.inr 106)), some (.inl (w32 (y1 + 1))), some (.inl y2)]) (zDk zD_214_ok 98 rfl) rfl zm_214 (by decide) rfl ?_
      refine E_goto (pc := 156) (t := 98) (zDk zD_214_ok 99 rfl) rfl ?_
      exact H98 (w32 (y1 + 1)) M (some (.inl y2)) h
    · have h := zS_t h (F_ge hz)
      refine E_aload_n (pc := 135) (zDk zD_214_ok 87 rfl) rfl ?_
      refine E_getR (pc := 136) (ci := 8) (f := 22) (r := 116) (zDk zD_214_ok 88 rfl) zc_214 (by decide +kernel) (by decide) zis_8_106 (by decide +kernel) (by decide) ?_
      refine E_bipush (pc := 139) (zDk zD_214_ok 89 rfl) (by decide +kernel) ?_
      refine E_iload_n (pc := 141) (zDk zD_214_ok 90 rfl) rfl ?_
      refine W_imul (pc := 142) (zDk zD_214_ok 91 rfl) ?_
      refine E_iload_n (pc := 143) (zDk zD_214_ok 92 rfl) rfl ?_
      refine W_iadd (pc := 144) (zDk zD_214_ok 93 rfl) ?_
      refine E_iconst (pc := 145) (zDk zD_214_ok 94 rfl) (by decide +kernel) ?_
      obtain ⟨M146, e146, h⟩ := zS_bind h
      refine E_iastore (pc := 146) (zDk zD_214_ok 95 rfl) e146 ?_
      refine W_iinc (pc := 147) (L' := [some (.inr (.inr 106)), some (.inl y1), some (.inl (w32 (y2 + 1)))]) (zDk zD_214_ok 96 rfl) rfl zm_214 (by decide) rfl ?_
      refine E_goto (pc := 150) (t := 129) (zDk zD_214_ok 97 rfl) rfl ?_
      exact (ih) y1 (w32 (y2 + 1)) M146 h
def lm_asItIs_c161 : Nat → Int → (Nat → Nat → Int) → Option (Nat → Nat → Int)
  | 0, _, _ => none
  | n + 1, y1, M =>
    ((rdI 107 (8 : Int) M).bind (fun v168 =>
    (if y1 < v168 then
    ((rdI 107 (w32 ((108 : Int) + y1)) M).bind (fun v180 =>
    (if v180 < (10000 : Int) then
    (if (zrem v180 (2 : Int)) = (1 : Int) then
    ((some (zup M 106 15 (zor (M 106 15) (zshl (1 : Int) (zdiv v180 (2 : Int)))))).bind (fun M252 =>
    ((lm_asItIs_c161 n) (w32 (y1 + 1)) M252)))
    else
    ((some (zup M 106 15 (zand (M 106 15) (zxor (zshl (1 : Int) (zdiv v180 (2 : Int))) (-1 : Int))))).bind (fun M252 =>
    ((lm_asItIs_c161 n) (w32 (y1 + 1)) M252))))
    else
    ((wrI 116 (w32 ((w32 ((20 : Int) * (w32 ((zdiv v180 (10000 : Int)) - (1 : Int))))) + (zrem v180 (100 : Int)))) (zrem (zdiv v180 (100 : Int)) (100 : Int)) M).bind (fun M215 =>
    ((lm_asItIs_c161 n) (w32 (y1 + 1)) M215))))))
    else
    (some M))))
set_option maxRecDepth 100000 in
theorem ok_lm_asItIs_c161 {sc : zSc} {q : Nat} {P : Option zV → (Nat → Nat → Int) → Prop} (hq : 1 ≤ q) : ∀ (n : Nat) (y1 : Int) (M : Nat → Nat → Int) (d2 : Option zV), zS (lm_asItIs_c161 n y1 M) (fun M0 => P none M0) → zWp sc q 214 161 [some (.inr (.inr 106)), some (.inl y1), d2] [] M P := by
  intro n
  induction n with
  | zero => intro y1 M d2 h; exact (zS_none h).elim
  | succ n ih =>
    intro y1 M d2 h
    rw [lm_asItIs_c161] at h
    refine E_iload_n (pc := 161) (zDk zD_214_ok 102 rfl) rfl ?_
    refine E_aload_n (pc := 162) (zDk zD_214_ok 103 rfl) rfl ?_
    refine E_getR (pc := 163) (ci := 8) (f := 1) (r := 107) (zDk zD_214_ok 104 rfl) zc_214 (by decide +kernel) (by decide) zis_8_106 (by decide +kernel) (by decide) ?_
    refine E_bipush (pc := 166) (zDk zD_214_ok 105 rfl) (by decide +kernel) ?_
    obtain ⟨v168, e168, h⟩ := zS_bind h
    refine E_iaload (pc := 168) (zDk zD_214_ok 106 rfl) e168 ?_
    refine E_icmp (pc := 169) (t := 261) (zDk zD_214_ok 107 rfl) rfl (fun hz => ?_) (fun hz => ?_)
    · have h := zS_f h (Int.not_lt.mpr (T_ge hz))
      have h := zS_some h
      exact E_return (x := ()) (pc := 261) (zDk zD_214_ok 166 rfl) zt_214 h
    · have h := zS_t h (F_ge hz)
      refine E_aload_n (pc := 172) (zDk zD_214_ok 108 rfl) rfl ?_
      refine E_getR (pc := 173) (ci := 8) (f := 1) (r := 107) (zDk zD_214_ok 109 rfl) zc_214 (by decide +kernel) (by decide) zis_8_106 (by decide +kernel) (by decide) ?_
      refine E_bipush (pc := 176) (zDk zD_214_ok 110 rfl) (by decide +kernel) ?_
      refine E_iload_n (pc := 178) (zDk zD_214_ok 111 rfl) rfl ?_
      refine W_iadd (pc := 179) (zDk zD_214_ok 112 rfl) ?_
      obtain ⟨v180, e180, h⟩ := zS_bind h
      refine E_iaload (pc := 180) (zDk zD_214_ok 113 rfl) e180 ?_
      refine W_istore_n (pc := 181) (L' := [some (.inr (.inr 106)), some (.inl y1), some (.inl v180)]) (zDk zD_214_ok 114 rfl) zm_214 (by decide) rfl ?_
      refine E_iload_n (pc := 182) (zDk zD_214_ok 115 rfl) rfl ?_
      refine E_sipush (pc := 183) (zDk zD_214_ok 116 rfl) (by decide +kernel) ?_
      refine E_icmp (pc := 186) (t := 219) (zDk zD_214_ok 117 rfl) rfl (fun hz => ?_) (fun hz => ?_)
      · have h := zS_t h (T_lt hz)
        refine E_aload_n (pc := 219) (zDk zD_214_ok 138 rfl) rfl ?_
        refine E_iload_n (pc := 220) (zDk zD_214_ok 139 rfl) rfl ?_
        refine E_iconst (pc := 221) (zDk zD_214_ok 140 rfl) (by decide +kernel) ?_
        refine E_irem (pc := 222) (zDk zD_214_ok 141 rfl) (by decide) ?_
        refine E_iconst (pc := 223) (zDk zD_214_ok 142 rfl) (by decide +kernel) ?_
        refine E_icmp (pc := 224) (t := 240) (zDk zD_214_ok 143 rfl) rfl (fun hz => ?_) (fun hz => ?_)
        · have h := zS_f h (T_ne hz)
          refine E_aload_n (pc := 240) (zDk zD_214_ok 153 rfl) rfl ?_
          refine E_getI (pc := 241) (ci := 8) (f := 15) (zDk zD_214_ok 154 rfl) zc_214 (by decide +kernel) (by decide) zis_8_106 ?_
          refine E_iconst (pc := 244) (zDk zD_214_ok 155 rfl) (by decide +kernel) ?_
          refine E_iload_n (pc := 245) (zDk zD_214_ok 156 rfl) rfl ?_
          refine E_iconst (pc := 246) (zDk zD_214_ok 157 rfl) (by decide +kernel) ?_
          refine E_idiv (pc := 247) (zDk zD_214_ok 158 rfl) (by decide) ?_
          refine E_ishl (pc := 248) (zDk zD_214_ok 159 rfl) ?_
          refine E_iconst (pc := 249) (zDk zD_214_ok 160 rfl) (by decide +kernel) ?_
          refine E_ixor (pc := 250) (zDk zD_214_ok 161 rfl) ?_
          refine E_iand (pc := 251) (zDk zD_214_ok 162 rfl) ?_
          obtain ⟨M252, e252, h⟩ := zS_bind h
          refine W_putI (pc := 252) (ci := 8) (f := 15) (zDk zD_214_ok 163 rfl) zc_214 (by decide +kernel) (by decide) zis_8_106 (Option.some.inj e252) ?_
          refine W_iinc (pc := 255) (L' := [some (.inr (.inr 106)), some (.inl (w32 (y1 + 1))), some (.inl v180)]) (zDk zD_214_ok 164 rfl) rfl zm_214 (by decide) rfl ?_
          refine E_goto (pc := 258) (t := 161) (zDk zD_214_ok 165 rfl) rfl ?_
          exact (ih) (w32 (y1 + 1)) M252 (some (.inl v180)) h
        · have h := zS_t h (F_ne hz)
          refine E_aload_n (pc := 227) (zDk zD_214_ok 144 rfl) rfl ?_
          refine E_getI (pc := 228) (ci := 8) (f := 15) (zDk zD_214_ok 145 rfl) zc_214 (by decide +kernel) (by decide) zis_8_106 ?_
          refine E_iconst (pc := 231) (zDk zD_214_ok 146 rfl) (by decide +kernel) ?_
          refine E_iload_n (pc := 232) (zDk zD_214_ok 147 rfl) rfl ?_
          refine E_iconst (pc := 233) (zDk zD_214_ok 148 rfl) (by decide +kernel) ?_
          refine E_idiv (pc := 234) (zDk zD_214_ok 149 rfl) (by decide) ?_
          refine E_ishl (pc := 235) (zDk zD_214_ok 150 rfl) ?_
          refine E_ior (pc := 236) (zDk zD_214_ok 151 rfl) ?_
          refine E_goto (pc := 237) (t := 252) (zDk zD_214_ok 152 rfl) rfl ?_
          obtain ⟨M252, e252, h⟩ := zS_bind h
          refine W_putI (pc := 252) (ci := 8) (f := 15) (zDk zD_214_ok 163 rfl) zc_214 (by decide +kernel) (by decide) zis_8_106 (Option.some.inj e252) ?_
          refine W_iinc (pc := 255) (L' := [some (.inr (.inr 106)), some (.inl (w32 (y1 + 1))), some (.inl v180)]) (zDk zD_214_ok 164 rfl) rfl zm_214 (by decide) rfl ?_
          refine E_goto (pc := 258) (t := 161) (zDk zD_214_ok 165 rfl) rfl ?_
          exact (ih) (w32 (y1 + 1)) M252 (some (.inl v180)) h
      · have h := zS_f h (Int.not_lt.mpr (F_lt hz))
        refine E_aload_n (pc := 189) (zDk zD_214_ok 118 rfl) rfl ?_
        refine E_getR (pc := 190) (ci := 8) (f := 22) (r := 116) (zDk zD_214_ok 119 rfl) zc_214 (by decide +kernel) (by decide) zis_8_106 (by decide +kernel) (by decide) ?_
        refine E_bipush (pc := 193) (zDk zD_214_ok 120 rfl) (by decide +kernel) ?_
        refine E_iload_n (pc := 195) (zDk zD_214_ok 121 rfl) rfl ?_
        refine E_sipush (pc := 196) (zDk zD_214_ok 122 rfl) (by decide +kernel) ?_
        refine E_idiv (pc := 199) (zDk zD_214_ok 123 rfl) (by decide) ?_
        refine E_iconst (pc := 200) (zDk zD_214_ok 124 rfl) (by decide +kernel) ?_
        refine W_isub (pc := 201) (zDk zD_214_ok 125 rfl) ?_
        refine W_imul (pc := 202) (zDk zD_214_ok 126 rfl) ?_
        refine E_iload_n (pc := 203) (zDk zD_214_ok 127 rfl) rfl ?_
        refine E_bipush (pc := 204) (zDk zD_214_ok 128 rfl) (by decide +kernel) ?_
        refine E_irem (pc := 206) (zDk zD_214_ok 129 rfl) (by decide) ?_
        refine W_iadd (pc := 207) (zDk zD_214_ok 130 rfl) ?_
        refine E_iload_n (pc := 208) (zDk zD_214_ok 131 rfl) rfl ?_
        refine E_bipush (pc := 209) (zDk zD_214_ok 132 rfl) (by decide +kernel) ?_
        refine E_idiv (pc := 211) (zDk zD_214_ok 133 rfl) (by decide) ?_
        refine E_bipush (pc := 212) (zDk zD_214_ok 134 rfl) (by decide +kernel) ?_
        refine E_irem (pc := 214) (zDk zD_214_ok 135 rfl) (by decide) ?_
        obtain ⟨M215, e215, h⟩ := zS_bind h
        refine E_iastore (pc := 215) (zDk zD_214_ok 136 rfl) e215 ?_
        refine E_goto (pc := 216) (t := 255) (zDk zD_214_ok 137 rfl) rfl ?_
        refine W_iinc (pc := 255) (L' := [some (.inr (.inr 106)), some (.inl (w32 (y1 + 1))), some (.inl v180)]) (zDk zD_214_ok 164 rfl) rfl zm_214 (by decide) rfl ?_
        refine E_goto (pc := 258) (t := 161) (zDk zD_214_ok 165 rfl) rfl ?_
        exact (ih) (w32 (y1 + 1)) M215 (some (.inl v180)) h
def lm_asItIs_c98 : Nat → Int → (Nat → Nat → Int) → Option (Nat → Nat → Int)
  | 0, _, _ => none
  | n + 1, y1, M =>
    (if y1 < (5 : Int) then
    ((lm_of y1 (0 : Int) M).bind (fun v111 =>
    ((wrI 113 y1 v111 M).bind (fun M114 =>
    ((lm_of y1 (1 : Int) M114).bind (fun v123 =>
    ((wrI 114 y1 v123 M114).bind (fun M126 =>
    (lm_asItIs_c129 (lm_asItIs_c98 n) zN y1 (0 : Int) M126)))))))))
    else
    (lm_asItIs_c161 zN (0 : Int) M))
set_option maxRecDepth 100000 in
theorem ok_lm_asItIs_c98 {sc : zSc} {q : Nat} {P : Option zV → (Nat → Nat → Int) → Prop} (hq : 1 ≤ q) : ∀ (n : Nat) (y1 : Int) (M : Nat → Nat → Int) (d2 : Option zV), zS (lm_asItIs_c98 n y1 M) (fun M0 => P none M0) → zWp sc q 214 98 [some (.inr (.inr 106)), some (.inl y1), d2] [] M P := by
  intro n
  induction n with
  | zero => intro y1 M d2 h; exact (zS_none h).elim
  | succ n ih =>
    intro y1 M d2 h
    rw [lm_asItIs_c98] at h
    refine E_iload_n (pc := 98) (zDk zD_214_ok 63 rfl) rfl ?_
    refine E_iconst (pc := 99) (zDk zD_214_ok 64 rfl) (by decide +kernel) ?_
    refine E_icmp (pc := 100) (t := 159) (zDk zD_214_ok 65 rfl) rfl (fun hz => ?_) (fun hz => ?_)
    · have h := zS_f h (Int.not_lt.mpr (T_ge hz))
      refine E_iconst (pc := 159) (zDk zD_214_ok 100 rfl) (by decide +kernel) ?_
      refine W_istore_n (pc := 160) (L' := [some (.inr (.inr 106)), some (.inl (0 : Int)), d2]) (zDk zD_214_ok 101 rfl) zm_214 (by decide) rfl ?_
      exact ok_lm_asItIs_c161 hq zN (0 : Int) M d2 h
    · have h := zS_t h (F_ge hz)
      refine E_aload_n (pc := 103) (zDk zD_214_ok 66 rfl) rfl ?_
      refine E_getR (pc := 104) (ci := 8) (f := 19) (r := 113) (zDk zD_214_ok 67 rfl) zc_214 (by decide +kernel) (by decide) zis_8_106 (by decide +kernel) (by decide) ?_
      refine E_iload_n (pc := 107) (zDk zD_214_ok 68 rfl) rfl ?_
      refine E_aload_n (pc := 108) (zDk zD_214_ok 69 rfl) rfl ?_
      refine E_iload_n (pc := 109) (zDk zD_214_ok 70 rfl) rfl ?_
      refine E_iconst (pc := 110) (zDk zD_214_ok 71 rfl) (by decide +kernel) ?_
      obtain ⟨v111, e111, h⟩ := zS_bind h
      refine E_virI (pc := 111) (c := 190) (r := 106) (as := [.inl y1, .inl (0 : Int)]) (rest := [.inl y1, .inr (.inr 113)]) (zDk zD_214_ok 72 rfl) zc_214 (by decide +kernel) zk_190 ⟨(Nat.le_of_ble_eq_true rfl), rfl, rfl⟩ (Nat.le_of_ble_eq_true rfl) (zr_190 _) (Nat.lt_of_lt_of_le (by decide) hq) (by rw [zm_190]; exact (Nat.le_of_ble_eq_true rfl)) ⟨zc_190, by decide⟩ zis_8_106 (ok_lm_of ⟨v111, e111, ?_⟩)
      obtain ⟨M114, e114, h⟩ := zS_bind h
      refine E_iastore (pc := 114) (zDk zD_214_ok 73 rfl) e114 ?_
      refine E_aload_n (pc := 115) (zDk zD_214_ok 74 rfl) rfl ?_
      refine E_getR (pc := 116) (ci := 8) (f := 20) (r := 114) (zDk zD_214_ok 75 rfl) zc_214 (by decide +kernel) (by decide) zis_8_106 (by decide +kernel) (by decide) ?_
      refine E_iload_n (pc := 119) (zDk zD_214_ok 76 rfl) rfl ?_
      refine E_aload_n (pc := 120) (zDk zD_214_ok 77 rfl) rfl ?_
      refine E_iload_n (pc := 121) (zDk zD_214_ok 78 rfl) rfl ?_
      refine E_iconst (pc := 122) (zDk zD_214_ok 79 rfl) (by decide +kernel) ?_
      obtain ⟨v123, e123, h⟩ := zS_bind h
      refine E_virI (pc := 123) (c := 190) (r := 106) (as := [.inl y1, .inl (1 : Int)]) (rest := [.inl y1, .inr (.inr 114)]) (zDk zD_214_ok 80 rfl) zc_214 (by decide +kernel) zk_190 ⟨(Nat.le_of_ble_eq_true rfl), rfl, rfl⟩ (Nat.le_of_ble_eq_true rfl) (zr_190 _) (Nat.lt_of_lt_of_le (by decide) hq) (by rw [zm_190]; exact (Nat.le_of_ble_eq_true rfl)) ⟨zc_190, by decide⟩ zis_8_106 (ok_lm_of ⟨v123, e123, ?_⟩)
      obtain ⟨M126, e126, h⟩ := zS_bind h
      refine E_iastore (pc := 126) (zDk zD_214_ok 81 rfl) e126 ?_
      refine E_iconst (pc := 127) (zDk zD_214_ok 82 rfl) (by decide +kernel) ?_
      refine W_istore_n (pc := 128) (L' := [some (.inr (.inr 106)), some (.inl y1), some (.inl (0 : Int))]) (zDk zD_214_ok 83 rfl) zm_214 (by decide) rfl ?_
      exact ok_lm_asItIs_c129 hq (lm_asItIs_c98 n) (ih) zN y1 (0 : Int) M126 h
def lm_asItIs_c48 : Nat → Int → (Nat → Nat → Int) → Option (Nat → Nat → Int)
  | 0, _, _ => none
  | n + 1, y1, M =>
    ((rdI 107 (5 : Int) M).bind (fun v54 =>
    (if y1 < v54 then
    ((rdI 107 (w32 ((34 : Int) + (w32 ((2 : Int) * y1)))) M).bind (fun v72 =>
    ((rdI 115 v72 M).bind (fun v74 =>
    ((rdI 107 (w32 ((w32 ((34 : Int) + (w32 ((2 : Int) * y1)))) + (1 : Int))) M).bind (fun v87 =>
    ((wrI 115 v72 (w32 (v74 + v87)) M).bind (fun M89 =>
    ((lm_asItIs_c48 n) (w32 (y1 + 1)) M89)))))))))
    else
    (lm_asItIs_c98 zN (0 : Int) M))))
set_option maxRecDepth 100000 in
theorem ok_lm_asItIs_c48 {sc : zSc} {q : Nat} {P : Option zV → (Nat → Nat → Int) → Prop} (hq : 1 ≤ q) : ∀ (n : Nat) (y1 : Int) (M : Nat → Nat → Int) (d2 : Option zV), zS (lm_asItIs_c48 n y1 M) (fun M0 => P none M0) → zWp sc q 214 48 [some (.inr (.inr 106)), some (.inl y1), d2] [] M P := by
  intro n
  induction n with
  | zero => intro y1 M d2 h; exact (zS_none h).elim
  | succ n ih =>
    intro y1 M d2 h
    rw [lm_asItIs_c48] at h
    refine E_iload_n (pc := 48) (zDk zD_214_ok 29 rfl) rfl ?_
    refine E_aload_n (pc := 49) (zDk zD_214_ok 30 rfl) rfl ?_
    refine E_getR (pc := 50) (ci := 8) (f := 1) (r := 107) (zDk zD_214_ok 31 rfl) zc_214 (by decide +kernel) (by decide) zis_8_106 (by decide +kernel) (by decide) ?_
    refine E_iconst (pc := 53) (zDk zD_214_ok 32 rfl) (by decide +kernel) ?_
    obtain ⟨v54, e54, h⟩ := zS_bind h
    refine E_iaload (pc := 54) (zDk zD_214_ok 33 rfl) e54 ?_
    refine E_icmp (pc := 55) (t := 96) (zDk zD_214_ok 34 rfl) rfl (fun hz => ?_) (fun hz => ?_)
    · have h := zS_f h (Int.not_lt.mpr (T_ge hz))
      refine E_iconst (pc := 96) (zDk zD_214_ok 61 rfl) (by decide +kernel) ?_
      refine W_istore_n (pc := 97) (L' := [some (.inr (.inr 106)), some (.inl (0 : Int)), d2]) (zDk zD_214_ok 62 rfl) zm_214 (by decide) rfl ?_
      exact ok_lm_asItIs_c98 hq zN (0 : Int) M d2 h
    · have h := zS_t h (F_ge hz)
      refine E_aload_n (pc := 58) (zDk zD_214_ok 35 rfl) rfl ?_
      refine E_getR (pc := 59) (ci := 8) (f := 21) (r := 115) (zDk zD_214_ok 36 rfl) zc_214 (by decide +kernel) (by decide) zis_8_106 (by decide +kernel) (by decide) ?_
      refine E_aload_n (pc := 62) (zDk zD_214_ok 37 rfl) rfl ?_
      refine E_getR (pc := 63) (ci := 8) (f := 1) (r := 107) (zDk zD_214_ok 38 rfl) zc_214 (by decide +kernel) (by decide) zis_8_106 (by decide +kernel) (by decide) ?_
      refine E_bipush (pc := 66) (zDk zD_214_ok 39 rfl) (by decide +kernel) ?_
      refine E_iconst (pc := 68) (zDk zD_214_ok 40 rfl) (by decide +kernel) ?_
      refine E_iload_n (pc := 69) (zDk zD_214_ok 41 rfl) rfl ?_
      refine W_imul (pc := 70) (zDk zD_214_ok 42 rfl) ?_
      refine W_iadd (pc := 71) (zDk zD_214_ok 43 rfl) ?_
      obtain ⟨v72, e72, h⟩ := zS_bind h
      refine E_iaload (pc := 72) (zDk zD_214_ok 44 rfl) e72 ?_
      refine E_dup2 (pc := 73) (zDk zD_214_ok 45 rfl) rfl rfl ?_
      obtain ⟨v74, e74, h⟩ := zS_bind h
      refine E_iaload (pc := 74) (zDk zD_214_ok 46 rfl) e74 ?_
      refine E_aload_n (pc := 75) (zDk zD_214_ok 47 rfl) rfl ?_
      refine E_getR (pc := 76) (ci := 8) (f := 1) (r := 107) (zDk zD_214_ok 48 rfl) zc_214 (by decide +kernel) (by decide) zis_8_106 (by decide +kernel) (by decide) ?_
      refine E_bipush (pc := 79) (zDk zD_214_ok 49 rfl) (by decide +kernel) ?_
      refine E_iconst (pc := 81) (zDk zD_214_ok 50 rfl) (by decide +kernel) ?_
      refine E_iload_n (pc := 82) (zDk zD_214_ok 51 rfl) rfl ?_
      refine W_imul (pc := 83) (zDk zD_214_ok 52 rfl) ?_
      refine W_iadd (pc := 84) (zDk zD_214_ok 53 rfl) ?_
      refine E_iconst (pc := 85) (zDk zD_214_ok 54 rfl) (by decide +kernel) ?_
      refine W_iadd (pc := 86) (zDk zD_214_ok 55 rfl) ?_
      obtain ⟨v87, e87, h⟩ := zS_bind h
      refine E_iaload (pc := 87) (zDk zD_214_ok 56 rfl) e87 ?_
      refine W_iadd (pc := 88) (zDk zD_214_ok 57 rfl) ?_
      obtain ⟨M89, e89, h⟩ := zS_bind h
      refine E_iastore (pc := 89) (zDk zD_214_ok 58 rfl) e89 ?_
      refine W_iinc (pc := 90) (L' := [some (.inr (.inr 106)), some (.inl (w32 (y1 + 1))), d2]) (zDk zD_214_ok 59 rfl) rfl zm_214 (by decide) rfl ?_
      refine E_goto (pc := 93) (t := 48) (zDk zD_214_ok 60 rfl) rfl ?_
      exact (ih) (w32 (y1 + 1)) M89 d2 h
def lm_asItIs_c27 : Nat → Int → (Nat → Nat → Int) → Option (Nat → Nat → Int)
  | 0, _, _ => none
  | n + 1, y1, M =>
    (if y1 < (8 : Int) then
    ((wrI 115 y1 (0 : Int) M).bind (fun M39 =>
    ((lm_asItIs_c27 n) (w32 (y1 + 1)) M39)))
    else
    (lm_asItIs_c48 zN (0 : Int) M))
set_option maxRecDepth 100000 in
theorem ok_lm_asItIs_c27 {sc : zSc} {q : Nat} {P : Option zV → (Nat → Nat → Int) → Prop} (hq : 1 ≤ q) : ∀ (n : Nat) (y1 : Int) (M : Nat → Nat → Int) (d2 : Option zV), zS (lm_asItIs_c27 n y1 M) (fun M0 => P none M0) → zWp sc q 214 27 [some (.inr (.inr 106)), some (.inl y1), d2] [] M P := by
  intro n
  induction n with
  | zero => intro y1 M d2 h; exact (zS_none h).elim
  | succ n ih =>
    intro y1 M d2 h
    rw [lm_asItIs_c27] at h
    refine E_iload_n (pc := 27) (zDk zD_214_ok 17 rfl) rfl ?_
    refine E_bipush (pc := 28) (zDk zD_214_ok 18 rfl) (by decide +kernel) ?_
    refine E_icmp (pc := 30) (t := 46) (zDk zD_214_ok 19 rfl) rfl (fun hz => ?_) (fun hz => ?_)
    · have h := zS_f h (Int.not_lt.mpr (T_ge hz))
      refine E_iconst (pc := 46) (zDk zD_214_ok 27 rfl) (by decide +kernel) ?_
      refine W_istore_n (pc := 47) (L' := [some (.inr (.inr 106)), some (.inl (0 : Int)), d2]) (zDk zD_214_ok 28 rfl) zm_214 (by decide) rfl ?_
      exact ok_lm_asItIs_c48 hq zN (0 : Int) M d2 h
    · have h := zS_t h (F_ge hz)
      refine E_aload_n (pc := 33) (zDk zD_214_ok 20 rfl) rfl ?_
      refine E_getR (pc := 34) (ci := 8) (f := 21) (r := 115) (zDk zD_214_ok 21 rfl) zc_214 (by decide +kernel) (by decide) zis_8_106 (by decide +kernel) (by decide) ?_
      refine E_iload_n (pc := 37) (zDk zD_214_ok 22 rfl) rfl ?_
      refine E_iconst (pc := 38) (zDk zD_214_ok 23 rfl) (by decide +kernel) ?_
      obtain ⟨M39, e39, h⟩ := zS_bind h
      refine E_iastore (pc := 39) (zDk zD_214_ok 24 rfl) e39 ?_
      refine W_iinc (pc := 40) (L' := [some (.inr (.inr 106)), some (.inl (w32 (y1 + 1))), d2]) (zDk zD_214_ok 25 rfl) rfl zm_214 (by decide) rfl ?_
      refine E_goto (pc := 43) (t := 27) (zDk zD_214_ok 26 rfl) rfl ?_
      exact (ih) (w32 (y1 + 1)) M39 d2 h
def lm_asItIs (M : Nat → Nat → Int) : Option (Nat → Nat → Int) :=
    ((some (zup M 106 15 (0 : Int))).bind (fun M2 =>
    ((rdI 107 (2 : Int) M2).bind (fun v11 =>
    ((some (zup M2 106 16 v11)).bind (fun M12 =>
    ((some (zup M12 106 17 (0 : Int))).bind (fun M17 =>
    ((some (zup M17 106 18 (0 : Int))).bind (fun M22 =>
    (lm_asItIs_c27 zN (0 : Int) M22)))))))))))
set_option maxRecDepth 100000 in
theorem ok_lm_asItIs {sc : zSc} {M : Nat → Nat → Int} {P : (Nat → Nat → Int) → Prop} (h : zS (lm_asItIs M) P) : zCv sc 214 [.inr (.inr 106)] M P := by
  have ea : zarg (zml 214) [.inr (.inr 106)] = [some (.inr (.inr 106)), none, none] := by rw [zm_214]; rfl
  unfold zCv zCw
  rw [ea, zr_214]
  have hq : 1 ≤ 1 := Nat.le_refl _
  unfold lm_asItIs at h
  have h := zS_mono h (fun x hx => (⟨rfl, hx⟩ : (none : Option zV) = none ∧ P x))
  skip
  refine E_aload_n (pc := 0) (zDk zD_214_ok 0 rfl) rfl ?_
  refine E_iconst (pc := 1) (zDk zD_214_ok 1 rfl) (by decide +kernel) ?_
  obtain ⟨M2, e2, h⟩ := zS_bind h
  refine W_putI (pc := 2) (ci := 8) (f := 15) (zDk zD_214_ok 2 rfl) zc_214 (by decide +kernel) (by decide) zis_8_106 (Option.some.inj e2) ?_
  refine E_aload_n (pc := 5) (zDk zD_214_ok 3 rfl) rfl ?_
  refine E_aload_n (pc := 6) (zDk zD_214_ok 4 rfl) rfl ?_
  refine E_getR (pc := 7) (ci := 8) (f := 1) (r := 107) (zDk zD_214_ok 5 rfl) zc_214 (by decide +kernel) (by decide) zis_8_106 (by decide +kernel) (by decide) ?_
  refine E_iconst (pc := 10) (zDk zD_214_ok 6 rfl) (by decide +kernel) ?_
  obtain ⟨v11, e11, h⟩ := zS_bind h
  refine E_iaload (pc := 11) (zDk zD_214_ok 7 rfl) e11 ?_
  obtain ⟨M12, e12, h⟩ := zS_bind h
  refine W_putI (pc := 12) (ci := 8) (f := 16) (zDk zD_214_ok 8 rfl) zc_214 (by decide +kernel) (by decide) zis_8_106 (Option.some.inj e12) ?_
  refine E_aload_n (pc := 15) (zDk zD_214_ok 9 rfl) rfl ?_
  refine E_iconst (pc := 16) (zDk zD_214_ok 10 rfl) (by decide +kernel) ?_
  obtain ⟨M17, e17, h⟩ := zS_bind h
  refine W_putI (pc := 17) (ci := 8) (f := 17) (zDk zD_214_ok 11 rfl) zc_214 (by decide +kernel) (by decide) zis_8_106 (Option.some.inj e17) ?_
  refine E_aload_n (pc := 20) (zDk zD_214_ok 12 rfl) rfl ?_
  refine E_iconst (pc := 21) (zDk zD_214_ok 13 rfl) (by decide +kernel) ?_
  obtain ⟨M22, e22, h⟩ := zS_bind h
  refine W_putI (pc := 22) (ci := 8) (f := 18) (zDk zD_214_ok 14 rfl) zc_214 (by decide +kernel) (by decide) zis_8_106 (Option.some.inj e22) ?_
  refine E_iconst (pc := 25) (zDk zD_214_ok 15 rfl) (by decide +kernel) ?_
  refine W_istore_n (pc := 26) (L' := [some (.inr (.inr 106)), some (.inl (0 : Int)), none]) (zDk zD_214_ok 16 rfl) zm_214 (by decide) rfl ?_
  exact ok_lm_asItIs_c27 hq zN (0 : Int) M22 none h
def zD_215 : List (Nat × Instr × Nat) := [(0, .iconst (0), 1), (1, .istore_n (3), 1), (2, .iload_n (3), 1), (3, .aload_n (0), 1), (4, .getfield (9), 3), (7, .iconst (4), 1), (8, .iaload, 1), (9, .if_icmp .ge (74), 3), (12, .aload_n (0), 1), (13, .getfield (9), 3), (16, .bipush (10), 2), (18, .iconst (2), 1), (19, .iload_n (3), 1), (20, .imul, 1), (21, .iadd, 1), (22, .iaload, 1), (23, .istore (4), 2), (25, .aload_n (0), 1), (26, .getfield (9), 3), (29, .bipush (10), 2), (31, .iconst (2), 1), (32, .iload_n (3), 1), (33, .imul, 1), (34, .iadd, 1), (35, .iconst (1), 1), (36, .iadd, 1), (37, .iaload, 1), (38, .istore (5), 2), (40, .aload_n (0), 1), (41, .getfield (239), 3), (44, .iload_n (3), 1), (45, .invokestatic (202), 3), (48, .ifCond .ne (29), 3), (51, .iload_n (1), 1), (52, .iload (4), 2), (54, .if_icmp .ne (9), 3), (57, .iload_n (2), 1), (58, .iload (5), 2), (60, .if_icmp .eq (15), 3), (63, .iload_n (1), 1), (64, .iload (5), 2), (66, .if_icmp .ne (11), 3), (69, .iload_n (2), 1), (70, .iload (4), 2), (72, .if_icmp .ne (5), 3), (75, .iconst (1), 1), (76, .ireturn, 1), (77, .iinc (3) (1), 3), (80, .goto (-78), 3), (83, .iconst (0), 1), (84, .ireturn, 1)]
set_option maxRecDepth 100000 in
theorem zD_215_ok : zDo 215 zD_215 = true := by decide +kernel
theorem zc_215 : zcls 215 = 8 := by decide +kernel
theorem zm_215 : zml 215 = 6 := by decide +kernel
theorem zt_215 : zrt 215 = (some (.boolean)) := by decide +kernel
theorem zk_215 : zkd 215 = 1 ∧ znp 215 + 1 = 3 := by decide +kernel
theorem zr_215 (as : List zV) : zrk 215 as = 1 := by unfold zrk; rw [if_neg (by decide)]; decide +kernel
def lm_isJoined_c2 (x1 : Int) (x2 : Int) (M : Nat → Nat → Int) : Nat → Int → Option Int
  | 0, _ => none
  | n + 1, y3 =>
    ((rdI 107 (4 : Int) M).bind (fun v8 =>
    (if y3 < v8 then
    ((rdI 107 (w32 ((10 : Int) + (w32 ((2 : Int) * y3)))) M).bind (fun v22 =>
    ((rdI 107 (w32 ((w32 ((10 : Int) + (w32 ((2 : Int) * y3)))) + (1 : Int))) M).bind (fun v37 =>
    ((lm_bit (M 106 15) y3 M).bind (fun v45 =>
    (if v45 = 0 then
    (if x1 = v22 then
    (if x2 = v37 then
    (some (1 : Int))
    else
    (if x1 = v37 then
    (if x2 = v22 then
    (some (1 : Int))
    else
    ((lm_isJoined_c2 x1 x2 M n) (w32 (y3 + 1))))
    else
    ((lm_isJoined_c2 x1 x2 M n) (w32 (y3 + 1)))))
    else
    (if x1 = v37 then
    (if x2 = v22 then
    (some (1 : Int))
    else
    ((lm_isJoined_c2 x1 x2 M n) (w32 (y3 + 1))))
    else
    ((lm_isJoined_c2 x1 x2 M n) (w32 (y3 + 1)))))
    else
    ((lm_isJoined_c2 x1 x2 M n) (w32 (y3 + 1))))))))))
    else
    (some (0 : Int)))))
set_option maxRecDepth 100000 in
theorem ok_lm_isJoined_c2 {sc : zSc} {q : Nat} {P : Option zV → (Nat → Nat → Int) → Prop} (hq : 1 ≤ q) (x1 : Int) (x2 : Int) (M : Nat → Nat → Int) : ∀ (n : Nat) (y3 : Int) (d4 d5 : Option zV), zS (lm_isJoined_c2 x1 x2 M n y3) (fun x => P (some (.inl x)) M) → zWp sc q 215 2 [some (.inr (.inr 106)), some (.inl x1), some (.inl x2), some (.inl y3), d4, d5] [] M P := by
  intro n
  induction n with
  | zero => intro y3 d4 d5 h; exact (zS_none h).elim
  | succ n ih =>
    intro y3 d4 d5 h
    rw [lm_isJoined_c2] at h
    refine E_iload_n (pc := 2) (zDk zD_215_ok 2 rfl) rfl ?_
    refine E_aload_n (pc := 3) (zDk zD_215_ok 3 rfl) rfl ?_
    refine E_getR (pc := 4) (ci := 8) (f := 1) (r := 107) (zDk zD_215_ok 4 rfl) zc_215 (by decide +kernel) (by decide) zis_8_106 (by decide +kernel) (by decide) ?_
    refine E_iconst (pc := 7) (zDk zD_215_ok 5 rfl) (by decide +kernel) ?_
    obtain ⟨v8, e8, h⟩ := zS_bind h
    refine E_iaload (pc := 8) (zDk zD_215_ok 6 rfl) e8 ?_
    refine E_icmp (pc := 9) (t := 83) (zDk zD_215_ok 7 rfl) rfl (fun hz => ?_) (fun hz => ?_)
    · have h := zS_f h (Int.not_lt.mpr (T_ge hz))
      refine E_iconst (pc := 83) (zDk zD_215_ok 49 rfl) (by decide +kernel) ?_
      have h := zS_some h
      exact E_ireturnZ (pc := 84) (zDk zD_215_ok 50 rfl) zt_215 (by decide) h
    · have h := zS_t h (F_ge hz)
      refine E_aload_n (pc := 12) (zDk zD_215_ok 8 rfl) rfl ?_
      refine E_getR (pc := 13) (ci := 8) (f := 1) (r := 107) (zDk zD_215_ok 9 rfl) zc_215 (by decide +kernel) (by decide) zis_8_106 (by decide +kernel) (by decide) ?_
      refine E_bipush (pc := 16) (zDk zD_215_ok 10 rfl) (by decide +kernel) ?_
      refine E_iconst (pc := 18) (zDk zD_215_ok 11 rfl) (by decide +kernel) ?_
      refine E_iload_n (pc := 19) (zDk zD_215_ok 12 rfl) rfl ?_
      refine W_imul (pc := 20) (zDk zD_215_ok 13 rfl) ?_
      refine W_iadd (pc := 21) (zDk zD_215_ok 14 rfl) ?_
      obtain ⟨v22, e22, h⟩ := zS_bind h
      refine E_iaload (pc := 22) (zDk zD_215_ok 15 rfl) e22 ?_
      refine W_istore (pc := 23) (L' := [some (.inr (.inr 106)), some (.inl x1), some (.inl x2), some (.inl y3), some (.inl v22), d5]) (zDk zD_215_ok 16 rfl) zm_215 (by decide) rfl ?_
      refine E_aload_n (pc := 25) (zDk zD_215_ok 17 rfl) rfl ?_
      refine E_getR (pc := 26) (ci := 8) (f := 1) (r := 107) (zDk zD_215_ok 18 rfl) zc_215 (by decide +kernel) (by decide) zis_8_106 (by decide +kernel) (by decide) ?_
      refine E_bipush (pc := 29) (zDk zD_215_ok 19 rfl) (by decide +kernel) ?_
      refine E_iconst (pc := 31) (zDk zD_215_ok 20 rfl) (by decide +kernel) ?_
      refine E_iload_n (pc := 32) (zDk zD_215_ok 21 rfl) rfl ?_
      refine W_imul (pc := 33) (zDk zD_215_ok 22 rfl) ?_
      refine W_iadd (pc := 34) (zDk zD_215_ok 23 rfl) ?_
      refine E_iconst (pc := 35) (zDk zD_215_ok 24 rfl) (by decide +kernel) ?_
      refine W_iadd (pc := 36) (zDk zD_215_ok 25 rfl) ?_
      obtain ⟨v37, e37, h⟩ := zS_bind h
      refine E_iaload (pc := 37) (zDk zD_215_ok 26 rfl) e37 ?_
      refine W_istore (pc := 38) (L' := [some (.inr (.inr 106)), some (.inl x1), some (.inl x2), some (.inl y3), some (.inl v22), some (.inl v37)]) (zDk zD_215_ok 27 rfl) zm_215 (by decide) rfl ?_
      refine E_aload_n (pc := 40) (zDk zD_215_ok 28 rfl) rfl ?_
      refine E_getI (pc := 41) (ci := 8) (f := 15) (zDk zD_215_ok 29 rfl) zc_215 (by decide +kernel) (by decide) zis_8_106 ?_
      refine E_iload_n (pc := 44) (zDk zD_215_ok 30 rfl) rfl ?_
      obtain ⟨v45, e45, h⟩ := zS_bind h
      refine E_staI (pc := 45) (c := 178) (as := [.inl (M 106 15), .inl y3]) (rest := []) (zDk zD_215_ok 31 rfl) zc_215 (by decide +kernel) (by decide +kernel) zk_178 ⟨(Nat.le_of_ble_eq_true rfl), rfl, rfl⟩ (Nat.le_of_ble_eq_true rfl) (zr_178 _) (Nat.lt_of_lt_of_le (by decide) hq) (by rw [zm_178]; exact (Nat.le_of_ble_eq_true rfl)) (ok_lm_bit ⟨v45, e45, ?_⟩)
      refine E_if (pc := 48) (t := 77) (zDk zD_215_ok 32 rfl) rfl (fun hz => ?_) (fun hz => ?_)
      · have h := zS_f h (T_ne hz)
        refine W_iinc (pc := 77) (L' := [some (.inr (.inr 106)), some (.inl x1), some (.inl x2), some (.inl (w32 (y3 + 1))), some (.inl v22), some (.inl v37)]) (zDk zD_215_ok 47 rfl) rfl zm_215 (by decide) rfl ?_
        refine E_goto (pc := 80) (t := 2) (zDk zD_215_ok 48 rfl) rfl ?_
        exact (ih) (w32 (y3 + 1)) (some (.inl v22)) (some (.inl v37)) h
      · have h := zS_t h (F_ne hz)
        refine E_iload_n (pc := 51) (zDk zD_215_ok 33 rfl) rfl ?_
        refine E_iload (pc := 52) (zDk zD_215_ok 34 rfl) rfl ?_
        refine E_icmp (pc := 54) (t := 63) (zDk zD_215_ok 35 rfl) rfl (fun hz => ?_) (fun hz => ?_)
        · have h := zS_f h (T_ne hz)
          refine E_iload_n (pc := 63) (zDk zD_215_ok 39 rfl) rfl ?_
          refine E_iload (pc := 64) (zDk zD_215_ok 40 rfl) rfl ?_
          refine E_icmp (pc := 66) (t := 77) (zDk zD_215_ok 41 rfl) rfl (fun hz => ?_) (fun hz => ?_)
          · have h := zS_f h (T_ne hz)
            refine W_iinc (pc := 77) (L' := [some (.inr (.inr 106)), some (.inl x1), some (.inl x2), some (.inl (w32 (y3 + 1))), some (.inl v22), some (.inl v37)]) (zDk zD_215_ok 47 rfl) rfl zm_215 (by decide) rfl ?_
            refine E_goto (pc := 80) (t := 2) (zDk zD_215_ok 48 rfl) rfl ?_
            exact (ih) (w32 (y3 + 1)) (some (.inl v22)) (some (.inl v37)) h
          · have h := zS_t h (F_ne hz)
            refine E_iload_n (pc := 69) (zDk zD_215_ok 42 rfl) rfl ?_
            refine E_iload (pc := 70) (zDk zD_215_ok 43 rfl) rfl ?_
            refine E_icmp (pc := 72) (t := 77) (zDk zD_215_ok 44 rfl) rfl (fun hz => ?_) (fun hz => ?_)
            · have h := zS_f h (T_ne hz)
              refine W_iinc (pc := 77) (L' := [some (.inr (.inr 106)), some (.inl x1), some (.inl x2), some (.inl (w32 (y3 + 1))), some (.inl v22), some (.inl v37)]) (zDk zD_215_ok 47 rfl) rfl zm_215 (by decide) rfl ?_
              refine E_goto (pc := 80) (t := 2) (zDk zD_215_ok 48 rfl) rfl ?_
              exact (ih) (w32 (y3 + 1)) (some (.inl v22)) (some (.inl v37)) h
            · have h := zS_t h (F_ne hz)
              refine E_iconst (pc := 75) (zDk zD_215_ok 45 rfl) (by decide +kernel) ?_
              have h := zS_some h
              exact E_ireturnZ (pc := 76) (zDk zD_215_ok 46 rfl) zt_215 (by decide) h
        · have h := zS_t h (F_ne hz)
          refine E_iload_n (pc := 57) (zDk zD_215_ok 36 rfl) rfl ?_
          refine E_iload (pc := 58) (zDk zD_215_ok 37 rfl) rfl ?_
          refine E_icmp (pc := 60) (t := 75) (zDk zD_215_ok 38 rfl) rfl (fun hz => ?_) (fun hz => ?_)
          · have h := zS_t h (T_eq hz)
            refine E_iconst (pc := 75) (zDk zD_215_ok 45 rfl) (by decide +kernel) ?_
            have h := zS_some h
            exact E_ireturnZ (pc := 76) (zDk zD_215_ok 46 rfl) zt_215 (by decide) h
          · have h := zS_f h (F_eq hz)
            refine E_iload_n (pc := 63) (zDk zD_215_ok 39 rfl) rfl ?_
            refine E_iload (pc := 64) (zDk zD_215_ok 40 rfl) rfl ?_
            refine E_icmp (pc := 66) (t := 77) (zDk zD_215_ok 41 rfl) rfl (fun hz => ?_) (fun hz => ?_)
            · have h := zS_f h (T_ne hz)
              refine W_iinc (pc := 77) (L' := [some (.inr (.inr 106)), some (.inl x1), some (.inl x2), some (.inl (w32 (y3 + 1))), some (.inl v22), some (.inl v37)]) (zDk zD_215_ok 47 rfl) rfl zm_215 (by decide) rfl ?_
              refine E_goto (pc := 80) (t := 2) (zDk zD_215_ok 48 rfl) rfl ?_
              exact (ih) (w32 (y3 + 1)) (some (.inl v22)) (some (.inl v37)) h
            · have h := zS_t h (F_ne hz)
              refine E_iload_n (pc := 69) (zDk zD_215_ok 42 rfl) rfl ?_
              refine E_iload (pc := 70) (zDk zD_215_ok 43 rfl) rfl ?_
              refine E_icmp (pc := 72) (t := 77) (zDk zD_215_ok 44 rfl) rfl (fun hz => ?_) (fun hz => ?_)
              · have h := zS_f h (T_ne hz)
                refine W_iinc (pc := 77) (L' := [some (.inr (.inr 106)), some (.inl x1), some (.inl x2), some (.inl (w32 (y3 + 1))), some (.inl v22), some (.inl v37)]) (zDk zD_215_ok 47 rfl) rfl zm_215 (by decide) rfl ?_
                refine E_goto (pc := 80) (t := 2) (zDk zD_215_ok 48 rfl) rfl ?_
                exact (ih) (w32 (y3 + 1)) (some (.inl v22)) (some (.inl v37)) h
              · have h := zS_t h (F_ne hz)
                refine E_iconst (pc := 75) (zDk zD_215_ok 45 rfl) (by decide +kernel) ?_
                have h := zS_some h
                exact E_ireturnZ (pc := 76) (zDk zD_215_ok 46 rfl) zt_215 (by decide) h
def lm_isJoined (x1 : Int) (x2 : Int) (M : Nat → Nat → Int) : Option Int :=
    (lm_isJoined_c2 x1 x2 M zN (0 : Int))
set_option maxRecDepth 100000 in
theorem ok_lm_isJoined {sc : zSc} {x1 : Int} {x2 : Int} {M : Nat → Nat → Int} {P : Int → (Nat → Nat → Int) → Prop} (h : zS (lm_isJoined x1 x2 M) (fun x => P x M)) : zCi sc 215 [.inr (.inr 106), .inl x1, .inl x2] M P := by
  have ea : zarg (zml 215) [.inr (.inr 106), .inl x1, .inl x2] = [some (.inr (.inr 106)), some (.inl x1), some (.inl x2), none, none, none] := by rw [zm_215]; rfl
  unfold zCi zCw
  rw [ea, zr_215]
  have hq : 1 ≤ 1 := Nat.le_refl _
  unfold lm_isJoined at h
  have h := zS_mono h (fun x hx => (⟨x, rfl, hx⟩ : ∃ y, (some (.inl x) : Option zV) = some (.inl y) ∧ P y M))
  skip
  refine E_iconst (pc := 0) (zDk zD_215_ok 0 rfl) (by decide +kernel) ?_
  refine W_istore_n (pc := 1) (L' := [some (.inr (.inr 106)), some (.inl x1), some (.inl x2), some (.inl (0 : Int)), none, none]) (zDk zD_215_ok 1 rfl) zm_215 (by decide) rfl ?_
  exact ok_lm_isJoined_c2 hq x1 x2 M zN (0 : Int) none none h
def zD_223 : List (Nat × Instr × Nat) := [(0, .aload_n (0), 1), (1, .getfield (248), 3), (4, .iload_n (1), 1), (5, .invokestatic (202), 3), (8, .iconst (1), 1), (9, .if_icmp .ne (10), 3), (12, .aload_n (0), 1), (13, .iload_n (1), 1), (14, .iload_n (2), 1), (15, .invokevirtual (276), 3), (18, .ireturn, 1), (19, .aload_n (0), 1), (20, .getfield (43), 3), (23, .bipush (20), 2), (25, .iload_n (1), 1), (26, .imul, 1), (27, .iload_n (2), 1), (28, .iadd, 1), (29, .iaload, 1), (30, .iconst (-1), 1), (31, .if_icmp .eq (15), 3), (34, .aload_n (0), 1), (35, .getfield (43), 3), (38, .bipush (20), 2), (40, .iload_n (1), 1), (41, .imul, 1), (42, .iload_n (2), 1), (43, .iadd, 1), (44, .iaload, 1), (45, .ireturn, 1), (46, .aload_n (0), 1), (47, .iload_n (1), 1), (48, .iconst (3), 1), (49, .invokevirtual (251), 3), (52, .ifCond .ne (12), 3), (55, .aload_n (0), 1), (56, .iload_n (1), 1), (57, .iload_n (2), 1), (58, .invokevirtual (276), 3), (61, .goto (18), 3), (64, .aload_n (0), 1), (65, .iload_n (1), 1), (66, .iconst (4), 1), (67, .iload_n (2), 1), (68, .aload_n (0), 1), (69, .iload_n (1), 1), (70, .iconst (3), 1), (71, .invokevirtual (251), 3), (74, .irem, 1), (75, .iadd, 1), (76, .invokevirtual (251), 3), (79, .ireturn, 1)]
set_option maxRecDepth 100000 in
theorem zD_223_ok : zDo 223 zD_223 = true := by decide +kernel
theorem zc_223 : zcls 223 = 8 := by decide +kernel
theorem zm_223 : zml 223 = 3 := by decide +kernel
theorem zt_223 : zrt 223 = (some (.int)) := by decide +kernel
theorem zk_223 : zkd 223 = 1 ∧ znp 223 + 1 = 3 := by decide +kernel
theorem zr_223 (as : List zV) : zrk 223 as = 1 := by unfold zrk; rw [if_neg (by decide)]; decide +kernel
def lm_wouldGo (x1 : Int) (x2 : Int) (M : Nat → Nat → Int) : Option Int :=
    ((lm_bit (M 106 18) x1 M).bind (fun v5 =>
    (if v5 = (1 : Int) then
    ((lm_placeOf x1 x2 M).bind (fun v15 =>
    (some v15)))
    else
    ((rdI 116 (w32 ((w32 ((20 : Int) * x1)) + x2)) M).bind (fun v29 =>
    (if v29 = (-1 : Int) then
    ((lm_of x1 (3 : Int) M).bind (fun v49 =>
    (if v49 = 0 then
    ((lm_placeOf x1 x2 M).bind (fun v58 =>
    (some v58)))
    else
    ((lm_of x1 (3 : Int) M).bind (fun v71 =>
    (if v71 = 0 then none else ((lm_of x1 (w32 ((4 : Int) + (zrem x2 v71))) M).bind (fun v76 =>
    (some v76)))))))))
    else
    ((rdI 116 (w32 ((w32 ((20 : Int) * x1)) + x2)) M).bind (fun v44 =>
    (some v44)))))))))
set_option maxRecDepth 100000 in
theorem ok_lm_wouldGo {sc : zSc} {x1 : Int} {x2 : Int} {M : Nat → Nat → Int} {P : Int → (Nat → Nat → Int) → Prop} (h : zS (lm_wouldGo x1 x2 M) (fun x => P x M)) : zCi sc 223 [.inr (.inr 106), .inl x1, .inl x2] M P := by
  have ea : zarg (zml 223) [.inr (.inr 106), .inl x1, .inl x2] = [some (.inr (.inr 106)), some (.inl x1), some (.inl x2)] := by rw [zm_223]; rfl
  unfold zCi zCw
  rw [ea, zr_223]
  have hq : 1 ≤ 1 := Nat.le_refl _
  unfold lm_wouldGo at h
  have h := zS_mono h (fun x hx => (⟨x, rfl, hx⟩ : ∃ y, (some (.inl x) : Option zV) = some (.inl y) ∧ P y M))
  skip
  refine E_aload_n (pc := 0) (zDk zD_223_ok 0 rfl) rfl ?_
  refine E_getI (pc := 1) (ci := 8) (f := 18) (zDk zD_223_ok 1 rfl) zc_223 (by decide +kernel) (by decide) zis_8_106 ?_
  refine E_iload_n (pc := 4) (zDk zD_223_ok 2 rfl) rfl ?_
  obtain ⟨v5, e5, h⟩ := zS_bind h
  refine E_staI (pc := 5) (c := 178) (as := [.inl (M 106 18), .inl x1]) (rest := []) (zDk zD_223_ok 3 rfl) zc_223 (by decide +kernel) (by decide +kernel) zk_178 ⟨(Nat.le_of_ble_eq_true rfl), rfl, rfl⟩ (Nat.le_of_ble_eq_true rfl) (zr_178 _) (Nat.lt_of_lt_of_le (by decide) hq) (by rw [zm_178]; exact (Nat.le_of_ble_eq_true rfl)) (ok_lm_bit ⟨v5, e5, ?_⟩)
  refine E_iconst (pc := 8) (zDk zD_223_ok 4 rfl) (by decide +kernel) ?_
  refine E_icmp (pc := 9) (t := 19) (zDk zD_223_ok 5 rfl) rfl (fun hz => ?_) (fun hz => ?_)
  · have h := zS_f h (T_ne hz)
    refine E_aload_n (pc := 19) (zDk zD_223_ok 11 rfl) rfl ?_
    refine E_getR (pc := 20) (ci := 8) (f := 22) (r := 116) (zDk zD_223_ok 12 rfl) zc_223 (by decide +kernel) (by decide) zis_8_106 (by decide +kernel) (by decide) ?_
    refine E_bipush (pc := 23) (zDk zD_223_ok 13 rfl) (by decide +kernel) ?_
    refine E_iload_n (pc := 25) (zDk zD_223_ok 14 rfl) rfl ?_
    refine W_imul (pc := 26) (zDk zD_223_ok 15 rfl) ?_
    refine E_iload_n (pc := 27) (zDk zD_223_ok 16 rfl) rfl ?_
    refine W_iadd (pc := 28) (zDk zD_223_ok 17 rfl) ?_
    obtain ⟨v29, e29, h⟩ := zS_bind h
    refine E_iaload (pc := 29) (zDk zD_223_ok 18 rfl) e29 ?_
    refine E_iconst (pc := 30) (zDk zD_223_ok 19 rfl) (by decide +kernel) ?_
    refine E_icmp (pc := 31) (t := 46) (zDk zD_223_ok 20 rfl) rfl (fun hz => ?_) (fun hz => ?_)
    · have h := zS_t h (T_eq hz)
      refine E_aload_n (pc := 46) (zDk zD_223_ok 30 rfl) rfl ?_
      refine E_iload_n (pc := 47) (zDk zD_223_ok 31 rfl) rfl ?_
      refine E_iconst (pc := 48) (zDk zD_223_ok 32 rfl) (by decide +kernel) ?_
      obtain ⟨v49, e49, h⟩ := zS_bind h
      refine E_virI (pc := 49) (c := 190) (r := 106) (as := [.inl x1, .inl (3 : Int)]) (rest := []) (zDk zD_223_ok 33 rfl) zc_223 (by decide +kernel) zk_190 ⟨(Nat.le_of_ble_eq_true rfl), rfl, rfl⟩ (Nat.le_of_ble_eq_true rfl) (zr_190 _) (Nat.lt_of_lt_of_le (by decide) hq) (by rw [zm_190]; exact (Nat.le_of_ble_eq_true rfl)) ⟨zc_190, by decide⟩ zis_8_106 (ok_lm_of ⟨v49, e49, ?_⟩)
      refine E_if (pc := 52) (t := 64) (zDk zD_223_ok 34 rfl) rfl (fun hz => ?_) (fun hz => ?_)
      · have h := zS_f h (T_ne hz)
        refine E_aload_n (pc := 64) (zDk zD_223_ok 40 rfl) rfl ?_
        refine E_iload_n (pc := 65) (zDk zD_223_ok 41 rfl) rfl ?_
        refine E_iconst (pc := 66) (zDk zD_223_ok 42 rfl) (by decide +kernel) ?_
        refine E_iload_n (pc := 67) (zDk zD_223_ok 43 rfl) rfl ?_
        refine E_aload_n (pc := 68) (zDk zD_223_ok 44 rfl) rfl ?_
        refine E_iload_n (pc := 69) (zDk zD_223_ok 45 rfl) rfl ?_
        refine E_iconst (pc := 70) (zDk zD_223_ok 46 rfl) (by decide +kernel) ?_
        obtain ⟨v71, e71, h⟩ := zS_bind h
        refine E_virI (pc := 71) (c := 190) (r := 106) (as := [.inl x1, .inl (3 : Int)]) (rest := [.inl x2, .inl (4 : Int), .inl x1, .inr (.inr 106)]) (zDk zD_223_ok 47 rfl) zc_223 (by decide +kernel) zk_190 ⟨(Nat.le_of_ble_eq_true rfl), rfl, rfl⟩ (Nat.le_of_ble_eq_true rfl) (zr_190 _) (Nat.lt_of_lt_of_le (by decide) hq) (by rw [zm_190]; exact (Nat.le_of_ble_eq_true rfl)) ⟨zc_190, by decide⟩ zis_8_106 (ok_lm_of ⟨v71, e71, ?_⟩)
        have hn74 : ¬ (v71 = 0) := fun e => by rw [if_pos e] at h; exact zS_none h
        have h := zS_f h hn74
        refine E_irem (pc := 74) (zDk zD_223_ok 48 rfl) hn74 ?_
        refine W_iadd (pc := 75) (zDk zD_223_ok 49 rfl) ?_
        obtain ⟨v76, e76, h⟩ := zS_bind h
        refine E_virI (pc := 76) (c := 190) (r := 106) (as := [.inl x1, .inl (w32 ((4 : Int) + (zrem x2 v71)))]) (rest := []) (zDk zD_223_ok 50 rfl) zc_223 (by decide +kernel) zk_190 ⟨(Nat.le_of_ble_eq_true rfl), rfl, rfl⟩ (Nat.le_of_ble_eq_true rfl) (zr_190 _) (Nat.lt_of_lt_of_le (by decide) hq) (by rw [zm_190]; exact (Nat.le_of_ble_eq_true rfl)) ⟨zc_190, by decide⟩ zis_8_106 (ok_lm_of ⟨v76, e76, ?_⟩)
        have h := zS_some h
        exact E_ireturn (pc := 79) (zDk zD_223_ok 51 rfl) zt_223 h
      · have h := zS_t h (F_ne hz)
        refine E_aload_n (pc := 55) (zDk zD_223_ok 35 rfl) rfl ?_
        refine E_iload_n (pc := 56) (zDk zD_223_ok 36 rfl) rfl ?_
        refine E_iload_n (pc := 57) (zDk zD_223_ok 37 rfl) rfl ?_
        obtain ⟨v58, e58, h⟩ := zS_bind h
        refine E_virI (pc := 58) (c := 221) (r := 106) (as := [.inl x1, .inl x2]) (rest := []) (zDk zD_223_ok 38 rfl) zc_223 (by decide +kernel) zk_221 ⟨(Nat.le_of_ble_eq_true rfl), rfl, rfl⟩ (Nat.le_of_ble_eq_true rfl) (zr_221 _) (Nat.lt_of_lt_of_le (by decide) hq) (by rw [zm_221]; exact (Nat.le_of_ble_eq_true rfl)) ⟨zc_221, by decide⟩ zis_8_106 (ok_lm_placeOf ⟨v58, e58, ?_⟩)
        refine E_goto (pc := 61) (t := 79) (zDk zD_223_ok 39 rfl) rfl ?_
        have h := zS_some h
        exact E_ireturn (pc := 79) (zDk zD_223_ok 51 rfl) zt_223 h
    · have h := zS_f h (F_eq hz)
      refine E_aload_n (pc := 34) (zDk zD_223_ok 21 rfl) rfl ?_
      refine E_getR (pc := 35) (ci := 8) (f := 22) (r := 116) (zDk zD_223_ok 22 rfl) zc_223 (by decide +kernel) (by decide) zis_8_106 (by decide +kernel) (by decide) ?_
      refine E_bipush (pc := 38) (zDk zD_223_ok 23 rfl) (by decide +kernel) ?_
      refine E_iload_n (pc := 40) (zDk zD_223_ok 24 rfl) rfl ?_
      refine W_imul (pc := 41) (zDk zD_223_ok 25 rfl) ?_
      refine E_iload_n (pc := 42) (zDk zD_223_ok 26 rfl) rfl ?_
      refine W_iadd (pc := 43) (zDk zD_223_ok 27 rfl) ?_
      obtain ⟨v44, e44, h⟩ := zS_bind h
      refine E_iaload (pc := 44) (zDk zD_223_ok 28 rfl) e44 ?_
      have h := zS_some h
      exact E_ireturn (pc := 45) (zDk zD_223_ok 29 rfl) zt_223 h
  · have h := zS_t h (F_ne hz)
    refine E_aload_n (pc := 12) (zDk zD_223_ok 6 rfl) rfl ?_
    refine E_iload_n (pc := 13) (zDk zD_223_ok 7 rfl) rfl ?_
    refine E_iload_n (pc := 14) (zDk zD_223_ok 8 rfl) rfl ?_
    obtain ⟨v15, e15, h⟩ := zS_bind h
    refine E_virI (pc := 15) (c := 221) (r := 106) (as := [.inl x1, .inl x2]) (rest := []) (zDk zD_223_ok 9 rfl) zc_223 (by decide +kernel) zk_221 ⟨(Nat.le_of_ble_eq_true rfl), rfl, rfl⟩ (Nat.le_of_ble_eq_true rfl) (zr_221 _) (Nat.lt_of_lt_of_le (by decide) hq) (by rw [zm_221]; exact (Nat.le_of_ble_eq_true rfl)) ⟨zc_221, by decide⟩ zis_8_106 (ok_lm_placeOf ⟨v15, e15, ?_⟩)
    have h := zS_some h
    exact E_ireturn (pc := 18) (zDk zD_223_ok 10 rfl) zt_223 h
def zD_225 : List (Nat × Instr × Nat) := [(0, .iconst (-1), 1), (1, .istore_n (3), 1), (2, .iconst (0), 1), (3, .istore (4), 2), (5, .iload (4), 2), (7, .aload_n (0), 1), (8, .invokevirtual (279), 3), (11, .if_icmp .ge (61), 3), (14, .aload_n (0), 1), (15, .iload_n (1), 1), (16, .invokevirtual (273), 3), (19, .iload (4), 2), (21, .invokestatic (202), 3), (24, .ifCond .ne (6), 3), (27, .goto (39), 3), (30, .aload_n (0), 1), (31, .iload (4), 2), (33, .iload_n (2), 1), (34, .invokevirtual (285), 3), (37, .ifCond .eq (19), 3), (40, .iload_n (3), 1), (41, .iconst (-1), 1), (42, .if_icmp .eq (16), 3), (45, .iload_n (3), 1), (46, .aload_n (0), 1), (47, .iload (4), 2), (49, .iload_n (2), 1), (50, .invokevirtual (276), 3), (53, .if_icmp .eq (5), 3), (56, .iconst (-1), 1), (57, .ireturn, 1), (58, .aload_n (0), 1), (59, .iload (4), 2), (61, .iload_n (2), 1), (62, .invokevirtual (276), 3), (65, .istore_n (3), 1), (66, .iinc (4) (1), 3), (69, .goto (-64), 3), (72, .iload_n (3), 1), (73, .ireturn, 1)]
set_option maxRecDepth 100000 in
theorem zD_225_ok : zDo 225 zD_225 = true := by decide +kernel
theorem zc_225 : zcls 225 = 8 := by decide +kernel
theorem zm_225 : zml 225 = 5 := by decide +kernel
theorem zt_225 : zrt 225 = (some (.int)) := by decide +kernel
theorem zk_225 : zkd 225 = 1 ∧ znp 225 + 1 = 3 := by decide +kernel
theorem zr_225 (as : List zV) : zrk 225 as = 1 := by unfold zrk; rw [if_neg (by decide)]; decide +kernel
def lm_cornerOf_c5 (x1 : Int) (x2 : Int) (M : Nat → Nat → Int) : Nat → Int → Int → Option Int
  | 0, _, _ => none
  | n + 1, y3, y4 =>
    ((lm_names M).bind (fun v8 =>
    (if y4 < v8 then
    ((lm_namesOf x1 M).bind (fun v16 =>
    ((lm_bit v16 y4 M).bind (fun v21 =>
    (if v21 = 0 then
    ((lm_cornerOf_c5 x1 x2 M n) y3 (w32 (y4 + 1)))
    else
    ((lm_inkIn y4 x2 M).bind (fun v34 =>
    (if v34 = 0 then
    (some (-1 : Int))
    else
    (if y3 = (-1 : Int) then
    ((lm_placeOf y4 x2 M).bind (fun v62 =>
    ((lm_cornerOf_c5 x1 x2 M n) v62 (w32 (y4 + 1)))))
    else
    ((lm_placeOf y4 x2 M).bind (fun v50 =>
    (if y3 = v50 then
    ((lm_placeOf y4 x2 M).bind (fun v62 =>
    ((lm_cornerOf_c5 x1 x2 M n) v62 (w32 (y4 + 1)))))
    else
    (some (-1 : Int))))))))))))))
    else
    (some y3))))
set_option maxRecDepth 100000 in
theorem ok_lm_cornerOf_c5 {sc : zSc} {q : Nat} {P : Option zV → (Nat → Nat → Int) → Prop} (hq : 1 ≤ q) (x1 : Int) (x2 : Int) (M : Nat → Nat → Int) : ∀ (n : Nat) (y3 : Int) (y4 : Int), zS (lm_cornerOf_c5 x1 x2 M n y3 y4) (fun x => P (some (.inl x)) M) → zWp sc q 225 5 [some (.inr (.inr 106)), some (.inl x1), some (.inl x2), some (.inl y3), some (.inl y4)] [] M P := by
  intro n
  induction n with
  | zero => intro y3 y4 h; exact (zS_none h).elim
  | succ n ih =>
    intro y3 y4 h
    rw [lm_cornerOf_c5] at h
    refine E_iload (pc := 5) (zDk zD_225_ok 4 rfl) rfl ?_
    refine E_aload_n (pc := 7) (zDk zD_225_ok 5 rfl) rfl ?_
    obtain ⟨v8, e8, h⟩ := zS_bind h
    refine E_virI (pc := 8) (c := 189) (r := 106) (as := []) (rest := [.inl y4]) (zDk zD_225_ok 6 rfl) zc_225 (by decide +kernel) zk_189 ⟨(Nat.le_of_ble_eq_true rfl), rfl, rfl⟩ (Nat.le_of_ble_eq_true rfl) (zr_189 _) (Nat.lt_of_lt_of_le (by decide) hq) (by rw [zm_189]; exact (Nat.le_of_ble_eq_true rfl)) ⟨zc_189, by decide⟩ zis_8_106 (ok_lm_names ⟨v8, e8, ?_⟩)
    refine E_icmp (pc := 11) (t := 72) (zDk zD_225_ok 7 rfl) rfl (fun hz => ?_) (fun hz => ?_)
    · have h := zS_f h (Int.not_lt.mpr (T_ge hz))
      refine E_iload_n (pc := 72) (zDk zD_225_ok 38 rfl) rfl ?_
      have h := zS_some h
      exact E_ireturn (pc := 73) (zDk zD_225_ok 39 rfl) zt_225 h
    · have h := zS_t h (F_ge hz)
      refine E_aload_n (pc := 14) (zDk zD_225_ok 8 rfl) rfl ?_
      refine E_iload_n (pc := 15) (zDk zD_225_ok 9 rfl) rfl ?_
      obtain ⟨v16, e16, h⟩ := zS_bind h
      refine E_virI (pc := 16) (c := 191) (r := 106) (as := [.inl x1]) (rest := []) (zDk zD_225_ok 10 rfl) zc_225 (by decide +kernel) zk_191 ⟨(Nat.le_of_ble_eq_true rfl), rfl, rfl⟩ (Nat.le_of_ble_eq_true rfl) (zr_191 _) (Nat.lt_of_lt_of_le (by decide) hq) (by rw [zm_191]; exact (Nat.le_of_ble_eq_true rfl)) ⟨zc_191, by decide⟩ zis_8_106 (ok_lm_namesOf ⟨v16, e16, ?_⟩)
      refine E_iload (pc := 19) (zDk zD_225_ok 11 rfl) rfl ?_
      obtain ⟨v21, e21, h⟩ := zS_bind h
      refine E_staI (pc := 21) (c := 178) (as := [.inl v16, .inl y4]) (rest := []) (zDk zD_225_ok 12 rfl) zc_225 (by decide +kernel) (by decide +kernel) zk_178 ⟨(Nat.le_of_ble_eq_true rfl), rfl, rfl⟩ (Nat.le_of_ble_eq_true rfl) (zr_178 _) (Nat.lt_of_lt_of_le (by decide) hq) (by rw [zm_178]; exact (Nat.le_of_ble_eq_true rfl)) (ok_lm_bit ⟨v21, e21, ?_⟩)
      refine E_if (pc := 24) (t := 30) (zDk zD_225_ok 13 rfl) rfl (fun hz => ?_) (fun hz => ?_)
      · have h := zS_f h (T_ne hz)
        refine E_aload_n (pc := 30) (zDk zD_225_ok 15 rfl) rfl ?_
        refine E_iload (pc := 31) (zDk zD_225_ok 16 rfl) rfl ?_
        refine E_iload_n (pc := 33) (zDk zD_225_ok 17 rfl) rfl ?_
        obtain ⟨v34, e34, h⟩ := zS_bind h
        refine E_virI (pc := 34) (c := 222) (r := 106) (as := [.inl y4, .inl x2]) (rest := []) (zDk zD_225_ok 18 rfl) zc_225 (by decide +kernel) zk_222 ⟨(Nat.le_of_ble_eq_true rfl), rfl, rfl⟩ (Nat.le_of_ble_eq_true rfl) (zr_222 _) (Nat.lt_of_lt_of_le (by decide) hq) (by rw [zm_222]; exact (Nat.le_of_ble_eq_true rfl)) ⟨zc_222, by decide⟩ zis_8_106 (ok_lm_inkIn ⟨v34, e34, ?_⟩)
        refine E_if (pc := 37) (t := 56) (zDk zD_225_ok 19 rfl) rfl (fun hz => ?_) (fun hz => ?_)
        · have h := zS_t h (T_eq hz)
          refine E_iconst (pc := 56) (zDk zD_225_ok 29 rfl) (by decide +kernel) ?_
          have h := zS_some h
          exact E_ireturn (pc := 57) (zDk zD_225_ok 30 rfl) zt_225 h
        · have h := zS_f h (F_eq hz)
          refine E_iload_n (pc := 40) (zDk zD_225_ok 20 rfl) rfl ?_
          refine E_iconst (pc := 41) (zDk zD_225_ok 21 rfl) (by decide +kernel) ?_
          refine E_icmp (pc := 42) (t := 58) (zDk zD_225_ok 22 rfl) rfl (fun hz => ?_) (fun hz => ?_)
          · have h := zS_t h (T_eq hz)
            refine E_aload_n (pc := 58) (zDk zD_225_ok 31 rfl) rfl ?_
            refine E_iload (pc := 59) (zDk zD_225_ok 32 rfl) rfl ?_
            refine E_iload_n (pc := 61) (zDk zD_225_ok 33 rfl) rfl ?_
            obtain ⟨v62, e62, h⟩ := zS_bind h
            refine E_virI (pc := 62) (c := 221) (r := 106) (as := [.inl y4, .inl x2]) (rest := []) (zDk zD_225_ok 34 rfl) zc_225 (by decide +kernel) zk_221 ⟨(Nat.le_of_ble_eq_true rfl), rfl, rfl⟩ (Nat.le_of_ble_eq_true rfl) (zr_221 _) (Nat.lt_of_lt_of_le (by decide) hq) (by rw [zm_221]; exact (Nat.le_of_ble_eq_true rfl)) ⟨zc_221, by decide⟩ zis_8_106 (ok_lm_placeOf ⟨v62, e62, ?_⟩)
            refine W_istore_n (pc := 65) (L' := [some (.inr (.inr 106)), some (.inl x1), some (.inl x2), some (.inl v62), some (.inl y4)]) (zDk zD_225_ok 35 rfl) zm_225 (by decide) rfl ?_
            refine W_iinc (pc := 66) (L' := [some (.inr (.inr 106)), some (.inl x1), some (.inl x2), some (.inl v62), some (.inl (w32 (y4 + 1)))]) (zDk zD_225_ok 36 rfl) rfl zm_225 (by decide) rfl ?_
            refine E_goto (pc := 69) (t := 5) (zDk zD_225_ok 37 rfl) rfl ?_
            exact (ih) v62 (w32 (y4 + 1)) h
          · have h := zS_f h (F_eq hz)
            refine E_iload_n (pc := 45) (zDk zD_225_ok 23 rfl) rfl ?_
            refine E_aload_n (pc := 46) (zDk zD_225_ok 24 rfl) rfl ?_
            refine E_iload (pc := 47) (zDk zD_225_ok 25 rfl) rfl ?_
            refine E_iload_n (pc := 49) (zDk zD_225_ok 26 rfl) rfl ?_
            obtain ⟨v50, e50, h⟩ := zS_bind h
            refine E_virI (pc := 50) (c := 221) (r := 106) (as := [.inl y4, .inl x2]) (rest := [.inl y3]) (zDk zD_225_ok 27 rfl) zc_225 (by decide +kernel) zk_221 ⟨(Nat.le_of_ble_eq_true rfl), rfl, rfl⟩ (Nat.le_of_ble_eq_true rfl) (zr_221 _) (Nat.lt_of_lt_of_le (by decide) hq) (by rw [zm_221]; exact (Nat.le_of_ble_eq_true rfl)) ⟨zc_221, by decide⟩ zis_8_106 (ok_lm_placeOf ⟨v50, e50, ?_⟩)
            refine E_icmp (pc := 53) (t := 58) (zDk zD_225_ok 28 rfl) rfl (fun hz => ?_) (fun hz => ?_)
            · have h := zS_t h (T_eq hz)
              refine E_aload_n (pc := 58) (zDk zD_225_ok 31 rfl) rfl ?_
              refine E_iload (pc := 59) (zDk zD_225_ok 32 rfl) rfl ?_
              refine E_iload_n (pc := 61) (zDk zD_225_ok 33 rfl) rfl ?_
              obtain ⟨v62, e62, h⟩ := zS_bind h
              refine E_virI (pc := 62) (c := 221) (r := 106) (as := [.inl y4, .inl x2]) (rest := []) (zDk zD_225_ok 34 rfl) zc_225 (by decide +kernel) zk_221 ⟨(Nat.le_of_ble_eq_true rfl), rfl, rfl⟩ (Nat.le_of_ble_eq_true rfl) (zr_221 _) (Nat.lt_of_lt_of_le (by decide) hq) (by rw [zm_221]; exact (Nat.le_of_ble_eq_true rfl)) ⟨zc_221, by decide⟩ zis_8_106 (ok_lm_placeOf ⟨v62, e62, ?_⟩)
              refine W_istore_n (pc := 65) (L' := [some (.inr (.inr 106)), some (.inl x1), some (.inl x2), some (.inl v62), some (.inl y4)]) (zDk zD_225_ok 35 rfl) zm_225 (by decide) rfl ?_
              refine W_iinc (pc := 66) (L' := [some (.inr (.inr 106)), some (.inl x1), some (.inl x2), some (.inl v62), some (.inl (w32 (y4 + 1)))]) (zDk zD_225_ok 36 rfl) rfl zm_225 (by decide) rfl ?_
              refine E_goto (pc := 69) (t := 5) (zDk zD_225_ok 37 rfl) rfl ?_
              exact (ih) v62 (w32 (y4 + 1)) h
            · have h := zS_f h (F_eq hz)
              refine E_iconst (pc := 56) (zDk zD_225_ok 29 rfl) (by decide +kernel) ?_
              have h := zS_some h
              exact E_ireturn (pc := 57) (zDk zD_225_ok 30 rfl) zt_225 h
      · have h := zS_t h (F_ne hz)
        refine E_goto (pc := 27) (t := 66) (zDk zD_225_ok 14 rfl) rfl ?_
        refine W_iinc (pc := 66) (L' := [some (.inr (.inr 106)), some (.inl x1), some (.inl x2), some (.inl y3), some (.inl (w32 (y4 + 1)))]) (zDk zD_225_ok 36 rfl) rfl zm_225 (by decide) rfl ?_
        refine E_goto (pc := 69) (t := 5) (zDk zD_225_ok 37 rfl) rfl ?_
        exact (ih) y3 (w32 (y4 + 1)) h
def lm_cornerOf (x1 : Int) (x2 : Int) (M : Nat → Nat → Int) : Option Int :=
    (lm_cornerOf_c5 x1 x2 M zN (-1 : Int) (0 : Int))
set_option maxRecDepth 100000 in
theorem ok_lm_cornerOf {sc : zSc} {x1 : Int} {x2 : Int} {M : Nat → Nat → Int} {P : Int → (Nat → Nat → Int) → Prop} (h : zS (lm_cornerOf x1 x2 M) (fun x => P x M)) : zCi sc 225 [.inr (.inr 106), .inl x1, .inl x2] M P := by
  have ea : zarg (zml 225) [.inr (.inr 106), .inl x1, .inl x2] = [some (.inr (.inr 106)), some (.inl x1), some (.inl x2), none, none] := by rw [zm_225]; rfl
  unfold zCi zCw
  rw [ea, zr_225]
  have hq : 1 ≤ 1 := Nat.le_refl _
  unfold lm_cornerOf at h
  have h := zS_mono h (fun x hx => (⟨x, rfl, hx⟩ : ∃ y, (some (.inl x) : Option zV) = some (.inl y) ∧ P y M))
  skip
  refine E_iconst (pc := 0) (zDk zD_225_ok 0 rfl) (by decide +kernel) ?_
  refine W_istore_n (pc := 1) (L' := [some (.inr (.inr 106)), some (.inl x1), some (.inl x2), some (.inl (-1 : Int)), none]) (zDk zD_225_ok 1 rfl) zm_225 (by decide) rfl ?_
  refine E_iconst (pc := 2) (zDk zD_225_ok 2 rfl) (by decide +kernel) ?_
  refine W_istore (pc := 3) (L' := [some (.inr (.inr 106)), some (.inl x1), some (.inl x2), some (.inl (-1 : Int)), some (.inl (0 : Int))]) (zDk zD_225_ok 3 rfl) zm_225 (by decide) rfl ?_
  exact ok_lm_cornerOf_c5 hq x1 x2 M zN (-1 : Int) (0 : Int) h
def zD_226 : List (Nat × Instr × Nat) := [(0, .iconst (0), 1), (1, .istore (4), 2), (3, .iload (4), 2), (5, .aload_n (0), 1), (6, .invokevirtual (279), 3), (9, .if_icmp .ge (53), 3), (12, .aload_n (0), 1), (13, .getfield (242), 3), (16, .iconst (1), 1), (17, .if_icmp .ne (45), 3), (20, .aload_n (0), 1), (21, .iload_n (1), 1), (22, .invokevirtual (273), 3), (25, .iload (4), 2), (27, .invokestatic (202), 3), (30, .ifCond .ne (26), 3), (33, .aload_n (0), 1), (34, .iload (4), 2), (36, .iload_n (2), 1), (37, .invokevirtual (276), 3), (40, .iload_n (3), 1), (41, .if_icmp .ne (15), 3), (44, .aload_n (0), 1), (45, .iload (4), 2), (47, .iload_n (2), 1), (48, .invokevirtual (285), 3), (51, .ifCond .le (5), 3), (54, .iconst (0), 1), (55, .ireturn, 1), (56, .iinc (4) (1), 3), (59, .goto (-56), 3), (62, .iconst (0), 1), (63, .istore (4), 2), (65, .iload (4), 2), (67, .iload_n (1), 1), (68, .if_icmp .ge (67), 3), (71, .aload_n (0), 1), (72, .getfield (52), 3), (75, .iload (4), 2), (77, .iaload, 1), (78, .iload_n (2), 1), (79, .if_icmp .eq (6), 3), (82, .goto (47), 3), (85, .aload_n (0), 1), (86, .getfield (242), 3), (89, .iconst (2), 1), (90, .if_icmp .ne (14), 3), (93, .aload_n (0), 1), (94, .getfield (55), 3), (97, .iload (4), 2), (99, .iaload, 1), (100, .iload_n (3), 1), (101, .if_icmp .eq (26), 3), (104, .aload_n (0), 1), (105, .getfield (242), 3), (108, .iconst (3), 1), (109, .if_icmp .ne (20), 3), (112, .aload_n (0), 1), (113, .iload (4), 2), (115, .invokevirtual (273), 3), (118, .aload_n (0), 1), (119, .iload_n (1), 1), (120, .invokevirtual (273), 3), (123, .iand, 1), (124, .ifCond .eq (5), 3), (127, .iconst (0), 1), (128, .ireturn, 1), (129, .iinc (4) (1), 3), (132, .goto (-67), 3), (135, .iconst (1), 1), (136, .ireturn, 1)]
set_option maxRecDepth 100000 in
theorem zD_226_ok : zDo 226 zD_226 = true := by decide +kernel
theorem zc_226 : zcls 226 = 8 := by decide +kernel
theorem zm_226 : zml 226 = 5 := by decide +kernel
theorem zt_226 : zrt 226 = (some (.boolean)) := by decide +kernel
theorem zk_226 : zkd 226 = 1 ∧ znp 226 + 1 = 4 := by decide +kernel
theorem zr_226 (as : List zV) : zrk 226 as = 1 := by unfold zrk; rw [if_neg (by decide)]; decide +kernel
def lm_maySign_c104 (x1 : Int) (x2 : Int) (x3 : Int) (M : Nat → Nat → Int) (h65 : Int → Option Int) (y4 : Int) : Option Int :=
    (if (M 106 16) = (3 : Int) then
    ((lm_namesOf y4 M).bind (fun v115 =>
    ((lm_namesOf x1 M).bind (fun v120 =>
    (if (zand v115 v120) = 0 then
    (h65 (w32 (y4 + 1)))
    else
    (some (0 : Int)))))))
    else
    (h65 (w32 (y4 + 1))))
set_option maxRecDepth 100000 in
theorem ok_lm_maySign_c104 {sc : zSc} {q : Nat} {P : Option zV → (Nat → Nat → Int) → Prop} (hq : 1 ≤ q) (x1 : Int) (x2 : Int) (x3 : Int) (M : Nat → Nat → Int) (h65 : Int → Option Int) (H65 : ∀ (y4 : Int), zS (h65 y4) (fun x => P (some (.inl x)) M) → zWp sc q 226 65 [some (.inr (.inr 106)), some (.inl x1), some (.inl x2), some (.inl x3), some (.inl y4)] [] M P) : ∀ (y4 : Int), zS (lm_maySign_c104 x1 x2 x3 M h65 y4) (fun x => P (some (.inl x)) M) → zWp sc q 226 104 [some (.inr (.inr 106)), some (.inl x1), some (.inl x2), some (.inl x3), some (.inl y4)] [] M P := by
  intro y4 h
  unfold lm_maySign_c104 at h
  refine E_aload_n (pc := 104) (zDk zD_226_ok 53 rfl) rfl ?_
  refine E_getI (pc := 105) (ci := 8) (f := 16) (zDk zD_226_ok 54 rfl) zc_226 (by decide +kernel) (by decide) zis_8_106 ?_
  refine E_iconst (pc := 108) (zDk zD_226_ok 55 rfl) (by decide +kernel) ?_
  refine E_icmp (pc := 109) (t := 129) (zDk zD_226_ok 56 rfl) rfl (fun hz => ?_) (fun hz => ?_)
  · have h := zS_f h (T_ne hz)
    refine W_iinc (pc := 129) (L' := [some (.inr (.inr 106)), some (.inl x1), some (.inl x2), some (.inl x3), some (.inl (w32 (y4 + 1)))]) (zDk zD_226_ok 67 rfl) rfl zm_226 (by decide) rfl ?_
    refine E_goto (pc := 132) (t := 65) (zDk zD_226_ok 68 rfl) rfl ?_
    exact H65 (w32 (y4 + 1)) h
  · have h := zS_t h (F_ne hz)
    refine E_aload_n (pc := 112) (zDk zD_226_ok 57 rfl) rfl ?_
    refine E_iload (pc := 113) (zDk zD_226_ok 58 rfl) rfl ?_
    obtain ⟨v115, e115, h⟩ := zS_bind h
    refine E_virI (pc := 115) (c := 191) (r := 106) (as := [.inl y4]) (rest := []) (zDk zD_226_ok 59 rfl) zc_226 (by decide +kernel) zk_191 ⟨(Nat.le_of_ble_eq_true rfl), rfl, rfl⟩ (Nat.le_of_ble_eq_true rfl) (zr_191 _) (Nat.lt_of_lt_of_le (by decide) hq) (by rw [zm_191]; exact (Nat.le_of_ble_eq_true rfl)) ⟨zc_191, by decide⟩ zis_8_106 (ok_lm_namesOf ⟨v115, e115, ?_⟩)
    refine E_aload_n (pc := 118) (zDk zD_226_ok 60 rfl) rfl ?_
    refine E_iload_n (pc := 119) (zDk zD_226_ok 61 rfl) rfl ?_
    obtain ⟨v120, e120, h⟩ := zS_bind h
    refine E_virI (pc := 120) (c := 191) (r := 106) (as := [.inl x1]) (rest := [.inl v115]) (zDk zD_226_ok 62 rfl) zc_226 (by decide +kernel) zk_191 ⟨(Nat.le_of_ble_eq_true rfl), rfl, rfl⟩ (Nat.le_of_ble_eq_true rfl) (zr_191 _) (Nat.lt_of_lt_of_le (by decide) hq) (by rw [zm_191]; exact (Nat.le_of_ble_eq_true rfl)) ⟨zc_191, by decide⟩ zis_8_106 (ok_lm_namesOf ⟨v120, e120, ?_⟩)
    refine E_iand (pc := 123) (zDk zD_226_ok 63 rfl) ?_
    refine E_if (pc := 124) (t := 129) (zDk zD_226_ok 64 rfl) rfl (fun hz => ?_) (fun hz => ?_)
    · have h := zS_t h (T_eq hz)
      refine W_iinc (pc := 129) (L' := [some (.inr (.inr 106)), some (.inl x1), some (.inl x2), some (.inl x3), some (.inl (w32 (y4 + 1)))]) (zDk zD_226_ok 67 rfl) rfl zm_226 (by decide) rfl ?_
      refine E_goto (pc := 132) (t := 65) (zDk zD_226_ok 68 rfl) rfl ?_
      exact H65 (w32 (y4 + 1)) h
    · have h := zS_f h (F_eq hz)
      refine E_iconst (pc := 127) (zDk zD_226_ok 65 rfl) (by decide +kernel) ?_
      have h := zS_some h
      exact E_ireturnZ (pc := 128) (zDk zD_226_ok 66 rfl) zt_226 (by decide) h
def lm_maySign_c65 (x1 : Int) (x2 : Int) (x3 : Int) (M : Nat → Nat → Int) : Nat → Int → Option Int
  | 0, _ => none
  | n + 1, y4 =>
    (if y4 < x1 then
    ((rdI 119 y4 M).bind (fun v77 =>
    (if v77 = x2 then
    (if (M 106 16) = (2 : Int) then
    ((rdI 120 y4 M).bind (fun v99 =>
    (if v99 = x3 then
    (some (0 : Int))
    else
    (lm_maySign_c104 x1 x2 x3 M (lm_maySign_c65 x1 x2 x3 M n) y4))))
    else
    (lm_maySign_c104 x1 x2 x3 M (lm_maySign_c65 x1 x2 x3 M n) y4))
    else
    ((lm_maySign_c65 x1 x2 x3 M n) (w32 (y4 + 1))))))
    else
    (some (1 : Int)))
set_option maxRecDepth 100000 in
theorem ok_lm_maySign_c65 {sc : zSc} {q : Nat} {P : Option zV → (Nat → Nat → Int) → Prop} (hq : 1 ≤ q) (x1 : Int) (x2 : Int) (x3 : Int) (M : Nat → Nat → Int) : ∀ (n : Nat) (y4 : Int), zS (lm_maySign_c65 x1 x2 x3 M n y4) (fun x => P (some (.inl x)) M) → zWp sc q 226 65 [some (.inr (.inr 106)), some (.inl x1), some (.inl x2), some (.inl x3), some (.inl y4)] [] M P := by
  intro n
  induction n with
  | zero => intro y4 h; exact (zS_none h).elim
  | succ n ih =>
    intro y4 h
    rw [lm_maySign_c65] at h
    refine E_iload (pc := 65) (zDk zD_226_ok 33 rfl) rfl ?_
    refine E_iload_n (pc := 67) (zDk zD_226_ok 34 rfl) rfl ?_
    refine E_icmp (pc := 68) (t := 135) (zDk zD_226_ok 35 rfl) rfl (fun hz => ?_) (fun hz => ?_)
    · have h := zS_f h (Int.not_lt.mpr (T_ge hz))
      refine E_iconst (pc := 135) (zDk zD_226_ok 69 rfl) (by decide +kernel) ?_
      have h := zS_some h
      exact E_ireturnZ (pc := 136) (zDk zD_226_ok 70 rfl) zt_226 (by decide) h
    · have h := zS_t h (F_ge hz)
      refine E_aload_n (pc := 71) (zDk zD_226_ok 36 rfl) rfl ?_
      refine E_getR (pc := 72) (ci := 8) (f := 25) (r := 119) (zDk zD_226_ok 37 rfl) zc_226 (by decide +kernel) (by decide) zis_8_106 (by decide +kernel) (by decide) ?_
      refine E_iload (pc := 75) (zDk zD_226_ok 38 rfl) rfl ?_
      obtain ⟨v77, e77, h⟩ := zS_bind h
      refine E_iaload (pc := 77) (zDk zD_226_ok 39 rfl) e77 ?_
      refine E_iload_n (pc := 78) (zDk zD_226_ok 40 rfl) rfl ?_
      refine E_icmp (pc := 79) (t := 85) (zDk zD_226_ok 41 rfl) rfl (fun hz => ?_) (fun hz => ?_)
      · have h := zS_t h (T_eq hz)
        refine E_aload_n (pc := 85) (zDk zD_226_ok 43 rfl) rfl ?_
        refine E_getI (pc := 86) (ci := 8) (f := 16) (zDk zD_226_ok 44 rfl) zc_226 (by decide +kernel) (by decide) zis_8_106 ?_
        refine E_iconst (pc := 89) (zDk zD_226_ok 45 rfl) (by decide +kernel) ?_
        refine E_icmp (pc := 90) (t := 104) (zDk zD_226_ok 46 rfl) rfl (fun hz => ?_) (fun hz => ?_)
        · have h := zS_f h (T_ne hz)
          exact ok_lm_maySign_c104 hq x1 x2 x3 M (lm_maySign_c65 x1 x2 x3 M n) (ih) y4 h
        · have h := zS_t h (F_ne hz)
          refine E_aload_n (pc := 93) (zDk zD_226_ok 47 rfl) rfl ?_
          refine E_getR (pc := 94) (ci := 8) (f := 26) (r := 120) (zDk zD_226_ok 48 rfl) zc_226 (by decide +kernel) (by decide) zis_8_106 (by decide +kernel) (by decide) ?_
          refine E_iload (pc := 97) (zDk zD_226_ok 49 rfl) rfl ?_
          obtain ⟨v99, e99, h⟩ := zS_bind h
          refine E_iaload (pc := 99) (zDk zD_226_ok 50 rfl) e99 ?_
          refine E_iload_n (pc := 100) (zDk zD_226_ok 51 rfl) rfl ?_
          refine E_icmp (pc := 101) (t := 127) (zDk zD_226_ok 52 rfl) rfl (fun hz => ?_) (fun hz => ?_)
          · have h := zS_t h (T_eq hz)
            refine E_iconst (pc := 127) (zDk zD_226_ok 65 rfl) (by decide +kernel) ?_
            have h := zS_some h
            exact E_ireturnZ (pc := 128) (zDk zD_226_ok 66 rfl) zt_226 (by decide) h
          · have h := zS_f h (F_eq hz)
            exact ok_lm_maySign_c104 hq x1 x2 x3 M (lm_maySign_c65 x1 x2 x3 M n) (ih) y4 h
      · have h := zS_f h (F_eq hz)
        refine E_goto (pc := 82) (t := 129) (zDk zD_226_ok 42 rfl) rfl ?_
        refine W_iinc (pc := 129) (L' := [some (.inr (.inr 106)), some (.inl x1), some (.inl x2), some (.inl x3), some (.inl (w32 (y4 + 1)))]) (zDk zD_226_ok 67 rfl) rfl zm_226 (by decide) rfl ?_
        refine E_goto (pc := 132) (t := 65) (zDk zD_226_ok 68 rfl) rfl ?_
        exact (ih) (w32 (y4 + 1)) h
def lm_maySign_c3 (x1 : Int) (x2 : Int) (x3 : Int) (M : Nat → Nat → Int) : Nat → Int → Option Int
  | 0, _ => none
  | n + 1, y4 =>
    ((lm_names M).bind (fun v6 =>
    (if y4 < v6 then
    (if (M 106 16) = (1 : Int) then
    ((lm_namesOf x1 M).bind (fun v22 =>
    ((lm_bit v22 y4 M).bind (fun v27 =>
    (if v27 = 0 then
    ((lm_placeOf y4 x2 M).bind (fun v37 =>
    (if v37 = x3 then
    ((lm_inkIn y4 x2 M).bind (fun v48 =>
    (if 0 < v48 then
    (some (0 : Int))
    else
    ((lm_maySign_c3 x1 x2 x3 M n) (w32 (y4 + 1))))))
    else
    ((lm_maySign_c3 x1 x2 x3 M n) (w32 (y4 + 1))))))
    else
    ((lm_maySign_c3 x1 x2 x3 M n) (w32 (y4 + 1))))))))
    else
    (lm_maySign_c65 x1 x2 x3 M zN (0 : Int)))
    else
    (lm_maySign_c65 x1 x2 x3 M zN (0 : Int)))))
set_option maxRecDepth 100000 in
theorem ok_lm_maySign_c3 {sc : zSc} {q : Nat} {P : Option zV → (Nat → Nat → Int) → Prop} (hq : 1 ≤ q) (x1 : Int) (x2 : Int) (x3 : Int) (M : Nat → Nat → Int) : ∀ (n : Nat) (y4 : Int), zS (lm_maySign_c3 x1 x2 x3 M n y4) (fun x => P (some (.inl x)) M) → zWp sc q 226 3 [some (.inr (.inr 106)), some (.inl x1), some (.inl x2), some (.inl x3), some (.inl y4)] [] M P := by
  intro n
  induction n with
  | zero => intro y4 h; exact (zS_none h).elim
  | succ n ih =>
    intro y4 h
    rw [lm_maySign_c3] at h
    refine E_iload (pc := 3) (zDk zD_226_ok 2 rfl) rfl ?_
    refine E_aload_n (pc := 5) (zDk zD_226_ok 3 rfl) rfl ?_
    obtain ⟨v6, e6, h⟩ := zS_bind h
    refine E_virI (pc := 6) (c := 189) (r := 106) (as := []) (rest := [.inl y4]) (zDk zD_226_ok 4 rfl) zc_226 (by decide +kernel) zk_189 ⟨(Nat.le_of_ble_eq_true rfl), rfl, rfl⟩ (Nat.le_of_ble_eq_true rfl) (zr_189 _) (Nat.lt_of_lt_of_le (by decide) hq) (by rw [zm_189]; exact (Nat.le_of_ble_eq_true rfl)) ⟨zc_189, by decide⟩ zis_8_106 (ok_lm_names ⟨v6, e6, ?_⟩)
    refine E_icmp (pc := 9) (t := 62) (zDk zD_226_ok 5 rfl) rfl (fun hz => ?_) (fun hz => ?_)
    · have h := zS_f h (Int.not_lt.mpr (T_ge hz))
      refine E_iconst (pc := 62) (zDk zD_226_ok 31 rfl) (by decide +kernel) ?_
      refine W_istore (pc := 63) (L' := [some (.inr (.inr 106)), some (.inl x1), some (.inl x2), some (.inl x3), some (.inl (0 : Int))]) (zDk zD_226_ok 32 rfl) zm_226 (by decide) rfl ?_
      exact ok_lm_maySign_c65 hq x1 x2 x3 M zN (0 : Int) h
    · have h := zS_t h (F_ge hz)
      refine E_aload_n (pc := 12) (zDk zD_226_ok 6 rfl) rfl ?_
      refine E_getI (pc := 13) (ci := 8) (f := 16) (zDk zD_226_ok 7 rfl) zc_226 (by decide +kernel) (by decide) zis_8_106 ?_
      refine E_iconst (pc := 16) (zDk zD_226_ok 8 rfl) (by decide +kernel) ?_
      refine E_icmp (pc := 17) (t := 62) (zDk zD_226_ok 9 rfl) rfl (fun hz => ?_) (fun hz => ?_)
      · have h := zS_f h (T_ne hz)
        refine E_iconst (pc := 62) (zDk zD_226_ok 31 rfl) (by decide +kernel) ?_
        refine W_istore (pc := 63) (L' := [some (.inr (.inr 106)), some (.inl x1), some (.inl x2), some (.inl x3), some (.inl (0 : Int))]) (zDk zD_226_ok 32 rfl) zm_226 (by decide) rfl ?_
        exact ok_lm_maySign_c65 hq x1 x2 x3 M zN (0 : Int) h
      · have h := zS_t h (F_ne hz)
        refine E_aload_n (pc := 20) (zDk zD_226_ok 10 rfl) rfl ?_
        refine E_iload_n (pc := 21) (zDk zD_226_ok 11 rfl) rfl ?_
        obtain ⟨v22, e22, h⟩ := zS_bind h
        refine E_virI (pc := 22) (c := 191) (r := 106) (as := [.inl x1]) (rest := []) (zDk zD_226_ok 12 rfl) zc_226 (by decide +kernel) zk_191 ⟨(Nat.le_of_ble_eq_true rfl), rfl, rfl⟩ (Nat.le_of_ble_eq_true rfl) (zr_191 _) (Nat.lt_of_lt_of_le (by decide) hq) (by rw [zm_191]; exact (Nat.le_of_ble_eq_true rfl)) ⟨zc_191, by decide⟩ zis_8_106 (ok_lm_namesOf ⟨v22, e22, ?_⟩)
        refine E_iload (pc := 25) (zDk zD_226_ok 13 rfl) rfl ?_
        obtain ⟨v27, e27, h⟩ := zS_bind h
        refine E_staI (pc := 27) (c := 178) (as := [.inl v22, .inl y4]) (rest := []) (zDk zD_226_ok 14 rfl) zc_226 (by decide +kernel) (by decide +kernel) zk_178 ⟨(Nat.le_of_ble_eq_true rfl), rfl, rfl⟩ (Nat.le_of_ble_eq_true rfl) (zr_178 _) (Nat.lt_of_lt_of_le (by decide) hq) (by rw [zm_178]; exact (Nat.le_of_ble_eq_true rfl)) (ok_lm_bit ⟨v27, e27, ?_⟩)
        refine E_if (pc := 30) (t := 56) (zDk zD_226_ok 15 rfl) rfl (fun hz => ?_) (fun hz => ?_)
        · have h := zS_f h (T_ne hz)
          refine W_iinc (pc := 56) (L' := [some (.inr (.inr 106)), some (.inl x1), some (.inl x2), some (.inl x3), some (.inl (w32 (y4 + 1)))]) (zDk zD_226_ok 29 rfl) rfl zm_226 (by decide) rfl ?_
          refine E_goto (pc := 59) (t := 3) (zDk zD_226_ok 30 rfl) rfl ?_
          exact (ih) (w32 (y4 + 1)) h
        · have h := zS_t h (F_ne hz)
          refine E_aload_n (pc := 33) (zDk zD_226_ok 16 rfl) rfl ?_
          refine E_iload (pc := 34) (zDk zD_226_ok 17 rfl) rfl ?_
          refine E_iload_n (pc := 36) (zDk zD_226_ok 18 rfl) rfl ?_
          obtain ⟨v37, e37, h⟩ := zS_bind h
          refine E_virI (pc := 37) (c := 221) (r := 106) (as := [.inl y4, .inl x2]) (rest := []) (zDk zD_226_ok 19 rfl) zc_226 (by decide +kernel) zk_221 ⟨(Nat.le_of_ble_eq_true rfl), rfl, rfl⟩ (Nat.le_of_ble_eq_true rfl) (zr_221 _) (Nat.lt_of_lt_of_le (by decide) hq) (by rw [zm_221]; exact (Nat.le_of_ble_eq_true rfl)) ⟨zc_221, by decide⟩ zis_8_106 (ok_lm_placeOf ⟨v37, e37, ?_⟩)
          refine E_iload_n (pc := 40) (zDk zD_226_ok 20 rfl) rfl ?_
          refine E_icmp (pc := 41) (t := 56) (zDk zD_226_ok 21 rfl) rfl (fun hz => ?_) (fun hz => ?_)
          · have h := zS_f h (T_ne hz)
            refine W_iinc (pc := 56) (L' := [some (.inr (.inr 106)), some (.inl x1), some (.inl x2), some (.inl x3), some (.inl (w32 (y4 + 1)))]) (zDk zD_226_ok 29 rfl) rfl zm_226 (by decide) rfl ?_
            refine E_goto (pc := 59) (t := 3) (zDk zD_226_ok 30 rfl) rfl ?_
            exact (ih) (w32 (y4 + 1)) h
          · have h := zS_t h (F_ne hz)
            refine E_aload_n (pc := 44) (zDk zD_226_ok 22 rfl) rfl ?_
            refine E_iload (pc := 45) (zDk zD_226_ok 23 rfl) rfl ?_
            refine E_iload_n (pc := 47) (zDk zD_226_ok 24 rfl) rfl ?_
            obtain ⟨v48, e48, h⟩ := zS_bind h
            refine E_virI (pc := 48) (c := 222) (r := 106) (as := [.inl y4, .inl x2]) (rest := []) (zDk zD_226_ok 25 rfl) zc_226 (by decide +kernel) zk_222 ⟨(Nat.le_of_ble_eq_true rfl), rfl, rfl⟩ (Nat.le_of_ble_eq_true rfl) (zr_222 _) (Nat.lt_of_lt_of_le (by decide) hq) (by rw [zm_222]; exact (Nat.le_of_ble_eq_true rfl)) ⟨zc_222, by decide⟩ zis_8_106 (ok_lm_inkIn ⟨v48, e48, ?_⟩)
            refine E_if (pc := 51) (t := 56) (zDk zD_226_ok 26 rfl) rfl (fun hz => ?_) (fun hz => ?_)
            · have h := zS_f h (Int.not_lt.mpr (T_le hz))
              refine W_iinc (pc := 56) (L' := [some (.inr (.inr 106)), some (.inl x1), some (.inl x2), some (.inl x3), some (.inl (w32 (y4 + 1)))]) (zDk zD_226_ok 29 rfl) rfl zm_226 (by decide) rfl ?_
              refine E_goto (pc := 59) (t := 3) (zDk zD_226_ok 30 rfl) rfl ?_
              exact (ih) (w32 (y4 + 1)) h
            · have h := zS_t h (F_le hz)
              refine E_iconst (pc := 54) (zDk zD_226_ok 27 rfl) (by decide +kernel) ?_
              have h := zS_some h
              exact E_ireturnZ (pc := 55) (zDk zD_226_ok 28 rfl) zt_226 (by decide) h
def lm_maySign (x1 : Int) (x2 : Int) (x3 : Int) (M : Nat → Nat → Int) : Option Int :=
    (lm_maySign_c3 x1 x2 x3 M zN (0 : Int))
set_option maxRecDepth 100000 in
theorem ok_lm_maySign {sc : zSc} {x1 : Int} {x2 : Int} {x3 : Int} {M : Nat → Nat → Int} {P : Int → (Nat → Nat → Int) → Prop} (h : zS (lm_maySign x1 x2 x3 M) (fun x => P x M)) : zCi sc 226 [.inr (.inr 106), .inl x1, .inl x2, .inl x3] M P := by
  have ea : zarg (zml 226) [.inr (.inr 106), .inl x1, .inl x2, .inl x3] = [some (.inr (.inr 106)), some (.inl x1), some (.inl x2), some (.inl x3), none] := by rw [zm_226]; rfl
  unfold zCi zCw
  rw [ea, zr_226]
  have hq : 1 ≤ 1 := Nat.le_refl _
  unfold lm_maySign at h
  have h := zS_mono h (fun x hx => (⟨x, rfl, hx⟩ : ∃ y, (some (.inl x) : Option zV) = some (.inl y) ∧ P y M))
  skip
  refine E_iconst (pc := 0) (zDk zD_226_ok 0 rfl) (by decide +kernel) ?_
  refine W_istore (pc := 1) (L' := [some (.inr (.inr 106)), some (.inl x1), some (.inl x2), some (.inl x3), some (.inl (0 : Int))]) (zDk zD_226_ok 1 rfl) zm_226 (by decide) rfl ?_
  exact ok_lm_maySign_c3 hq x1 x2 x3 M zN (0 : Int) h
def zD_236 : List (Nat × Instr × Nat) := [(0, .iconst (0), 1), (1, .istore_n (3), 1), (2, .iconst (0), 1), (3, .istore (4), 2), (5, .iload (4), 2), (7, .aload_n (0), 1), (8, .invokevirtual (279), 3), (11, .if_icmp .ge (31), 3), (14, .iload_n (3), 1), (15, .aload_n (0), 1), (16, .iload (4), 2), (18, .iload_n (2), 1), (19, .invokevirtual (276), 3), (22, .iload_n (1), 1), (23, .if_icmp .ne (10), 3), (26, .iconst (1), 1), (27, .iload (4), 2), (29, .ishl, 1), (30, .goto (4), 3), (33, .iconst (0), 1), (34, .ior, 1), (35, .istore_n (3), 1), (36, .iinc (4) (1), 3), (39, .goto (-34), 3), (42, .iload_n (3), 1), (43, .ireturn, 1)]
set_option maxRecDepth 100000 in
theorem zD_236_ok : zDo 236 zD_236 = true := by decide +kernel
theorem zc_236 : zcls 236 = 8 := by decide +kernel
theorem zm_236 : zml 236 = 5 := by decide +kernel
theorem zt_236 : zrt 236 = (some (.int)) := by decide +kernel
theorem zk_236 : zkd 236 = 1 ∧ znp 236 + 1 = 3 := by decide +kernel
theorem zr_236 (as : List zV) : zrk 236 as = 1 := by unfold zrk; rw [if_neg (by decide)]; decide +kernel
def lm_hereOf_c5 (x1 : Int) (x2 : Int) (M : Nat → Nat → Int) : Nat → Int → Int → Option Int
  | 0, _, _ => none
  | n + 1, y3, y4 =>
    ((lm_names M).bind (fun v8 =>
    (if y4 < v8 then
    ((lm_placeOf y4 x2 M).bind (fun v19 =>
    (if v19 = x1 then
    ((lm_hereOf_c5 x1 x2 M n) (zor y3 (zshl (1 : Int) y4)) (w32 (y4 + 1)))
    else
    ((lm_hereOf_c5 x1 x2 M n) (zor y3 (0 : Int)) (w32 (y4 + 1))))))
    else
    (some y3))))
set_option maxRecDepth 100000 in
theorem ok_lm_hereOf_c5 {sc : zSc} {q : Nat} {P : Option zV → (Nat → Nat → Int) → Prop} (hq : 1 ≤ q) (x1 : Int) (x2 : Int) (M : Nat → Nat → Int) : ∀ (n : Nat) (y3 : Int) (y4 : Int), zS (lm_hereOf_c5 x1 x2 M n y3 y4) (fun x => P (some (.inl x)) M) → zWp sc q 236 5 [some (.inr (.inr 106)), some (.inl x1), some (.inl x2), some (.inl y3), some (.inl y4)] [] M P := by
  intro n
  induction n with
  | zero => intro y3 y4 h; exact (zS_none h).elim
  | succ n ih =>
    intro y3 y4 h
    rw [lm_hereOf_c5] at h
    refine E_iload (pc := 5) (zDk zD_236_ok 4 rfl) rfl ?_
    refine E_aload_n (pc := 7) (zDk zD_236_ok 5 rfl) rfl ?_
    obtain ⟨v8, e8, h⟩ := zS_bind h
    refine E_virI (pc := 8) (c := 189) (r := 106) (as := []) (rest := [.inl y4]) (zDk zD_236_ok 6 rfl) zc_236 (by decide +kernel) zk_189 ⟨(Nat.le_of_ble_eq_true rfl), rfl, rfl⟩ (Nat.le_of_ble_eq_true rfl) (zr_189 _) (Nat.lt_of_lt_of_le (by decide) hq) (by rw [zm_189]; exact (Nat.le_of_ble_eq_true rfl)) ⟨zc_189, by decide⟩ zis_8_106 (ok_lm_names ⟨v8, e8, ?_⟩)
    refine E_icmp (pc := 11) (t := 42) (zDk zD_236_ok 7 rfl) rfl (fun hz => ?_) (fun hz => ?_)
    · have h := zS_f h (Int.not_lt.mpr (T_ge hz))
      refine E_iload_n (pc := 42) (zDk zD_236_ok 24 rfl) rfl ?_
      have h := zS_some h
      exact E_ireturn (pc := 43) (zDk zD_236_ok 25 rfl) zt_236 h
    · have h := zS_t h (F_ge hz)
      refine E_iload_n (pc := 14) (zDk zD_236_ok 8 rfl) rfl ?_
      refine E_aload_n (pc := 15) (zDk zD_236_ok 9 rfl) rfl ?_
      refine E_iload (pc := 16) (zDk zD_236_ok 10 rfl) rfl ?_
      refine E_iload_n (pc := 18) (zDk zD_236_ok 11 rfl) rfl ?_
      obtain ⟨v19, e19, h⟩ := zS_bind h
      refine E_virI (pc := 19) (c := 221) (r := 106) (as := [.inl y4, .inl x2]) (rest := [.inl y3]) (zDk zD_236_ok 12 rfl) zc_236 (by decide +kernel) zk_221 ⟨(Nat.le_of_ble_eq_true rfl), rfl, rfl⟩ (Nat.le_of_ble_eq_true rfl) (zr_221 _) (Nat.lt_of_lt_of_le (by decide) hq) (by rw [zm_221]; exact (Nat.le_of_ble_eq_true rfl)) ⟨zc_221, by decide⟩ zis_8_106 (ok_lm_placeOf ⟨v19, e19, ?_⟩)
      refine E_iload_n (pc := 22) (zDk zD_236_ok 13 rfl) rfl ?_
      refine E_icmp (pc := 23) (t := 33) (zDk zD_236_ok 14 rfl) rfl (fun hz => ?_) (fun hz => ?_)
      · have h := zS_f h (T_ne hz)
        refine E_iconst (pc := 33) (zDk zD_236_ok 19 rfl) (by decide +kernel) ?_
        refine E_ior (pc := 34) (zDk zD_236_ok 20 rfl) ?_
        refine W_istore_n (pc := 35) (L' := [some (.inr (.inr 106)), some (.inl x1), some (.inl x2), some (.inl (zor y3 (0 : Int))), some (.inl y4)]) (zDk zD_236_ok 21 rfl) zm_236 (by decide) rfl ?_
        refine W_iinc (pc := 36) (L' := [some (.inr (.inr 106)), some (.inl x1), some (.inl x2), some (.inl (zor y3 (0 : Int))), some (.inl (w32 (y4 + 1)))]) (zDk zD_236_ok 22 rfl) rfl zm_236 (by decide) rfl ?_
        refine E_goto (pc := 39) (t := 5) (zDk zD_236_ok 23 rfl) rfl ?_
        exact (ih) (zor y3 (0 : Int)) (w32 (y4 + 1)) h
      · have h := zS_t h (F_ne hz)
        refine E_iconst (pc := 26) (zDk zD_236_ok 15 rfl) (by decide +kernel) ?_
        refine E_iload (pc := 27) (zDk zD_236_ok 16 rfl) rfl ?_
        refine E_ishl (pc := 29) (zDk zD_236_ok 17 rfl) ?_
        refine E_goto (pc := 30) (t := 34) (zDk zD_236_ok 18 rfl) rfl ?_
        refine E_ior (pc := 34) (zDk zD_236_ok 20 rfl) ?_
        refine W_istore_n (pc := 35) (L' := [some (.inr (.inr 106)), some (.inl x1), some (.inl x2), some (.inl (zor y3 (zshl (1 : Int) y4))), some (.inl y4)]) (zDk zD_236_ok 21 rfl) zm_236 (by decide) rfl ?_
        refine W_iinc (pc := 36) (L' := [some (.inr (.inr 106)), some (.inl x1), some (.inl x2), some (.inl (zor y3 (zshl (1 : Int) y4))), some (.inl (w32 (y4 + 1)))]) (zDk zD_236_ok 22 rfl) rfl zm_236 (by decide) rfl ?_
        refine E_goto (pc := 39) (t := 5) (zDk zD_236_ok 23 rfl) rfl ?_
        exact (ih) (zor y3 (zshl (1 : Int) y4)) (w32 (y4 + 1)) h
def lm_hereOf (x1 : Int) (x2 : Int) (M : Nat → Nat → Int) : Option Int :=
    (lm_hereOf_c5 x1 x2 M zN (0 : Int) (0 : Int))
set_option maxRecDepth 100000 in
theorem ok_lm_hereOf {sc : zSc} {x1 : Int} {x2 : Int} {M : Nat → Nat → Int} {P : Int → (Nat → Nat → Int) → Prop} (h : zS (lm_hereOf x1 x2 M) (fun x => P x M)) : zCi sc 236 [.inr (.inr 106), .inl x1, .inl x2] M P := by
  have ea : zarg (zml 236) [.inr (.inr 106), .inl x1, .inl x2] = [some (.inr (.inr 106)), some (.inl x1), some (.inl x2), none, none] := by rw [zm_236]; rfl
  unfold zCi zCw
  rw [ea, zr_236]
  have hq : 1 ≤ 1 := Nat.le_refl _
  unfold lm_hereOf at h
  have h := zS_mono h (fun x hx => (⟨x, rfl, hx⟩ : ∃ y, (some (.inl x) : Option zV) = some (.inl y) ∧ P y M))
  skip
  refine E_iconst (pc := 0) (zDk zD_236_ok 0 rfl) (by decide +kernel) ?_
  refine W_istore_n (pc := 1) (L' := [some (.inr (.inr 106)), some (.inl x1), some (.inl x2), some (.inl (0 : Int)), none]) (zDk zD_236_ok 1 rfl) zm_236 (by decide) rfl ?_
  refine E_iconst (pc := 2) (zDk zD_236_ok 2 rfl) (by decide +kernel) ?_
  refine W_istore (pc := 3) (L' := [some (.inr (.inr 106)), some (.inl x1), some (.inl x2), some (.inl (0 : Int)), some (.inl (0 : Int))]) (zDk zD_236_ok 3 rfl) zm_236 (by decide) rfl ?_
  exact ok_lm_hereOf_c5 hq x1 x2 M zN (0 : Int) (0 : Int) h
def zD_238 : List (Nat × Instr × Nat) := [(0, .iconst (0), 1), (1, .istore_n (2), 1), (2, .iload_n (2), 1), (3, .aload_n (0), 1), (4, .invokevirtual (99), 3), (7, .if_icmp .gt (20), 3), (10, .aload_n (0), 1), (11, .iload_n (1), 1), (12, .iload_n (2), 1), (13, .invokevirtual (285), 3), (16, .ifCond .ne (5), 3), (19, .iload_n (2), 1), (20, .ireturn, 1), (21, .iinc (2) (1), 3), (24, .goto (-22), 3), (27, .iconst (-1), 1), (28, .ireturn, 1)]
set_option maxRecDepth 100000 in
theorem zD_238_ok : zDo 238 zD_238 = true := by decide +kernel
theorem zc_238 : zcls 238 = 8 := by decide +kernel
theorem zm_238 : zml 238 = 3 := by decide +kernel
theorem zt_238 : zrt 238 = (some (.int)) := by decide +kernel
theorem zk_238 : zkd 238 = 1 ∧ znp 238 + 1 = 2 := by decide +kernel
theorem zr_238 (as : List zV) : zrk 238 as = 1 := by unfold zrk; rw [if_neg (by decide)]; decide +kernel
def lm_sleepsOf_c2 (x1 : Int) (M : Nat → Nat → Int) : Nat → Int → Option Int
  | 0, _ => none
  | n + 1, y2 =>
    ((lm_last M).bind (fun v4 =>
    (if v4 < y2 then
    (some (-1 : Int))
    else
    ((lm_inkIn x1 y2 M).bind (fun v13 =>
    (if v13 = 0 then
    (some y2)
    else
    ((lm_sleepsOf_c2 x1 M n) (w32 (y2 + 1)))))))))
set_option maxRecDepth 100000 in
theorem ok_lm_sleepsOf_c2 {sc : zSc} {q : Nat} {P : Option zV → (Nat → Nat → Int) → Prop} (hq : 1 ≤ q) (x1 : Int) (M : Nat → Nat → Int) : ∀ (n : Nat) (y2 : Int), zS (lm_sleepsOf_c2 x1 M n y2) (fun x => P (some (.inl x)) M) → zWp sc q 238 2 [some (.inr (.inr 106)), some (.inl x1), some (.inl y2)] [] M P := by
  intro n
  induction n with
  | zero => intro y2 h; exact (zS_none h).elim
  | succ n ih =>
    intro y2 h
    rw [lm_sleepsOf_c2] at h
    refine E_iload_n (pc := 2) (zDk zD_238_ok 2 rfl) rfl ?_
    refine E_aload_n (pc := 3) (zDk zD_238_ok 3 rfl) rfl ?_
    obtain ⟨v4, e4, h⟩ := zS_bind h
    refine E_virI (pc := 4) (c := 182) (r := 106) (as := []) (rest := [.inl y2]) (zDk zD_238_ok 4 rfl) zc_238 (by decide +kernel) zk_182 ⟨(Nat.le_of_ble_eq_true rfl), rfl, rfl⟩ (Nat.le_of_ble_eq_true rfl) (zr_182 _) (Nat.lt_of_lt_of_le (by decide) hq) (by rw [zm_182]; exact (Nat.le_of_ble_eq_true rfl)) ⟨zc_182, by decide⟩ zis_8_106 (ok_lm_last ⟨v4, e4, ?_⟩)
    refine E_icmp (pc := 7) (t := 27) (zDk zD_238_ok 5 rfl) rfl (fun hz => ?_) (fun hz => ?_)
    · have h := zS_t h (T_gt hz)
      refine E_iconst (pc := 27) (zDk zD_238_ok 15 rfl) (by decide +kernel) ?_
      have h := zS_some h
      exact E_ireturn (pc := 28) (zDk zD_238_ok 16 rfl) zt_238 h
    · have h := zS_f h (Int.not_lt.mpr (F_gt hz))
      refine E_aload_n (pc := 10) (zDk zD_238_ok 6 rfl) rfl ?_
      refine E_iload_n (pc := 11) (zDk zD_238_ok 7 rfl) rfl ?_
      refine E_iload_n (pc := 12) (zDk zD_238_ok 8 rfl) rfl ?_
      obtain ⟨v13, e13, h⟩ := zS_bind h
      refine E_virI (pc := 13) (c := 222) (r := 106) (as := [.inl x1, .inl y2]) (rest := []) (zDk zD_238_ok 9 rfl) zc_238 (by decide +kernel) zk_222 ⟨(Nat.le_of_ble_eq_true rfl), rfl, rfl⟩ (Nat.le_of_ble_eq_true rfl) (zr_222 _) (Nat.lt_of_lt_of_le (by decide) hq) (by rw [zm_222]; exact (Nat.le_of_ble_eq_true rfl)) ⟨zc_222, by decide⟩ zis_8_106 (ok_lm_inkIn ⟨v13, e13, ?_⟩)
      refine E_if (pc := 16) (t := 21) (zDk zD_238_ok 10 rfl) rfl (fun hz => ?_) (fun hz => ?_)
      · have h := zS_f h (T_ne hz)
        refine W_iinc (pc := 21) (L' := [some (.inr (.inr 106)), some (.inl x1), some (.inl (w32 (y2 + 1)))]) (zDk zD_238_ok 13 rfl) rfl zm_238 (by decide) rfl ?_
        refine E_goto (pc := 24) (t := 2) (zDk zD_238_ok 14 rfl) rfl ?_
        exact (ih) (w32 (y2 + 1)) h
      · have h := zS_t h (F_ne hz)
        refine E_iload_n (pc := 19) (zDk zD_238_ok 11 rfl) rfl ?_
        have h := zS_some h
        exact E_ireturn (pc := 20) (zDk zD_238_ok 12 rfl) zt_238 h
def lm_sleepsOf (x1 : Int) (M : Nat → Nat → Int) : Option Int :=
    (lm_sleepsOf_c2 x1 M zN (0 : Int))
set_option maxRecDepth 100000 in
theorem ok_lm_sleepsOf {sc : zSc} {x1 : Int} {M : Nat → Nat → Int} {P : Int → (Nat → Nat → Int) → Prop} (h : zS (lm_sleepsOf x1 M) (fun x => P x M)) : zCi sc 238 [.inr (.inr 106), .inl x1] M P := by
  have ea : zarg (zml 238) [.inr (.inr 106), .inl x1] = [some (.inr (.inr 106)), some (.inl x1), none] := by rw [zm_238]; rfl
  unfold zCi zCw
  rw [ea, zr_238]
  have hq : 1 ≤ 1 := Nat.le_refl _
  unfold lm_sleepsOf at h
  have h := zS_mono h (fun x hx => (⟨x, rfl, hx⟩ : ∃ y, (some (.inl x) : Option zV) = some (.inl y) ∧ P y M))
  skip
  refine E_iconst (pc := 0) (zDk zD_238_ok 0 rfl) (by decide +kernel) ?_
  refine W_istore_n (pc := 1) (L' := [some (.inr (.inr 106)), some (.inl x1), some (.inl (0 : Int))]) (zDk zD_238_ok 1 rfl) zm_238 (by decide) rfl ?_
  exact ok_lm_sleepsOf_c2 hq x1 M zN (0 : Int) h
def zD_246 : List (Nat × Instr × Nat) := [(0, .iconst (0), 1), (1, .istore_n (2), 1), (2, .iconst (0), 1), (3, .istore_n (3), 1), (4, .iload_n (3), 1), (5, .aload_n (0), 1), (6, .getfield (9), 3), (9, .bipush (7), 2), (11, .iaload, 1), (12, .if_icmp .ge (35), 3), (15, .iload_n (2), 1), (16, .aload_n (0), 1), (17, .getfield (52), 3), (20, .iload_n (3), 1), (21, .iaload, 1), (22, .i2l, 1), (23, .lconst (0), 1), (24, .iload_n (1), 1), (25, .i2l, 1), (26, .invokestatic (91), 3), (29, .ifCond .eq (9), 3), (32, .iconst (1), 1), (33, .iload_n (3), 1), (34, .ishl, 1), (35, .goto (4), 3), (38, .iconst (0), 1), (39, .ior, 1), (40, .istore_n (2), 1), (41, .iinc (3) (1), 3), (44, .goto (-40), 3), (47, .iload_n (2), 1), (48, .ireturn, 1)]
set_option maxRecDepth 100000 in
theorem zD_246_ok : zDo 246 zD_246 = true := by decide +kernel
theorem zc_246 : zcls 246 = 8 := by decide +kernel
theorem zm_246 : zml 246 = 4 := by decide +kernel
theorem zt_246 : zrt 246 = (some (.int)) := by decide +kernel
theorem zk_246 : zkd 246 = 1 ∧ znp 246 + 1 = 2 := by decide +kernel
theorem zr_246 (as : List zV) : zrk 246 as = 1 := by unfold zrk; rw [if_neg (by decide)]; decide +kernel
def lm_signsTo_c4 (x1 : Int) (M : Nat → Nat → Int) : Nat → Int → Int → Option Int
  | 0, _, _ => none
  | n + 1, y2, y3 =>
    ((rdI 107 (7 : Int) M).bind (fun v11 =>
    (if y3 < v11 then
    ((rdI 119 y3 M).bind (fun v21 =>
    ((lm_in v21 (0 : Int) x1 M).bind (fun v26 =>
    (if v26 = 0 then
    ((lm_signsTo_c4 x1 M n) (zor y2 (0 : Int)) (w32 (y3 + 1)))
    else
    ((lm_signsTo_c4 x1 M n) (zor y2 (zshl (1 : Int) y3)) (w32 (y3 + 1))))))))
    else
    (some y2))))
set_option maxRecDepth 100000 in
theorem ok_lm_signsTo_c4 {sc : zSc} {q : Nat} {P : Option zV → (Nat → Nat → Int) → Prop} (hq : 1 ≤ q) (x1 : Int) (M : Nat → Nat → Int) : ∀ (n : Nat) (y2 : Int) (y3 : Int), zS (lm_signsTo_c4 x1 M n y2 y3) (fun x => P (some (.inl x)) M) → zWp sc q 246 4 [some (.inr (.inr 106)), some (.inl x1), some (.inl y2), some (.inl y3)] [] M P := by
  intro n
  induction n with
  | zero => intro y2 y3 h; exact (zS_none h).elim
  | succ n ih =>
    intro y2 y3 h
    rw [lm_signsTo_c4] at h
    refine E_iload_n (pc := 4) (zDk zD_246_ok 4 rfl) rfl ?_
    refine E_aload_n (pc := 5) (zDk zD_246_ok 5 rfl) rfl ?_
    refine E_getR (pc := 6) (ci := 8) (f := 1) (r := 107) (zDk zD_246_ok 6 rfl) zc_246 (by decide +kernel) (by decide) zis_8_106 (by decide +kernel) (by decide) ?_
    refine E_bipush (pc := 9) (zDk zD_246_ok 7 rfl) (by decide +kernel) ?_
    obtain ⟨v11, e11, h⟩ := zS_bind h
    refine E_iaload (pc := 11) (zDk zD_246_ok 8 rfl) e11 ?_
    refine E_icmp (pc := 12) (t := 47) (zDk zD_246_ok 9 rfl) rfl (fun hz => ?_) (fun hz => ?_)
    · have h := zS_f h (Int.not_lt.mpr (T_ge hz))
      refine E_iload_n (pc := 47) (zDk zD_246_ok 30 rfl) rfl ?_
      have h := zS_some h
      exact E_ireturn (pc := 48) (zDk zD_246_ok 31 rfl) zt_246 h
    · have h := zS_t h (F_ge hz)
      refine E_iload_n (pc := 15) (zDk zD_246_ok 10 rfl) rfl ?_
      refine E_aload_n (pc := 16) (zDk zD_246_ok 11 rfl) rfl ?_
      refine E_getR (pc := 17) (ci := 8) (f := 25) (r := 119) (zDk zD_246_ok 12 rfl) zc_246 (by decide +kernel) (by decide) zis_8_106 (by decide +kernel) (by decide) ?_
      refine E_iload_n (pc := 20) (zDk zD_246_ok 13 rfl) rfl ?_
      obtain ⟨v21, e21, h⟩ := zS_bind h
      refine E_iaload (pc := 21) (zDk zD_246_ok 14 rfl) e21 ?_
      refine E_i2l (pc := 22) (zDk zD_246_ok 15 rfl) ?_
      refine E_lconst (pc := 23) (v := 0) (zDk zD_246_ok 16 rfl) (by decide +kernel) ?_
      refine E_iload_n (pc := 24) (zDk zD_246_ok 17 rfl) rfl ?_
      refine E_i2l (pc := 25) (zDk zD_246_ok 18 rfl) ?_
      obtain ⟨v26, e26, h⟩ := zS_bind h
      refine E_staI (pc := 26) (c := 176) (as := [.inr (.inl v21), .inr (.inl (0 : Int)), .inr (.inl x1)]) (rest := [.inl y2]) (zDk zD_246_ok 19 rfl) zc_246 (by decide +kernel) (by decide +kernel) zk_176 ⟨(Nat.le_of_ble_eq_true rfl), rfl, rfl⟩ (Nat.le_of_ble_eq_true rfl) (zr_176 _) (Nat.lt_of_lt_of_le (by decide) hq) (by rw [zm_176]; exact (Nat.le_of_ble_eq_true rfl)) (ok_lm_in ⟨v26, e26, ?_⟩)
      refine E_if (pc := 29) (t := 38) (zDk zD_246_ok 20 rfl) rfl (fun hz => ?_) (fun hz => ?_)
      · have h := zS_t h (T_eq hz)
        refine E_iconst (pc := 38) (zDk zD_246_ok 25 rfl) (by decide +kernel) ?_
        refine E_ior (pc := 39) (zDk zD_246_ok 26 rfl) ?_
        refine W_istore_n (pc := 40) (L' := [some (.inr (.inr 106)), some (.inl x1), some (.inl (zor y2 (0 : Int))), some (.inl y3)]) (zDk zD_246_ok 27 rfl) zm_246 (by decide) rfl ?_
        refine W_iinc (pc := 41) (L' := [some (.inr (.inr 106)), some (.inl x1), some (.inl (zor y2 (0 : Int))), some (.inl (w32 (y3 + 1)))]) (zDk zD_246_ok 28 rfl) rfl zm_246 (by decide) rfl ?_
        refine E_goto (pc := 44) (t := 4) (zDk zD_246_ok 29 rfl) rfl ?_
        exact (ih) (zor y2 (0 : Int)) (w32 (y3 + 1)) h
      · have h := zS_f h (F_eq hz)
        refine E_iconst (pc := 32) (zDk zD_246_ok 21 rfl) (by decide +kernel) ?_
        refine E_iload_n (pc := 33) (zDk zD_246_ok 22 rfl) rfl ?_
        refine E_ishl (pc := 34) (zDk zD_246_ok 23 rfl) ?_
        refine E_goto (pc := 35) (t := 39) (zDk zD_246_ok 24 rfl) rfl ?_
        refine E_ior (pc := 39) (zDk zD_246_ok 26 rfl) ?_
        refine W_istore_n (pc := 40) (L' := [some (.inr (.inr 106)), some (.inl x1), some (.inl (zor y2 (zshl (1 : Int) y3))), some (.inl y3)]) (zDk zD_246_ok 27 rfl) zm_246 (by decide) rfl ?_
        refine W_iinc (pc := 41) (L' := [some (.inr (.inr 106)), some (.inl x1), some (.inl (zor y2 (zshl (1 : Int) y3))), some (.inl (w32 (y3 + 1)))]) (zDk zD_246_ok 28 rfl) rfl zm_246 (by decide) rfl ?_
        refine E_goto (pc := 44) (t := 4) (zDk zD_246_ok 29 rfl) rfl ?_
        exact (ih) (zor y2 (zshl (1 : Int) y3)) (w32 (y3 + 1)) h
def lm_signsTo (x1 : Int) (M : Nat → Nat → Int) : Option Int :=
    (lm_signsTo_c4 x1 M zN (0 : Int) (0 : Int))
set_option maxRecDepth 100000 in
theorem ok_lm_signsTo {sc : zSc} {x1 : Int} {M : Nat → Nat → Int} {P : Int → (Nat → Nat → Int) → Prop} (h : zS (lm_signsTo x1 M) (fun x => P x M)) : zCi sc 246 [.inr (.inr 106), .inl x1] M P := by
  have ea : zarg (zml 246) [.inr (.inr 106), .inl x1] = [some (.inr (.inr 106)), some (.inl x1), none, none] := by rw [zm_246]; rfl
  unfold zCi zCw
  rw [ea, zr_246]
  have hq : 1 ≤ 1 := Nat.le_refl _
  unfold lm_signsTo at h
  have h := zS_mono h (fun x hx => (⟨x, rfl, hx⟩ : ∃ y, (some (.inl x) : Option zV) = some (.inl y) ∧ P y M))
  skip
  refine E_iconst (pc := 0) (zDk zD_246_ok 0 rfl) (by decide +kernel) ?_
  refine W_istore_n (pc := 1) (L' := [some (.inr (.inr 106)), some (.inl x1), some (.inl (0 : Int)), none]) (zDk zD_246_ok 1 rfl) zm_246 (by decide) rfl ?_
  refine E_iconst (pc := 2) (zDk zD_246_ok 2 rfl) (by decide +kernel) ?_
  refine W_istore_n (pc := 3) (L' := [some (.inr (.inr 106)), some (.inl x1), some (.inl (0 : Int)), some (.inl (0 : Int))]) (zDk zD_246_ok 3 rfl) zm_246 (by decide) rfl ?_
  exact ok_lm_signsTo_c4 hq x1 M zN (0 : Int) (0 : Int) h
def zD_249 : List (Nat × Instr × Nat) := [(0, .iconst (0), 1), (1, .istore_n (2), 1), (2, .iconst (0), 1), (3, .istore_n (3), 1), (4, .iload_n (3), 1), (5, .aload_n (0), 1), (6, .getfield (9), 3), (9, .bipush (7), 2), (11, .iaload, 1), (12, .if_icmp .ge (35), 3), (15, .iload_n (2), 1), (16, .aload_n (0), 1), (17, .getfield (52), 3), (20, .iload_n (3), 1), (21, .iaload, 1), (22, .iconst (-1), 1), (23, .if_icmp .ne (7), 3), (26, .iconst (0), 1), (27, .goto (12), 3), (30, .aload_n (0), 1), (31, .iload_n (3), 1), (32, .invokevirtual (273), 3), (35, .iload_n (1), 1), (36, .invokestatic (202), 3), (39, .iadd, 1), (40, .istore_n (2), 1), (41, .iinc (3) (1), 3), (44, .goto (-40), 3), (47, .iload_n (2), 1), (48, .ireturn, 1)]
set_option maxRecDepth 100000 in
theorem zD_249_ok : zDo 249 zD_249 = true := by decide +kernel
theorem zc_249 : zcls 249 = 8 := by decide +kernel
theorem zm_249 : zml 249 = 4 := by decide +kernel
theorem zt_249 : zrt 249 = (some (.int)) := by decide +kernel
theorem zk_249 : zkd 249 = 1 ∧ znp 249 + 1 = 2 := by decide +kernel
theorem zr_249 (as : List zV) : zrk 249 as = 1 := by unfold zrk; rw [if_neg (by decide)]; decide +kernel
def lm_deedsOf_c4 (x1 : Int) (M : Nat → Nat → Int) : Nat → Int → Int → Option Int
  | 0, _, _ => none
  | n + 1, y2, y3 =>
    ((rdI 107 (7 : Int) M).bind (fun v11 =>
    (if y3 < v11 then
    ((rdI 119 y3 M).bind (fun v21 =>
    (if v21 = (-1 : Int) then
    ((lm_deedsOf_c4 x1 M n) (w32 (y2 + (0 : Int))) (w32 (y3 + 1)))
    else
    ((lm_namesOf y3 M).bind (fun v32 =>
    ((lm_bit v32 x1 M).bind (fun v36 =>
    ((lm_deedsOf_c4 x1 M n) (w32 (y2 + v36)) (w32 (y3 + 1))))))))))
    else
    (some y2))))
set_option maxRecDepth 100000 in
theorem ok_lm_deedsOf_c4 {sc : zSc} {q : Nat} {P : Option zV → (Nat → Nat → Int) → Prop} (hq : 1 ≤ q) (x1 : Int) (M : Nat → Nat → Int) : ∀ (n : Nat) (y2 : Int) (y3 : Int), zS (lm_deedsOf_c4 x1 M n y2 y3) (fun x => P (some (.inl x)) M) → zWp sc q 249 4 [some (.inr (.inr 106)), some (.inl x1), some (.inl y2), some (.inl y3)] [] M P := by
  intro n
  induction n with
  | zero => intro y2 y3 h; exact (zS_none h).elim
  | succ n ih =>
    intro y2 y3 h
    rw [lm_deedsOf_c4] at h
    refine E_iload_n (pc := 4) (zDk zD_249_ok 4 rfl) rfl ?_
    refine E_aload_n (pc := 5) (zDk zD_249_ok 5 rfl) rfl ?_
    refine E_getR (pc := 6) (ci := 8) (f := 1) (r := 107) (zDk zD_249_ok 6 rfl) zc_249 (by decide +kernel) (by decide) zis_8_106 (by decide +kernel) (by decide) ?_
    refine E_bipush (pc := 9) (zDk zD_249_ok 7 rfl) (by decide +kernel) ?_
    obtain ⟨v11, e11, h⟩ := zS_bind h
    refine E_iaload (pc := 11) (zDk zD_249_ok 8 rfl) e11 ?_
    refine E_icmp (pc := 12) (t := 47) (zDk zD_249_ok 9 rfl) rfl (fun hz => ?_) (fun hz => ?_)
    · have h := zS_f h (Int.not_lt.mpr (T_ge hz))
      refine E_iload_n (pc := 47) (zDk zD_249_ok 28 rfl) rfl ?_
      have h := zS_some h
      exact E_ireturn (pc := 48) (zDk zD_249_ok 29 rfl) zt_249 h
    · have h := zS_t h (F_ge hz)
      refine E_iload_n (pc := 15) (zDk zD_249_ok 10 rfl) rfl ?_
      refine E_aload_n (pc := 16) (zDk zD_249_ok 11 rfl) rfl ?_
      refine E_getR (pc := 17) (ci := 8) (f := 25) (r := 119) (zDk zD_249_ok 12 rfl) zc_249 (by decide +kernel) (by decide) zis_8_106 (by decide +kernel) (by decide) ?_
      refine E_iload_n (pc := 20) (zDk zD_249_ok 13 rfl) rfl ?_
      obtain ⟨v21, e21, h⟩ := zS_bind h
      refine E_iaload (pc := 21) (zDk zD_249_ok 14 rfl) e21 ?_
      refine E_iconst (pc := 22) (zDk zD_249_ok 15 rfl) (by decide +kernel) ?_
      refine E_icmp (pc := 23) (t := 30) (zDk zD_249_ok 16 rfl) rfl (fun hz => ?_) (fun hz => ?_)
      · have h := zS_f h (T_ne hz)
        refine E_aload_n (pc := 30) (zDk zD_249_ok 19 rfl) rfl ?_
        refine E_iload_n (pc := 31) (zDk zD_249_ok 20 rfl) rfl ?_
        obtain ⟨v32, e32, h⟩ := zS_bind h
        refine E_virI (pc := 32) (c := 191) (r := 106) (as := [.inl y3]) (rest := [.inl y2]) (zDk zD_249_ok 21 rfl) zc_249 (by decide +kernel) zk_191 ⟨(Nat.le_of_ble_eq_true rfl), rfl, rfl⟩ (Nat.le_of_ble_eq_true rfl) (zr_191 _) (Nat.lt_of_lt_of_le (by decide) hq) (by rw [zm_191]; exact (Nat.le_of_ble_eq_true rfl)) ⟨zc_191, by decide⟩ zis_8_106 (ok_lm_namesOf ⟨v32, e32, ?_⟩)
        refine E_iload_n (pc := 35) (zDk zD_249_ok 22 rfl) rfl ?_
        obtain ⟨v36, e36, h⟩ := zS_bind h
        refine E_staI (pc := 36) (c := 178) (as := [.inl v32, .inl x1]) (rest := [.inl y2]) (zDk zD_249_ok 23 rfl) zc_249 (by decide +kernel) (by decide +kernel) zk_178 ⟨(Nat.le_of_ble_eq_true rfl), rfl, rfl⟩ (Nat.le_of_ble_eq_true rfl) (zr_178 _) (Nat.lt_of_lt_of_le (by decide) hq) (by rw [zm_178]; exact (Nat.le_of_ble_eq_true rfl)) (ok_lm_bit ⟨v36, e36, ?_⟩)
        refine W_iadd (pc := 39) (zDk zD_249_ok 24 rfl) ?_
        refine W_istore_n (pc := 40) (L' := [some (.inr (.inr 106)), some (.inl x1), some (.inl (w32 (y2 + v36))), some (.inl y3)]) (zDk zD_249_ok 25 rfl) zm_249 (by decide) rfl ?_
        refine W_iinc (pc := 41) (L' := [some (.inr (.inr 106)), some (.inl x1), some (.inl (w32 (y2 + v36))), some (.inl (w32 (y3 + 1)))]) (zDk zD_249_ok 26 rfl) rfl zm_249 (by decide) rfl ?_
        refine E_goto (pc := 44) (t := 4) (zDk zD_249_ok 27 rfl) rfl ?_
        exact (ih) (w32 (y2 + v36)) (w32 (y3 + 1)) h
      · have h := zS_t h (F_ne hz)
        refine E_iconst (pc := 26) (zDk zD_249_ok 17 rfl) (by decide +kernel) ?_
        refine E_goto (pc := 27) (t := 39) (zDk zD_249_ok 18 rfl) rfl ?_
        refine W_iadd (pc := 39) (zDk zD_249_ok 24 rfl) ?_
        refine W_istore_n (pc := 40) (L' := [some (.inr (.inr 106)), some (.inl x1), some (.inl (w32 (y2 + (0 : Int)))), some (.inl y3)]) (zDk zD_249_ok 25 rfl) zm_249 (by decide) rfl ?_
        refine W_iinc (pc := 41) (L' := [some (.inr (.inr 106)), some (.inl x1), some (.inl (w32 (y2 + (0 : Int)))), some (.inl (w32 (y3 + 1)))]) (zDk zD_249_ok 26 rfl) rfl zm_249 (by decide) rfl ?_
        refine E_goto (pc := 44) (t := 4) (zDk zD_249_ok 27 rfl) rfl ?_
        exact (ih) (w32 (y2 + (0 : Int))) (w32 (y3 + 1)) h
def lm_deedsOf (x1 : Int) (M : Nat → Nat → Int) : Option Int :=
    (lm_deedsOf_c4 x1 M zN (0 : Int) (0 : Int))
set_option maxRecDepth 100000 in
theorem ok_lm_deedsOf {sc : zSc} {x1 : Int} {M : Nat → Nat → Int} {P : Int → (Nat → Nat → Int) → Prop} (h : zS (lm_deedsOf x1 M) (fun x => P x M)) : zCi sc 249 [.inr (.inr 106), .inl x1] M P := by
  have ea : zarg (zml 249) [.inr (.inr 106), .inl x1] = [some (.inr (.inr 106)), some (.inl x1), none, none] := by rw [zm_249]; rfl
  unfold zCi zCw
  rw [ea, zr_249]
  have hq : 1 ≤ 1 := Nat.le_refl _
  unfold lm_deedsOf at h
  have h := zS_mono h (fun x hx => (⟨x, rfl, hx⟩ : ∃ y, (some (.inl x) : Option zV) = some (.inl y) ∧ P y M))
  skip
  refine E_iconst (pc := 0) (zDk zD_249_ok 0 rfl) (by decide +kernel) ?_
  refine W_istore_n (pc := 1) (L' := [some (.inr (.inr 106)), some (.inl x1), some (.inl (0 : Int)), none]) (zDk zD_249_ok 1 rfl) zm_249 (by decide) rfl ?_
  refine E_iconst (pc := 2) (zDk zD_249_ok 2 rfl) (by decide +kernel) ?_
  refine W_istore_n (pc := 3) (L' := [some (.inr (.inr 106)), some (.inl x1), some (.inl (0 : Int)), some (.inl (0 : Int))]) (zDk zD_249_ok 3 rfl) zm_249 (by decide) rfl ?_
  exact ok_lm_deedsOf_c4 hq x1 M zN (0 : Int) (0 : Int) h
def zD_266 : List (Nat × Instr × Nat) := [(0, .iconst (0), 1), (1, .istore_n (3), 1), (2, .iconst (0), 1), (3, .istore (4), 2), (5, .iload (4), 2), (7, .aload_n (0), 1), (8, .invokevirtual (279), 3), (11, .if_icmp .ge (36), 3), (14, .iload_n (1), 1), (15, .iload (4), 2), (17, .invokestatic (202), 3), (20, .iconst (1), 1), (21, .if_icmp .ne (20), 3), (24, .iload_n (3), 1), (25, .aload_n (0), 1), (26, .aload_n (0), 1), (27, .iload (4), 2), (29, .iconst (0), 1), (30, .invokevirtual (251), 3), (33, .iload_n (2), 1), (34, .invokevirtual (342), 3), (37, .invokestatic (338), 3), (40, .istore_n (3), 1), (41, .iinc (4) (1), 3), (44, .goto (-39), 3), (47, .iload_n (3), 1), (48, .ireturn, 1)]
set_option maxRecDepth 100000 in
theorem zD_266_ok : zDo 266 zD_266 = true := by decide +kernel
theorem zc_266 : zcls 266 = 8 := by decide +kernel
theorem zm_266 : zml 266 = 5 := by decide +kernel
theorem zt_266 : zrt 266 = (some (.int)) := by decide +kernel
theorem zk_266 : zkd 266 = 1 ∧ znp 266 + 1 = 3 := by decide +kernel
theorem zr_266 (as : List zV) : zrk 266 as = 1 := by unfold zrk; rw [if_neg (by decide)]; decide +kernel
def lm_farthest_c5 (x1 : Int) (x2 : Int) (M : Nat → Nat → Int) : Nat → Int → Int → Option Int
  | 0, _, _ => none
  | n + 1, y3, y4 =>
    ((lm_names M).bind (fun v8 =>
    (if y4 < v8 then
    ((lm_bit x1 y4 M).bind (fun v17 =>
    (if v17 = (1 : Int) then
    ((lm_of y4 (0 : Int) M).bind (fun v30 =>
    ((lm_wayOf v30 x2 M).bind (fun v34 =>
    ((lm_farthest_c5 x1 x2 M n) (zmax y3 v34) (w32 (y4 + 1)))))))
    else
    ((lm_farthest_c5 x1 x2 M n) y3 (w32 (y4 + 1))))))
    else
    (some y3))))
set_option maxRecDepth 100000 in
theorem ok_lm_farthest_c5 {sc : zSc} {q : Nat} {P : Option zV → (Nat → Nat → Int) → Prop} (hq : 1 ≤ q) (x1 : Int) (x2 : Int) (M : Nat → Nat → Int) : ∀ (n : Nat) (y3 : Int) (y4 : Int), zS (lm_farthest_c5 x1 x2 M n y3 y4) (fun x => P (some (.inl x)) M) → zWp sc q 266 5 [some (.inr (.inr 106)), some (.inl x1), some (.inl x2), some (.inl y3), some (.inl y4)] [] M P := by
  intro n
  induction n with
  | zero => intro y3 y4 h; exact (zS_none h).elim
  | succ n ih =>
    intro y3 y4 h
    rw [lm_farthest_c5] at h
    refine E_iload (pc := 5) (zDk zD_266_ok 4 rfl) rfl ?_
    refine E_aload_n (pc := 7) (zDk zD_266_ok 5 rfl) rfl ?_
    obtain ⟨v8, e8, h⟩ := zS_bind h
    refine E_virI (pc := 8) (c := 189) (r := 106) (as := []) (rest := [.inl y4]) (zDk zD_266_ok 6 rfl) zc_266 (by decide +kernel) zk_189 ⟨(Nat.le_of_ble_eq_true rfl), rfl, rfl⟩ (Nat.le_of_ble_eq_true rfl) (zr_189 _) (Nat.lt_of_lt_of_le (by decide) hq) (by rw [zm_189]; exact (Nat.le_of_ble_eq_true rfl)) ⟨zc_189, by decide⟩ zis_8_106 (ok_lm_names ⟨v8, e8, ?_⟩)
    refine E_icmp (pc := 11) (t := 47) (zDk zD_266_ok 7 rfl) rfl (fun hz => ?_) (fun hz => ?_)
    · have h := zS_f h (Int.not_lt.mpr (T_ge hz))
      refine E_iload_n (pc := 47) (zDk zD_266_ok 25 rfl) rfl ?_
      have h := zS_some h
      exact E_ireturn (pc := 48) (zDk zD_266_ok 26 rfl) zt_266 h
    · have h := zS_t h (F_ge hz)
      refine E_iload_n (pc := 14) (zDk zD_266_ok 8 rfl) rfl ?_
      refine E_iload (pc := 15) (zDk zD_266_ok 9 rfl) rfl ?_
      obtain ⟨v17, e17, h⟩ := zS_bind h
      refine E_staI (pc := 17) (c := 178) (as := [.inl x1, .inl y4]) (rest := []) (zDk zD_266_ok 10 rfl) zc_266 (by decide +kernel) (by decide +kernel) zk_178 ⟨(Nat.le_of_ble_eq_true rfl), rfl, rfl⟩ (Nat.le_of_ble_eq_true rfl) (zr_178 _) (Nat.lt_of_lt_of_le (by decide) hq) (by rw [zm_178]; exact (Nat.le_of_ble_eq_true rfl)) (ok_lm_bit ⟨v17, e17, ?_⟩)
      refine E_iconst (pc := 20) (zDk zD_266_ok 11 rfl) (by decide +kernel) ?_
      refine E_icmp (pc := 21) (t := 41) (zDk zD_266_ok 12 rfl) rfl (fun hz => ?_) (fun hz => ?_)
      · have h := zS_f h (T_ne hz)
        refine W_iinc (pc := 41) (L' := [some (.inr (.inr 106)), some (.inl x1), some (.inl x2), some (.inl y3), some (.inl (w32 (y4 + 1)))]) (zDk zD_266_ok 23 rfl) rfl zm_266 (by decide) rfl ?_
        refine E_goto (pc := 44) (t := 5) (zDk zD_266_ok 24 rfl) rfl ?_
        exact (ih) y3 (w32 (y4 + 1)) h
      · have h := zS_t h (F_ne hz)
        refine E_iload_n (pc := 24) (zDk zD_266_ok 13 rfl) rfl ?_
        refine E_aload_n (pc := 25) (zDk zD_266_ok 14 rfl) rfl ?_
        refine E_aload_n (pc := 26) (zDk zD_266_ok 15 rfl) rfl ?_
        refine E_iload (pc := 27) (zDk zD_266_ok 16 rfl) rfl ?_
        refine E_iconst (pc := 29) (zDk zD_266_ok 17 rfl) (by decide +kernel) ?_
        obtain ⟨v30, e30, h⟩ := zS_bind h
        refine E_virI (pc := 30) (c := 190) (r := 106) (as := [.inl y4, .inl (0 : Int)]) (rest := [.inr (.inr 106), .inl y3]) (zDk zD_266_ok 18 rfl) zc_266 (by decide +kernel) zk_190 ⟨(Nat.le_of_ble_eq_true rfl), rfl, rfl⟩ (Nat.le_of_ble_eq_true rfl) (zr_190 _) (Nat.lt_of_lt_of_le (by decide) hq) (by rw [zm_190]; exact (Nat.le_of_ble_eq_true rfl)) ⟨zc_190, by decide⟩ zis_8_106 (ok_lm_of ⟨v30, e30, ?_⟩)
        refine E_iload_n (pc := 33) (zDk zD_266_ok 19 rfl) rfl ?_
        obtain ⟨v34, e34, h⟩ := zS_bind h
        refine E_virI (pc := 34) (c := 260) (r := 106) (as := [.inl v30, .inl x2]) (rest := [.inl y3]) (zDk zD_266_ok 20 rfl) zc_266 (by decide +kernel) zk_260 ⟨(Nat.le_of_ble_eq_true rfl), rfl, rfl⟩ (Nat.le_of_ble_eq_true rfl) (zr_260 _) (Nat.lt_of_lt_of_le (by decide) hq) (by rw [zm_260]; exact (Nat.le_of_ble_eq_true rfl)) ⟨zc_260, by decide⟩ zis_8_106 (ok_lm_wayOf ⟨v34, e34, ?_⟩)
        refine W_max (pc := 37) (zDk zD_266_ok 21 rfl) zc_266 (by decide +kernel) (Nat.le_of_ble_eq_true rfl) (Nat.lt_of_lt_of_le (by decide) hq) ?_
        refine W_istore_n (pc := 40) (L' := [some (.inr (.inr 106)), some (.inl x1), some (.inl x2), some (.inl (zmax y3 v34)), some (.inl y4)]) (zDk zD_266_ok 22 rfl) zm_266 (by decide) rfl ?_
        refine W_iinc (pc := 41) (L' := [some (.inr (.inr 106)), some (.inl x1), some (.inl x2), some (.inl (zmax y3 v34)), some (.inl (w32 (y4 + 1)))]) (zDk zD_266_ok 23 rfl) rfl zm_266 (by decide) rfl ?_
        refine E_goto (pc := 44) (t := 5) (zDk zD_266_ok 24 rfl) rfl ?_
        exact (ih) (zmax y3 v34) (w32 (y4 + 1)) h
def lm_farthest (x1 : Int) (x2 : Int) (M : Nat → Nat → Int) : Option Int :=
    (lm_farthest_c5 x1 x2 M zN (0 : Int) (0 : Int))
set_option maxRecDepth 100000 in
theorem ok_lm_farthest {sc : zSc} {x1 : Int} {x2 : Int} {M : Nat → Nat → Int} {P : Int → (Nat → Nat → Int) → Prop} (h : zS (lm_farthest x1 x2 M) (fun x => P x M)) : zCi sc 266 [.inr (.inr 106), .inl x1, .inl x2] M P := by
  have ea : zarg (zml 266) [.inr (.inr 106), .inl x1, .inl x2] = [some (.inr (.inr 106)), some (.inl x1), some (.inl x2), none, none] := by rw [zm_266]; rfl
  unfold zCi zCw
  rw [ea, zr_266]
  have hq : 1 ≤ 1 := Nat.le_refl _
  unfold lm_farthest at h
  have h := zS_mono h (fun x hx => (⟨x, rfl, hx⟩ : ∃ y, (some (.inl x) : Option zV) = some (.inl y) ∧ P y M))
  skip
  refine E_iconst (pc := 0) (zDk zD_266_ok 0 rfl) (by decide +kernel) ?_
  refine W_istore_n (pc := 1) (L' := [some (.inr (.inr 106)), some (.inl x1), some (.inl x2), some (.inl (0 : Int)), none]) (zDk zD_266_ok 1 rfl) zm_266 (by decide) rfl ?_
  refine E_iconst (pc := 2) (zDk zD_266_ok 2 rfl) (by decide +kernel) ?_
  refine W_istore (pc := 3) (L' := [some (.inr (.inr 106)), some (.inl x1), some (.inl x2), some (.inl (0 : Int)), some (.inl (0 : Int))]) (zDk zD_266_ok 3 rfl) zm_266 (by decide) rfl ?_
  exact ok_lm_farthest_c5 hq x1 x2 M zN (0 : Int) (0 : Int) h
